def rm_X5_untilWith : Room := { frames := 5, cells := 0, slots := 0, locals := 114 }
def o_X5_untilWith : (Int32 × sk_M) → Option Value := fun r => some (.int r.1)
def w_X5_untilWith (G : sk_G) (u0 : Nat → Nat) : (Int32 × sk_M) → sk_B := fun r => [(md_W G u0 r.2)]
set_option maxHeartbeats 4000000 in
set_option maxRecDepth 100000 in
theorem c_X5_untilWith (l : Launch) (G : sk_G) (u0 : Nat → Nat) (S0 : sk_M) (p1 : Int32) (p2 : Int32) (p3 : Int32) : sk_ctr l G yX5_untilWith cX5_untilWith 5 (some .int) rm_X5_untilWith [.ref (u0 0), .int p1, .int p2, .int p3] [(md_W G u0 S0)] (m_X5_untilWith S0 p1 p2 p3) o_X5_untilWith (w_X5_untilWith G u0) := by
  refine sk_entry (own := RX5) (by decide) rfl (lv0 := [some (.ref (u0 0)), some (.int p1), some (.int p2), some (.int p3), none]) rfl (Nat.le_of_ble_eq_true rfl) ?_
  intro Γ X
  unfold m_X5_untilWith
  refine sk_aload_n (pc' := 1) X rfl dX5_untilWith_0 rfl ?_
  refine sk_callV (bs2 := fun r1 => [(md_W G u0 r1)]) (st := []) (st2 := fun r1 => []) (As := []) (pc' := 4) X (c_X5_leaves l G u0 S0) lk_RX5_163 [0] rfl (by decide) (fun _ => rfl) rfl rfl rfl ⟨(Nat.le_of_ble_eq_true rfl), (Nat.le_of_ble_eq_true rfl)⟩ ⟨rfl, rfl⟩ ⟨(Nat.le_of_ble_eq_true rfl), (Nat.le_of_ble_eq_true rfl)⟩ rfl (Nat.le_of_ble_eq_true rfl) rfl dX5_untilWith_1 rfl (fun _ => rfl) (fun _ => rfl) (fun r1 => ?_)
  refine sk_aload_n (pc' := 5) X rfl dX5_untilWith_4 rfl ?_
  refine sk_getf (pc' := 8) X 0 0 0 in_RX5 rfl rfl rfl (Nat.le_of_ble_eq_true rfl) fl_RX5_7 rfl dX5_untilWith_5 rfl ?_
  refine sk_bipush (pc' := 10) X bp_8 dX5_untilWith_8 rfl ?_
  refine sk_iload_n (pc' := 11) X rfl dX5_untilWith_10 rfl ?_
  refine sk_iadd (pc' := 12) X dX5_untilWith_11 rfl ?_
  refine sk_iload_n (pc' := 13) X rfl dX5_untilWith_12 rfl ?_
  refine sk_iast (bs' := [(md_W G u0 (md_up r1 1 (((8 : Int32) + p1)).toNatClampNeg p2))]) (pc' := 14) X 0 1 rfl rfl (sk_st 0 (md_st_1 ..) rfl) dX5_untilWith_13 rfl ?_
  refine sk_lt (bsf := fun z => [(md_W G u0 z)]) (lvf := fun _ => [some (.ref (u0 0)), some (.int p1), some (.int p2), some (.int p3), none]) (stf := fun _ => []) (fun N13 => ?_)
  refine sk_aload_n (pc' := 15) X rfl dX5_untilWith_14 rfl ?_
  refine sk_iconst (pc' := 16) X ic_1 dX5_untilWith_15 rfl ?_
  refine sk_iload_n (pc' := 17) X rfl dX5_untilWith_16 rfl ?_
  refine sk_callV (bs2 := fun r17 => [(md_W G u0 r17.2)]) (st := []) (st2 := fun r17 => [.int r17.1]) (As := [.int (1 : Int32), .int p3]) (pc' := 20) X (c_X5_until l G u0 N13 (1 : Int32) p3) lk_RX5_166 [0] rfl (by decide) (fun _ => rfl) rfl rfl rfl ⟨(Nat.le_of_ble_eq_true rfl), (Nat.le_of_ble_eq_true rfl)⟩ ⟨rfl, rfl⟩ ⟨(Nat.le_of_ble_eq_true rfl), (Nat.le_of_ble_eq_true rfl)⟩ rfl (Nat.le_of_ble_eq_true rfl) rfl dX5_untilWith_17 rfl (fun _ => rfl) (fun _ => rfl) (fun r17 => ?_)
  refine sk_istore (lv' := [some (.ref (u0 0)), some (.int p1), some (.int p2), some (.int p3), some (.int r17.1)]) (pc' := 22) X (Nat.le_of_ble_eq_true rfl) rfl rfl dX5_untilWith_20 rfl ?_
  refine sk_aload_n (pc' := 23) X rfl dX5_untilWith_22 rfl ?_
  refine sk_callV (bs2 := fun r23 => [(md_W G u0 r23)]) (st := []) (st2 := fun r23 => []) (As := []) (pc' := 26) X (c_X5_comesBack l G u0 r17.2) lk_RX5_169 [0] rfl (by decide) (fun _ => rfl) rfl rfl rfl ⟨(Nat.le_of_ble_eq_true rfl), (Nat.le_of_ble_eq_true rfl)⟩ ⟨rfl, rfl⟩ ⟨(Nat.le_of_ble_eq_true rfl), (Nat.le_of_ble_eq_true rfl)⟩ rfl (Nat.le_of_ble_eq_true rfl) rfl dX5_untilWith_23 rfl (fun _ => rfl) (fun _ => rfl) (fun r23 => ?_)
  refine sk_iload (pc' := 28) X rfl dX5_untilWith_26 rfl ?_
  exact sk_iret X rfl rfl dX5_untilWith_28
def rm_X5_basin : Room := { frames := 6, cells := 0, slots := 0, locals := 138 }
def o_X5_basin : (Int32 × sk_M) → Option Value := fun r => some (.int r.1)
def w_X5_basin (G : sk_G) (u0 : Nat → Nat) : (Int32 × sk_M) → sk_B := fun r => [(md_W G u0 r.2)]
set_option maxHeartbeats 4000000 in
set_option maxRecDepth 100000 in
theorem c_X5_basin (l : Launch) (G : sk_G) (u0 : Nat → Nat) (S0 : sk_M) (p1 : Int32) (p2 : Int32) : sk_ctr l G yX5_basin cX5_basin 5 (some .int) rm_X5_basin [.ref (u0 0), .int p1, .int p2] [(md_W G u0 S0)] (m_X5_basin S0 p1 p2) o_X5_basin (w_X5_basin G u0) := by
  refine sk_entry (own := RX5) (by decide) rfl (lv0 := [some (.ref (u0 0)), some (.int p1), some (.int p2), none, none]) rfl (Nat.le_of_ble_eq_true rfl) ?_
  intro Γ X
  have h38 : ∀ s38 : sk_M × Int32 × Int32, sk_S Γ (sk_Φ Γ o_X5_basin (w_X5_basin G u0)) 0 0 (m_X5_basin_38 p1 p2 s38) [(md_W G u0 s38.1)] [some (.ref (u0 0)), some (.int p1), some (.int p2), some (.int s38.2.1), some (.int s38.2.2)] 38 [] := by
    intro s38
    unfold m_X5_basin_38
    refine sk_loop (bsf := fun s38 => [(md_W G u0 s38.1)]) (lvf := fun s38 => [some (.ref (u0 0)), some (.int p1), some (.int p2), some (.int s38.2.1), some (.int s38.2.2)]) ?_ sk_fuel s38
    intro k38 s38 ih38
    unfold m_X5_basin_38_step
    refine sk_iload (pc' := 40) X rfl dX5_basin_38 rfl ?_
    refine sk_aload_n (pc' := 41) X rfl dX5_basin_40 rfl ?_
    refine sk_getf (pc' := 44) X 0 0 0 in_RX5 rfl rfl rfl (Nat.le_of_ble_eq_true rfl) fl_RX5_7 rfl dX5_basin_41 rfl ?_
    refine sk_iconst (pc' := 45) X ic_0 dX5_basin_44 rfl ?_
    refine sk_iald (pc' := 46) X 0 1 rfl rfl dX5_basin_45 rfl ?_
    refine sk_icmp_ge (tgt := 75) (pc' := 49) X dX5_basin_46 rfl rfl ?_ ?_
    · refine sk_iload_n (pc' := 76) X rfl dX5_basin_75 rfl ?_
      exact sk_iret X rfl rfl dX5_basin_76
    · refine sk_iload_n (pc' := 50) X rfl dX5_basin_49 rfl ?_
      refine sk_aload_n (pc' := 51) X rfl dX5_basin_50 rfl ?_
      refine sk_iload_n (pc' := 52) X rfl dX5_basin_51 rfl ?_
      refine sk_iload (pc' := 54) X rfl dX5_basin_52 rfl ?_
      refine sk_iload_n (pc' := 55) X rfl dX5_basin_54 rfl ?_
      refine sk_callV (bs2 := fun r55 => [(md_W G u0 r55.2)]) (st := [.int s38.2.1]) (st2 := fun r55 => [.int r55.1, .int s38.2.1]) (As := [.int p1, .int s38.2.2, .int p2]) (pc' := 58) X (c_X5_untilWith l G u0 s38.1 p1 s38.2.2 p2) lk_RX5_179 [0] rfl (by decide) (fun _ => rfl) rfl rfl rfl ⟨(Nat.le_of_ble_eq_true rfl), (Nat.le_of_ble_eq_true rfl)⟩ ⟨rfl, rfl⟩ ⟨(Nat.le_of_ble_eq_true rfl), (Nat.le_of_ble_eq_true rfl)⟩ rfl (Nat.le_of_ble_eq_true rfl) rfl dX5_basin_55 rfl (fun _ => rfl) (fun _ => rfl) (fun r55 => ?_)
      refine sk_iconst (pc' := 59) X ic_m1 dX5_basin_58 rfl ?_
      refine sk_icmp_ne (tgt := 66) (pc' := 62) X dX5_basin_59 rfl rfl ?_ ?_
      · refine sk_iconst (pc' := 67) X ic_1 dX5_basin_66 rfl ?_
        refine sk_iadd (pc' := 68) X dX5_basin_67 rfl ?_
        refine sk_istore_n (lv' := [some (.ref (u0 0)), some (.int p1), some (.int p2), some (.int (s38.2.1 + (1 : Int32))), some (.int s38.2.2)]) (pc' := 69) X (Nat.le_of_ble_eq_true rfl) rfl rfl dX5_basin_68 rfl ?_
        refine sk_lt (bsf := fun _ => [(md_W G u0 r55.2)]) (lvf := fun z => [some (.ref (u0 0)), some (.int p1), some (.int p2), some (.int z), some (.int s38.2.2)]) (stf := fun _ => []) (fun x68 => ?_)
        refine sk_iinc (lv' := [some (.ref (u0 0)), some (.int p1), some (.int p2), some (.int x68), some (.int (s38.2.2 + (1 : Int32)))]) (pc' := 72) X rfl ic_1 (Nat.le_of_ble_eq_true rfl) rfl rfl dX5_basin_69 rfl ?_
        refine sk_goto (tgt := 38) X dX5_basin_72 rfl ?_
        exact (ih38 (r55.2, x68, (s38.2.2 + (1 : Int32))))
      · refine sk_iconst (pc' := 63) X ic_0 dX5_basin_62 rfl ?_
        refine sk_goto (tgt := 67) X dX5_basin_63 rfl ?_
        refine sk_iadd (pc' := 68) X dX5_basin_67 rfl ?_
        refine sk_istore_n (lv' := [some (.ref (u0 0)), some (.int p1), some (.int p2), some (.int (s38.2.1 + (0 : Int32))), some (.int s38.2.2)]) (pc' := 69) X (Nat.le_of_ble_eq_true rfl) rfl rfl dX5_basin_68 rfl ?_
        refine sk_lt (bsf := fun _ => [(md_W G u0 r55.2)]) (lvf := fun z => [some (.ref (u0 0)), some (.int p1), some (.int p2), some (.int z), some (.int s38.2.2)]) (stf := fun _ => []) (fun x68 => ?_)
        refine sk_iinc (lv' := [some (.ref (u0 0)), some (.int p1), some (.int p2), some (.int x68), some (.int (s38.2.2 + (1 : Int32)))]) (pc' := 72) X rfl ic_1 (Nat.le_of_ble_eq_true rfl) rfl rfl dX5_basin_69 rfl ?_
        refine sk_goto (tgt := 38) X dX5_basin_72 rfl ?_
        exact (ih38 (r55.2, x68, (s38.2.2 + (1 : Int32))))
  have h25 : ∀ s25 : sk_M × Int32, sk_S Γ (sk_Φ Γ o_X5_basin (w_X5_basin G u0)) 0 0 (m_X5_basin_25 p1 p2 s25) [(md_W G u0 s25.1)] [some (.ref (u0 0)), some (.int p1), some (.int p2), none, none] 25 [.int s25.2, .ref (u0 0)] := by
    intro s25
    unfold m_X5_basin_25
    refine sk_callV (bs2 := fun r25 => [(md_W G u0 r25.2)]) (st := []) (st2 := fun r25 => [.int r25.1]) (As := [.int s25.2]) (pc' := 28) X (c_X5_refused l G u0 s25.1 s25.2) lk_RX5_46 [0] rfl (by decide) (fun _ => rfl) rfl rfl rfl ⟨(Nat.le_of_ble_eq_true rfl), (Nat.le_of_ble_eq_true rfl)⟩ ⟨rfl, rfl⟩ ⟨(Nat.le_of_ble_eq_true rfl), (Nat.le_of_ble_eq_true rfl)⟩ rfl (Nat.le_of_ble_eq_true rfl) rfl dX5_basin_25 rfl (fun _ => rfl) (fun _ => rfl) (fun r25 => ?_)
    refine sk_if_eq (tgt := 33) (pc' := 31) X dX5_basin_28 rfl rfl ?_ ?_
    · refine sk_iconst (pc' := 34) X ic_0 dX5_basin_33 rfl ?_
      refine sk_istore_n (lv' := [some (.ref (u0 0)), some (.int p1), some (.int p2), some (.int (0 : Int32)), none]) (pc' := 35) X (Nat.le_of_ble_eq_true rfl) rfl rfl dX5_basin_34 rfl ?_
      refine sk_iconst (pc' := 36) X ic_0 dX5_basin_35 rfl ?_
      refine sk_istore (lv' := [some (.ref (u0 0)), some (.int p1), some (.int p2), some (.int (0 : Int32)), some (.int (0 : Int32))]) (pc' := 38) X (Nat.le_of_ble_eq_true rfl) rfl rfl dX5_basin_36 rfl ?_
      exact (h38 (r25.2, (0 : Int32), (0 : Int32)))
    · refine sk_iconst (pc' := 32) X ic_0 dX5_basin_31 rfl ?_
      exact sk_iret X rfl rfl dX5_basin_32
  unfold m_X5_basin
  refine sk_aload_n (pc' := 1) X rfl dX5_basin_0 rfl ?_
  refine sk_aload_n (pc' := 2) X rfl dX5_basin_1 rfl ?_
  refine sk_iload_n (pc' := 3) X rfl dX5_basin_2 rfl ?_
  refine sk_callV (bs2 := fun r3 => [(md_W G u0 S0)]) (st := [.ref (u0 0)]) (st2 := fun r3 => [.int r3, .ref (u0 0)]) (As := [.int p1]) (pc' := 6) X (c_X5_isClock l G u0 S0 p1) lk_RX5_60 [0] rfl (by decide) (fun _ => rfl) rfl rfl rfl ⟨(Nat.le_of_ble_eq_true rfl), (Nat.le_of_ble_eq_true rfl)⟩ ⟨rfl, rfl⟩ ⟨(Nat.le_of_ble_eq_true rfl), (Nat.le_of_ble_eq_true rfl)⟩ rfl (Nat.le_of_ble_eq_true rfl) rfl dX5_basin_3 rfl (fun _ => rfl) (fun _ => rfl) (fun r3 => ?_)
  refine sk_if_ne (tgt := 13) (pc' := 9) X dX5_basin_6 rfl rfl ?_ ?_
  · refine sk_iload_n (pc' := 14) X rfl dX5_basin_13 rfl ?_
    refine sk_callS (bs2 := fun r14 => [(md_W G u0 S0)]) (st := [.ref (u0 0)]) (st2 := fun r14 => [.int r14, .ref (u0 0)]) (As := [.int p2]) (pc' := 17) X (c_X5_isLimit l G p2) lk_RX5_160 [] rfl (by decide) (fun _ => rfl) ⟨(Nat.le_of_ble_eq_true rfl), (Nat.le_of_ble_eq_true rfl)⟩ ⟨rfl, rfl⟩ ⟨(Nat.le_of_ble_eq_true rfl), (Nat.le_of_ble_eq_true rfl)⟩ rfl (Nat.le_of_ble_eq_true rfl) rfl dX5_basin_14 rfl (fun _ => rfl) (fun _ => rfl) (fun r14 => ?_)
    refine sk_if_ne (tgt := 24) (pc' := 20) X dX5_basin_17 rfl rfl ?_ ?_
    · refine sk_iconst (pc' := 25) X ic_0 dX5_basin_24 rfl ?_
      exact (h25 (S0, (0 : Int32)))
    · refine sk_iconst (pc' := 21) X ic_2 dX5_basin_20 rfl ?_
      refine sk_goto (tgt := 25) X dX5_basin_21 rfl ?_
      exact (h25 (S0, (2 : Int32)))
  · refine sk_iconst (pc' := 10) X ic_1 dX5_basin_9 rfl ?_
    refine sk_goto (tgt := 25) X dX5_basin_10 rfl ?_
    exact (h25 (S0, (1 : Int32)))
def rm_X5_worstPhase : Room := { frames := 6, cells := 0, slots := 0, locals := 138 }
def o_X5_worstPhase : (Int32 × sk_M) → Option Value := fun r => some (.int r.1)
def w_X5_worstPhase (G : sk_G) (u0 : Nat → Nat) : (Int32 × sk_M) → sk_B := fun r => [(md_W G u0 r.2)]
set_option maxHeartbeats 4000000 in
set_option maxRecDepth 100000 in
theorem c_X5_worstPhase (l : Launch) (G : sk_G) (u0 : Nat → Nat) (S0 : sk_M) (p1 : Int32) (p2 : Int32) : sk_ctr l G yX5_worstPhase cX5_worstPhase 7 (some .int) rm_X5_worstPhase [.ref (u0 0), .int p1, .int p2] [(md_W G u0 S0)] (m_X5_worstPhase S0 p1 p2) o_X5_worstPhase (w_X5_worstPhase G u0) := by
  refine sk_entry (own := RX5) (by decide) rfl (lv0 := [some (.ref (u0 0)), some (.int p1), some (.int p2), none, none, none, none]) rfl (Nat.le_of_ble_eq_true rfl) ?_
  intro Γ X
  have h41 : ∀ s41 : sk_M × Int32 × Int32 × Int32, sk_S Γ (sk_Φ Γ o_X5_worstPhase (w_X5_worstPhase G u0)) 0 0 (m_X5_worstPhase_41 p1 p2 s41) [(md_W G u0 s41.1)] [some (.ref (u0 0)), some (.int p1), some (.int p2), some (.int s41.2.1), some (.int s41.2.2.1), some (.int s41.2.2.2), none] 41 [] := by
    intro s41
    unfold m_X5_worstPhase_41
    refine sk_loop (bsf := fun s41 => [(md_W G u0 s41.1)]) (lvf := fun s41 => [some (.ref (u0 0)), some (.int p1), some (.int p2), some (.int s41.2.1), some (.int s41.2.2.1), some (.int s41.2.2.2), none]) ?_ sk_fuel s41
    intro k41 s41 ih41
    have h91 : ∀ s91 : sk_M × Int32 × Int32 × Int32 × Int32, sk_S Γ (sk_Φ Γ o_X5_worstPhase (w_X5_worstPhase G u0)) 0 0 (m_X5_worstPhase_91 p1 p2 k41 s91) [(md_W G u0 s91.1)] [some (.ref (u0 0)), some (.int p1), some (.int p2), none, some (.int s91.2.1), some (.int s91.2.2.1), some (.int s91.2.2.2.1)] 91 [.int s91.2.2.2.2] := by
      intro s91
      unfold m_X5_worstPhase_91
      refine sk_istore_n (lv' := [some (.ref (u0 0)), some (.int p1), some (.int p2), some (.int s91.2.2.2.2), some (.int s91.2.1), some (.int s91.2.2.1), some (.int s91.2.2.2.1)]) (pc' := 92) X (Nat.le_of_ble_eq_true rfl) rfl rfl dX5_worstPhase_91 rfl ?_
      refine sk_iload (pc' := 94) X rfl dX5_worstPhase_92 rfl ?_
      refine sk_iload (pc' := 96) X rfl dX5_worstPhase_94 rfl ?_
      refine sk_icmp_le (tgt := 104) (pc' := 99) X dX5_worstPhase_96 rfl rfl ?_ ?_
      · refine sk_iload (pc' := 106) X rfl dX5_worstPhase_104 rfl ?_
        refine sk_istore (lv' := [some (.ref (u0 0)), some (.int p1), some (.int p2), some (.int s91.2.2.2.2), some (.int s91.2.1), some (.int s91.2.2.1), some (.int s91.2.2.2.1)]) (pc' := 108) X (Nat.le_of_ble_eq_true rfl) rfl rfl dX5_worstPhase_106 rfl ?_
        refine sk_iinc (lv' := [some (.ref (u0 0)), some (.int p1), some (.int p2), some (.int s91.2.2.2.2), some (.int s91.2.1), some (.int (s91.2.2.1 + (1 : Int32))), some (.int s91.2.2.2.1)]) (pc' := 111) X rfl ic_1 (Nat.le_of_ble_eq_true rfl) rfl rfl dX5_worstPhase_108 rfl ?_
        refine sk_goto (tgt := 41) X dX5_worstPhase_111 rfl ?_
        exact (sk_kill 6 (ih41 (s91.1, s91.2.2.2.2, s91.2.1, (s91.2.2.1 + (1 : Int32)))))
      · refine sk_iload (pc' := 101) X rfl dX5_worstPhase_99 rfl ?_
        refine sk_goto (tgt := 106) X dX5_worstPhase_101 rfl ?_
        refine sk_istore (lv' := [some (.ref (u0 0)), some (.int p1), some (.int p2), some (.int s91.2.2.2.2), some (.int s91.2.2.2.1), some (.int s91.2.2.1), some (.int s91.2.2.2.1)]) (pc' := 108) X (Nat.le_of_ble_eq_true rfl) rfl rfl dX5_worstPhase_106 rfl ?_
        refine sk_iinc (lv' := [some (.ref (u0 0)), some (.int p1), some (.int p2), some (.int s91.2.2.2.2), some (.int s91.2.2.2.1), some (.int (s91.2.2.1 + (1 : Int32))), some (.int s91.2.2.2.1)]) (pc' := 111) X rfl ic_1 (Nat.le_of_ble_eq_true rfl) rfl rfl dX5_worstPhase_108 rfl ?_
        refine sk_goto (tgt := 41) X dX5_worstPhase_111 rfl ?_
        exact (sk_kill 6 (ih41 (s91.1, s91.2.2.2.2, s91.2.2.2.1, (s91.2.2.1 + (1 : Int32)))))
    have h76 : ∀ s76 : sk_M × Int32 × Int32 × Int32 × Int32, sk_S Γ (sk_Φ Γ o_X5_worstPhase (w_X5_worstPhase G u0)) 0 0 (m_X5_worstPhase_76 p1 p2 k41 s76) [(md_W G u0 s76.1)] [some (.ref (u0 0)), some (.int p1), some (.int p2), some (.int s76.2.1), some (.int s76.2.2.1), some (.int s76.2.2.2.1), none] 76 [.int s76.2.2.2.2] := by
      intro s76
      unfold m_X5_worstPhase_76
      refine sk_istore (lv' := [some (.ref (u0 0)), some (.int p1), some (.int p2), some (.int s76.2.1), some (.int s76.2.2.1), some (.int s76.2.2.2.1), some (.int s76.2.2.2.2)]) (pc' := 78) X (Nat.le_of_ble_eq_true rfl) rfl rfl dX5_worstPhase_76 rfl ?_
      refine sk_iload (pc' := 80) X rfl dX5_worstPhase_78 rfl ?_
      refine sk_iload (pc' := 82) X rfl dX5_worstPhase_80 rfl ?_
      refine sk_icmp_le (tgt := 90) (pc' := 85) X dX5_worstPhase_82 rfl rfl ?_ ?_
      · refine sk_iload_n (pc' := 91) X rfl dX5_worstPhase_90 rfl ?_
        exact (sk_kill 3 (h91 (s76.1, s76.2.2.1, s76.2.2.2.1, s76.2.2.2.2, s76.2.1)))
      · refine sk_iload (pc' := 87) X rfl dX5_worstPhase_85 rfl ?_
        refine sk_goto (tgt := 91) X dX5_worstPhase_87 rfl ?_
        exact (sk_kill 3 (h91 (s76.1, s76.2.2.1, s76.2.2.2.1, s76.2.2.2.2, s76.2.2.2.1)))
    unfold m_X5_worstPhase_41_step
    refine sk_iload (pc' := 43) X rfl dX5_worstPhase_41 rfl ?_
    refine sk_aload_n (pc' := 44) X rfl dX5_worstPhase_43 rfl ?_
    refine sk_getf (pc' := 47) X 0 0 0 in_RX5 rfl rfl rfl (Nat.le_of_ble_eq_true rfl) fl_RX5_7 rfl dX5_worstPhase_44 rfl ?_
    refine sk_iconst (pc' := 48) X ic_0 dX5_worstPhase_47 rfl ?_
    refine sk_iald (pc' := 49) X 0 1 rfl rfl dX5_worstPhase_48 rfl ?_
    refine sk_icmp_ge (tgt := 114) (pc' := 52) X dX5_worstPhase_49 rfl rfl ?_ ?_
    · refine sk_iload_n (pc' := 115) X rfl dX5_worstPhase_114 rfl ?_
      exact sk_iret X rfl rfl dX5_worstPhase_115
    · refine sk_aload_n (pc' := 53) X rfl dX5_worstPhase_52 rfl ?_
      refine sk_iload_n (pc' := 54) X rfl dX5_worstPhase_53 rfl ?_
      refine sk_iload (pc' := 56) X rfl dX5_worstPhase_54 rfl ?_
      refine sk_iload_n (pc' := 57) X rfl dX5_worstPhase_56 rfl ?_
      refine sk_callV (bs2 := fun r57 => [(md_W G u0 r57.2)]) (st := []) (st2 := fun r57 => [.int r57.1]) (As := [.int p1, .int s41.2.2.2, .int p2]) (pc' := 60) X (c_X5_untilWith l G u0 s41.1 p1 s41.2.2.2 p2) lk_RX5_179 [0] rfl (by decide) (fun _ => rfl) rfl rfl rfl ⟨(Nat.le_of_ble_eq_true rfl), (Nat.le_of_ble_eq_true rfl)⟩ ⟨rfl, rfl⟩ ⟨(Nat.le_of_ble_eq_true rfl), (Nat.le_of_ble_eq_true rfl)⟩ rfl (Nat.le_of_ble_eq_true rfl) rfl dX5_worstPhase_57 rfl (fun _ => rfl) (fun _ => rfl) (fun r57 => ?_)
      refine sk_istore (lv' := [some (.ref (u0 0)), some (.int p1), some (.int p2), some (.int s41.2.1), some (.int s41.2.2.1), some (.int s41.2.2.2), some (.int r57.1)]) (pc' := 62) X (Nat.le_of_ble_eq_true rfl) rfl rfl dX5_worstPhase_60 rfl ?_
      refine sk_iload (pc' := 64) X rfl dX5_worstPhase_62 rfl ?_
      refine sk_iconst (pc' := 65) X ic_m1 dX5_worstPhase_64 rfl ?_
      refine sk_icmp_ne (tgt := 74) (pc' := 68) X dX5_worstPhase_65 rfl rfl ?_ ?_
      · refine sk_iload (pc' := 76) X rfl dX5_worstPhase_74 rfl ?_
        exact (sk_kill 6 (h76 (r57.2, s41.2.1, s41.2.2.1, s41.2.2.2, r57.1)))
      · refine sk_sipush (pc' := 71) X sp_1000 dX5_worstPhase_68 rfl ?_
        refine sk_goto (tgt := 76) X dX5_worstPhase_71 rfl ?_
        exact (sk_kill 6 (h76 (r57.2, s41.2.1, s41.2.2.1, s41.2.2.2, (1000 : Int32))))
  have h25 : ∀ s25 : sk_M × Int32, sk_S Γ (sk_Φ Γ o_X5_worstPhase (w_X5_worstPhase G u0)) 0 0 (m_X5_worstPhase_25 p1 p2 s25) [(md_W G u0 s25.1)] [some (.ref (u0 0)), some (.int p1), some (.int p2), none, none, none, none] 25 [.int s25.2, .ref (u0 0)] := by
    intro s25
    unfold m_X5_worstPhase_25
    refine sk_callV (bs2 := fun r25 => [(md_W G u0 r25.2)]) (st := []) (st2 := fun r25 => [.int r25.1]) (As := [.int s25.2]) (pc' := 28) X (c_X5_refused l G u0 s25.1 s25.2) lk_RX5_46 [0] rfl (by decide) (fun _ => rfl) rfl rfl rfl ⟨(Nat.le_of_ble_eq_true rfl), (Nat.le_of_ble_eq_true rfl)⟩ ⟨rfl, rfl⟩ ⟨(Nat.le_of_ble_eq_true rfl), (Nat.le_of_ble_eq_true rfl)⟩ rfl (Nat.le_of_ble_eq_true rfl) rfl dX5_worstPhase_25 rfl (fun _ => rfl) (fun _ => rfl) (fun r25 => ?_)
    refine sk_if_eq (tgt := 33) (pc' := 31) X dX5_worstPhase_28 rfl rfl ?_ ?_
    · refine sk_iconst (pc' := 34) X ic_0 dX5_worstPhase_33 rfl ?_
      refine sk_istore_n (lv' := [some (.ref (u0 0)), some (.int p1), some (.int p2), some (.int (0 : Int32)), none, none, none]) (pc' := 35) X (Nat.le_of_ble_eq_true rfl) rfl rfl dX5_worstPhase_34 rfl ?_
      refine sk_iconst (pc' := 36) X ic_0 dX5_worstPhase_35 rfl ?_
      refine sk_istore (lv' := [some (.ref (u0 0)), some (.int p1), some (.int p2), some (.int (0 : Int32)), some (.int (0 : Int32)), none, none]) (pc' := 38) X (Nat.le_of_ble_eq_true rfl) rfl rfl dX5_worstPhase_36 rfl ?_
      refine sk_iconst (pc' := 39) X ic_0 dX5_worstPhase_38 rfl ?_
      refine sk_istore (lv' := [some (.ref (u0 0)), some (.int p1), some (.int p2), some (.int (0 : Int32)), some (.int (0 : Int32)), some (.int (0 : Int32)), none]) (pc' := 41) X (Nat.le_of_ble_eq_true rfl) rfl rfl dX5_worstPhase_39 rfl ?_
      exact (h41 (r25.2, (0 : Int32), (0 : Int32), (0 : Int32)))
    · refine sk_iconst (pc' := 32) X ic_0 dX5_worstPhase_31 rfl ?_
      exact sk_iret X rfl rfl dX5_worstPhase_32
  unfold m_X5_worstPhase
  refine sk_aload_n (pc' := 1) X rfl dX5_worstPhase_0 rfl ?_
  refine sk_aload_n (pc' := 2) X rfl dX5_worstPhase_1 rfl ?_
  refine sk_iload_n (pc' := 3) X rfl dX5_worstPhase_2 rfl ?_
  refine sk_callV (bs2 := fun r3 => [(md_W G u0 S0)]) (st := [.ref (u0 0)]) (st2 := fun r3 => [.int r3, .ref (u0 0)]) (As := [.int p1]) (pc' := 6) X (c_X5_isClock l G u0 S0 p1) lk_RX5_60 [0] rfl (by decide) (fun _ => rfl) rfl rfl rfl ⟨(Nat.le_of_ble_eq_true rfl), (Nat.le_of_ble_eq_true rfl)⟩ ⟨rfl, rfl⟩ ⟨(Nat.le_of_ble_eq_true rfl), (Nat.le_of_ble_eq_true rfl)⟩ rfl (Nat.le_of_ble_eq_true rfl) rfl dX5_worstPhase_3 rfl (fun _ => rfl) (fun _ => rfl) (fun r3 => ?_)
  refine sk_if_ne (tgt := 13) (pc' := 9) X dX5_worstPhase_6 rfl rfl ?_ ?_
  · refine sk_iload_n (pc' := 14) X rfl dX5_worstPhase_13 rfl ?_
    refine sk_callS (bs2 := fun r14 => [(md_W G u0 S0)]) (st := [.ref (u0 0)]) (st2 := fun r14 => [.int r14, .ref (u0 0)]) (As := [.int p2]) (pc' := 17) X (c_X5_isLimit l G p2) lk_RX5_160 [] rfl (by decide) (fun _ => rfl) ⟨(Nat.le_of_ble_eq_true rfl), (Nat.le_of_ble_eq_true rfl)⟩ ⟨rfl, rfl⟩ ⟨(Nat.le_of_ble_eq_true rfl), (Nat.le_of_ble_eq_true rfl)⟩ rfl (Nat.le_of_ble_eq_true rfl) rfl dX5_worstPhase_14 rfl (fun _ => rfl) (fun _ => rfl) (fun r14 => ?_)
    refine sk_if_ne (tgt := 24) (pc' := 20) X dX5_worstPhase_17 rfl rfl ?_ ?_
    · refine sk_iconst (pc' := 25) X ic_0 dX5_worstPhase_24 rfl ?_
      exact (h25 (S0, (0 : Int32)))
    · refine sk_iconst (pc' := 21) X ic_2 dX5_worstPhase_20 rfl ?_
      refine sk_goto (tgt := 25) X dX5_worstPhase_21 rfl ?_
      exact (h25 (S0, (2 : Int32)))
  · refine sk_iconst (pc' := 10) X ic_1 dX5_worstPhase_9 rfl ?_
    refine sk_goto (tgt := 25) X dX5_worstPhase_10 rfl ?_
    exact (h25 (S0, (1 : Int32)))
def rm_X5_blamed : Room := { frames := 5, cells := 0, slots := 0, locals := 114 }
def o_X5_blamed : (Int32 × sk_M) → Option Value := fun r => some (.int r.1)
def w_X5_blamed (G : sk_G) (u0 : Nat → Nat) : (Int32 × sk_M) → sk_B := fun r => [(md_W G u0 r.2)]
set_option maxHeartbeats 4000000 in
set_option maxRecDepth 100000 in
theorem c_X5_blamed (l : Launch) (G : sk_G) (u0 : Nat → Nat) (S0 : sk_M) (p1 : Int32) : sk_ctr l G yX5_blamed cX5_blamed 4 (some .int) rm_X5_blamed [.ref (u0 0), .int p1] [(md_W G u0 S0)] (m_X5_blamed S0 p1) o_X5_blamed (w_X5_blamed G u0) := by
  refine sk_entry (own := RX5) (by decide) rfl (lv0 := [some (.ref (u0 0)), some (.int p1), none, none]) rfl (Nat.le_of_ble_eq_true rfl) ?_
  intro Γ X
  have h21 : ∀ s21 : sk_M × Int32 × Int32, sk_S Γ (sk_Φ Γ o_X5_blamed (w_X5_blamed G u0)) 0 0 (m_X5_blamed_21 p1 s21) [(md_W G u0 s21.1)] [some (.ref (u0 0)), some (.int p1), some (.int s21.2.1), some (.int s21.2.2)] 21 [] := by
    intro s21
    unfold m_X5_blamed_21
    refine sk_loop (bsf := fun s21 => [(md_W G u0 s21.1)]) (lvf := fun s21 => [some (.ref (u0 0)), some (.int p1), some (.int s21.2.1), some (.int s21.2.2)]) ?_ sk_fuel s21
    intro k21 s21 ih21
    have h78 : ∀ s78 : sk_M × Int32 × Int32, sk_S Γ (sk_Φ Γ o_X5_blamed (w_X5_blamed G u0)) 0 0 (m_X5_blamed_78 p1 k21 s78) [(md_W G u0 s78.1)] [some (.ref (u0 0)), some (.int p1), none, some (.int s78.2.1)] 78 [.int s78.2.2] := by
      intro s78
      unfold m_X5_blamed_78
      refine sk_istore_n (lv' := [some (.ref (u0 0)), some (.int p1), some (.int s78.2.2), some (.int s78.2.1)]) (pc' := 79) X (Nat.le_of_ble_eq_true rfl) rfl rfl dX5_blamed_78 rfl ?_
      refine sk_aload_n (pc' := 80) X rfl dX5_blamed_79 rfl ?_
      refine sk_callV (bs2 := fun r80 => [(md_W G u0 r80)]) (st := []) (st2 := fun r80 => []) (As := []) (pc' := 83) X (c_X5_comesBack l G u0 s78.1) lk_RX5_169 [0] rfl (by decide) (fun _ => rfl) rfl rfl rfl ⟨(Nat.le_of_ble_eq_true rfl), (Nat.le_of_ble_eq_true rfl)⟩ ⟨rfl, rfl⟩ ⟨(Nat.le_of_ble_eq_true rfl), (Nat.le_of_ble_eq_true rfl)⟩ rfl (Nat.le_of_ble_eq_true rfl) rfl dX5_blamed_80 rfl (fun _ => rfl) (fun _ => rfl) (fun r80 => ?_)
      refine sk_iinc (lv' := [some (.ref (u0 0)), some (.int p1), some (.int s78.2.2), some (.int (s78.2.1 + (1 : Int32)))]) (pc' := 86) X rfl ic_1 (Nat.le_of_ble_eq_true rfl) rfl rfl dX5_blamed_83 rfl ?_
      refine sk_goto (tgt := 21) X dX5_blamed_86 rfl ?_
      exact (ih21 (r80, s78.2.2, (s78.2.1 + (1 : Int32))))
    unfold m_X5_blamed_21_step
    refine sk_iload_n (pc' := 22) X rfl dX5_blamed_21 rfl ?_
    refine sk_aload_n (pc' := 23) X rfl dX5_blamed_22 rfl ?_
    refine sk_getf (pc' := 26) X 0 0 0 in_RX5 rfl rfl rfl (Nat.le_of_ble_eq_true rfl) fl_RX5_7 rfl dX5_blamed_23 rfl ?_
    refine sk_iconst (pc' := 27) X ic_5 dX5_blamed_26 rfl ?_
    refine sk_iald (pc' := 28) X 0 1 rfl rfl dX5_blamed_27 rfl ?_
    refine sk_icmp_ge (tgt := 89) (pc' := 31) X dX5_blamed_28 rfl rfl ?_ ?_
    · refine sk_iload_n (pc' := 90) X rfl dX5_blamed_89 rfl ?_
      exact sk_iret X rfl rfl dX5_blamed_90
    · refine sk_iload_n (pc' := 32) X rfl dX5_blamed_31 rfl ?_
      refine sk_iconst (pc' := 33) X ic_m1 dX5_blamed_32 rfl ?_
      refine sk_icmp_ne (tgt := 89) (pc' := 36) X dX5_blamed_33 rfl rfl ?_ ?_
      · refine sk_iload_n (pc' := 90) X rfl dX5_blamed_89 rfl ?_
        exact sk_iret X rfl rfl dX5_blamed_90
      · refine sk_aload_n (pc' := 37) X rfl dX5_blamed_36 rfl ?_
        refine sk_getf (pc' := 40) X 0 0 0 in_RX5 rfl rfl rfl (Nat.le_of_ble_eq_true rfl) fl_RX5_7 rfl dX5_blamed_37 rfl ?_
        refine sk_bipush (pc' := 42) X bp_28 dX5_blamed_40 rfl ?_
        refine sk_iload_n (pc' := 43) X rfl dX5_blamed_42 rfl ?_
        refine sk_iadd (pc' := 44) X dX5_blamed_43 rfl ?_
        refine sk_iald (pc' := 45) X 0 1 rfl rfl dX5_blamed_44 rfl ?_
        refine sk_iconst (pc' := 46) X ic_1 dX5_blamed_45 rfl ?_
        refine sk_icmp_ne (tgt := 83) (pc' := 49) X dX5_blamed_46 rfl rfl ?_ ?_
        · refine sk_iinc (lv' := [some (.ref (u0 0)), some (.int p1), some (.int s21.2.1), some (.int (s21.2.2 + (1 : Int32)))]) (pc' := 86) X rfl ic_1 (Nat.le_of_ble_eq_true rfl) rfl rfl dX5_blamed_83 rfl ?_
          refine sk_goto (tgt := 21) X dX5_blamed_86 rfl ?_
          exact (ih21 (s21.1, s21.2.1, (s21.2.2 + (1 : Int32))))
        · refine sk_aload_n (pc' := 50) X rfl dX5_blamed_49 rfl ?_
          refine sk_callV (bs2 := fun r50 => [(md_W G u0 r50)]) (st := []) (st2 := fun r50 => []) (As := []) (pc' := 53) X (c_X5_leaves l G u0 s21.1) lk_RX5_163 [0] rfl (by decide) (fun _ => rfl) rfl rfl rfl ⟨(Nat.le_of_ble_eq_true rfl), (Nat.le_of_ble_eq_true rfl)⟩ ⟨rfl, rfl⟩ ⟨(Nat.le_of_ble_eq_true rfl), (Nat.le_of_ble_eq_true rfl)⟩ rfl (Nat.le_of_ble_eq_true rfl) rfl dX5_blamed_50 rfl (fun _ => rfl) (fun _ => rfl) (fun r50 => ?_)
          refine sk_aload_n (pc' := 54) X rfl dX5_blamed_53 rfl ?_
          refine sk_getf (pc' := 57) X 0 0 0 in_RX5 rfl rfl rfl (Nat.le_of_ble_eq_true rfl) fl_RX5_7 rfl dX5_blamed_54 rfl ?_
          refine sk_bipush (pc' := 59) X bp_28 dX5_blamed_57 rfl ?_
          refine sk_iload_n (pc' := 60) X rfl dX5_blamed_59 rfl ?_
          refine sk_iadd (pc' := 61) X dX5_blamed_60 rfl ?_
          refine sk_iconst (pc' := 62) X ic_0 dX5_blamed_61 rfl ?_
          refine sk_iast (bs' := [(md_W G u0 (md_up r50 1 (((28 : Int32) + s21.2.2)).toNatClampNeg (0 : Int32)))]) (pc' := 63) X 0 1 rfl rfl (sk_st 0 (md_st_1 ..) rfl) dX5_blamed_62 rfl ?_
          refine sk_lt (bsf := fun z => [(md_W G u0 z)]) (lvf := fun _ => [some (.ref (u0 0)), some (.int p1), some (.int s21.2.1), some (.int s21.2.2)]) (stf := fun _ => []) (fun N62 => ?_)
          refine sk_aload_n (pc' := 64) X rfl dX5_blamed_63 rfl ?_
          refine sk_iconst (pc' := 65) X ic_1 dX5_blamed_64 rfl ?_
          refine sk_iload_n (pc' := 66) X rfl dX5_blamed_65 rfl ?_
          refine sk_callV (bs2 := fun r66 => [(md_W G u0 r66.2)]) (st := []) (st2 := fun r66 => [.int r66.1]) (As := [.int (1 : Int32), .int p1]) (pc' := 69) X (c_X5_until l G u0 N62 (1 : Int32) p1) lk_RX5_166 [0] rfl (by decide) (fun _ => rfl) rfl rfl rfl ⟨(Nat.le_of_ble_eq_true rfl), (Nat.le_of_ble_eq_true rfl)⟩ ⟨rfl, rfl⟩ ⟨(Nat.le_of_ble_eq_true rfl), (Nat.le_of_ble_eq_true rfl)⟩ rfl (Nat.le_of_ble_eq_true rfl) rfl dX5_blamed_66 rfl (fun _ => rfl) (fun _ => rfl) (fun r66 => ?_)
          refine sk_iconst (pc' := 70) X ic_m1 dX5_blamed_69 rfl ?_
          refine sk_icmp_ne (tgt := 77) (pc' := 73) X dX5_blamed_70 rfl rfl ?_ ?_
          · refine sk_iload_n (pc' := 78) X rfl dX5_blamed_77 rfl ?_
            exact (sk_kill 2 (h78 (r66.2, s21.2.2, s21.2.2)))
          · refine sk_iconst (pc' := 74) X ic_m1 dX5_blamed_73 rfl ?_
            refine sk_goto (tgt := 78) X dX5_blamed_74 rfl ?_
            exact (sk_kill 2 (h78 (r66.2, s21.2.2, (-1 : Int32))))
  unfold m_X5_blamed
  refine sk_aload_n (pc' := 1) X rfl dX5_blamed_0 rfl ?_
  refine sk_aload_n (pc' := 2) X rfl dX5_blamed_1 rfl ?_
  refine sk_iload_n (pc' := 3) X rfl dX5_blamed_2 rfl ?_
  refine sk_callS (bs2 := fun r3 => [(md_W G u0 S0)]) (st := [.ref (u0 0), .ref (u0 0)]) (st2 := fun r3 => [.int r3, .ref (u0 0), .ref (u0 0)]) (As := [.int p1]) (pc' := 6) X (c_X5_isLimit l G p1) lk_RX5_160 [] rfl (by decide) (fun _ => rfl) ⟨(Nat.le_of_ble_eq_true rfl), (Nat.le_of_ble_eq_true rfl)⟩ ⟨rfl, rfl⟩ ⟨(Nat.le_of_ble_eq_true rfl), (Nat.le_of_ble_eq_true rfl)⟩ rfl (Nat.le_of_ble_eq_true rfl) rfl dX5_blamed_3 rfl (fun _ => rfl) (fun _ => rfl) (fun r3 => ?_)
  refine sk_callV (bs2 := fun r6 => [(md_W G u0 S0)]) (st := [.ref (u0 0)]) (st2 := fun r6 => [.int r6, .ref (u0 0)]) (As := [.int r3]) (pc' := 9) X (c_X5_need l G u0 S0 r3) lk_RX5_94 [0] rfl (by decide) (fun _ => rfl) rfl rfl rfl ⟨(Nat.le_of_ble_eq_true rfl), (Nat.le_of_ble_eq_true rfl)⟩ ⟨rfl, rfl⟩ ⟨(Nat.le_of_ble_eq_true rfl), (Nat.le_of_ble_eq_true rfl)⟩ rfl (Nat.le_of_ble_eq_true rfl) rfl dX5_blamed_6 rfl (fun _ => rfl) (fun _ => rfl) (fun r6 => ?_)
  refine sk_callV (bs2 := fun r9 => [(md_W G u0 r9.2)]) (st := []) (st2 := fun r9 => [.int r9.1]) (As := [.int r6]) (pc' := 12) X (c_X5_refused l G u0 S0 r6) lk_RX5_46 [0] rfl (by decide) (fun _ => rfl) rfl rfl rfl ⟨(Nat.le_of_ble_eq_true rfl), (Nat.le_of_ble_eq_true rfl)⟩ ⟨rfl, rfl⟩ ⟨(Nat.le_of_ble_eq_true rfl), (Nat.le_of_ble_eq_true rfl)⟩ rfl (Nat.le_of_ble_eq_true rfl) rfl dX5_blamed_9 rfl (fun _ => rfl) (fun _ => rfl) (fun r9 => ?_)
  refine sk_if_eq (tgt := 17) (pc' := 15) X dX5_blamed_12 rfl rfl ?_ ?_
  · refine sk_iconst (pc' := 18) X ic_m1 dX5_blamed_17 rfl ?_
    refine sk_istore_n (lv' := [some (.ref (u0 0)), some (.int p1), some (.int (-1 : Int32)), none]) (pc' := 19) X (Nat.le_of_ble_eq_true rfl) rfl rfl dX5_blamed_18 rfl ?_
    refine sk_iconst (pc' := 20) X ic_0 dX5_blamed_19 rfl ?_
    refine sk_istore_n (lv' := [some (.ref (u0 0)), some (.int p1), some (.int (-1 : Int32)), some (.int (0 : Int32))]) (pc' := 21) X (Nat.le_of_ble_eq_true rfl) rfl rfl dX5_blamed_20 rfl ?_
    exact (h21 (r9.2, (-1 : Int32), (0 : Int32)))
  · refine sk_iconst (pc' := 16) X ic_0 dX5_blamed_15 rfl ?_
    exact sk_iret X rfl rfl dX5_blamed_16
def rm_X5_firesIn : Room := { frames := 4, cells := 0, slots := 0, locals := 90 }
def o_X5_firesIn : (Int32 × sk_M) → Option Value := fun r => some (.int r.1)
def w_X5_firesIn (G : sk_G) (u0 : Nat → Nat) : (Int32 × sk_M) → sk_B := fun r => [(md_W G u0 r.2)]
set_option maxHeartbeats 4000000 in
set_option maxRecDepth 100000 in
theorem c_X5_firesIn (l : Launch) (G : sk_G) (u0 : Nat → Nat) (S0 : sk_M) (p1 : Int32) (p2 : Int32) : sk_ctr l G yX5_firesIn cX5_firesIn 6 (some .int) rm_X5_firesIn [.ref (u0 0), .int p1, .int p2] [(md_W G u0 S0)] (m_X5_firesIn S0 p1 p2) o_X5_firesIn (w_X5_firesIn G u0) := by
  refine sk_entry (own := RX5) (by decide) rfl (lv0 := [some (.ref (u0 0)), some (.int p1), some (.int p2), none, none, none]) rfl (Nat.le_of_ble_eq_true rfl) ?_
  intro Γ X
  have h87 : ∀ s87 : sk_M × Int32, sk_S Γ (sk_Φ Γ o_X5_firesIn (w_X5_firesIn G u0)) 0 0 (m_X5_firesIn_87 p1 p2 s87) [(md_W G u0 s87.1)] [some (.ref (u0 0)), none, none, some (.int s87.2), none, none] 87 [] := by
    intro s87
    unfold m_X5_firesIn_87
    refine sk_aload_n (pc' := 88) X rfl dX5_firesIn_87 rfl ?_
    refine sk_callV (bs2 := fun r88 => [(md_W G u0 r88)]) (st := []) (st2 := fun r88 => []) (As := []) (pc' := 91) X (c_X5_comesBack l G u0 s87.1) lk_RX5_169 [0] rfl (by decide) (fun _ => rfl) rfl rfl rfl ⟨(Nat.le_of_ble_eq_true rfl), (Nat.le_of_ble_eq_true rfl)⟩ ⟨rfl, rfl⟩ ⟨(Nat.le_of_ble_eq_true rfl), (Nat.le_of_ble_eq_true rfl)⟩ rfl (Nat.le_of_ble_eq_true rfl) rfl dX5_firesIn_88 rfl (fun _ => rfl) (fun _ => rfl) (fun r88 => ?_)
    refine sk_iload_n (pc' := 92) X rfl dX5_firesIn_91 rfl ?_
    exact sk_iret X rfl rfl dX5_firesIn_92
  have h42 : ∀ s42 : sk_M × Int32 × Int32, sk_S Γ (sk_Φ Γ o_X5_firesIn (w_X5_firesIn G u0)) 0 0 (m_X5_firesIn_42 p1 p2 s42) [(md_W G u0 s42.1)] [some (.ref (u0 0)), some (.int p1), some (.int p2), some (.int s42.2.1), some (.int s42.2.2), none] 42 [] := by
    intro s42
    unfold m_X5_firesIn_42
    refine sk_loop (bsf := fun s42 => [(md_W G u0 s42.1)]) (lvf := fun s42 => [some (.ref (u0 0)), some (.int p1), some (.int p2), some (.int s42.2.1), some (.int s42.2.2), none]) ?_ sk_fuel s42
    intro k42 s42 ih42
    unfold m_X5_firesIn_42_step
    refine sk_iload (pc' := 44) X rfl dX5_firesIn_42 rfl ?_
    refine sk_iload_n (pc' := 45) X rfl dX5_firesIn_44 rfl ?_
    refine sk_icmp_gt (tgt := 87) (pc' := 48) X dX5_firesIn_45 rfl rfl ?_ ?_
    · exact (sk_kill 4 (sk_kill 2 (sk_kill 1 (h87 (s42.1, s42.2.1)))))
    · refine sk_iload_n (pc' := 49) X rfl dX5_firesIn_48 rfl ?_
      refine sk_iconst (pc' := 50) X ic_m1 dX5_firesIn_49 rfl ?_
      refine sk_icmp_ne (tgt := 87) (pc' := 53) X dX5_firesIn_50 rfl rfl ?_ ?_
      · exact (sk_kill 4 (sk_kill 2 (sk_kill 1 (h87 (s42.1, s42.2.1)))))
      · refine sk_aload_n (pc' := 54) X rfl dX5_firesIn_53 rfl ?_
        refine sk_callV (bs2 := fun r54 => [(md_W G u0 r54.2)]) (st := []) (st2 := fun r54 => [.int r54.1]) (As := []) (pc' := 57) X (c_X5_ticks l G u0 s42.1) lk_RX5_139 [0] rfl (by decide) (fun _ => rfl) rfl rfl rfl ⟨(Nat.le_of_ble_eq_true rfl), (Nat.le_of_ble_eq_true rfl)⟩ ⟨rfl, rfl⟩ ⟨(Nat.le_of_ble_eq_true rfl), (Nat.le_of_ble_eq_true rfl)⟩ rfl (Nat.le_of_ble_eq_true rfl) rfl dX5_firesIn_54 rfl (fun _ => rfl) (fun _ => rfl) (fun r54 => ?_)
        refine sk_istore (lv' := [some (.ref (u0 0)), some (.int p1), some (.int p2), some (.int s42.2.1), some (.int s42.2.2), some (.int r54.1)]) (pc' := 59) X (Nat.le_of_ble_eq_true rfl) rfl rfl dX5_firesIn_57 rfl ?_
        refine sk_aload_n (pc' := 60) X rfl dX5_firesIn_59 rfl ?_
        refine sk_getf (pc' := 63) X 0 0 0 in_RX5 rfl rfl rfl (Nat.le_of_ble_eq_true rfl) fl_RX5_7 rfl dX5_firesIn_60 rfl ?_
        refine sk_bipush (pc' := 65) X bp_6 dX5_firesIn_63 rfl ?_
        refine sk_iald (pc' := 66) X 0 1 rfl rfl dX5_firesIn_65 rfl ?_
        refine sk_iload_n (pc' := 67) X rfl dX5_firesIn_66 rfl ?_
        refine sk_ishr (pc' := 68) X dX5_firesIn_67 rfl ?_
        refine sk_iconst (pc' := 69) X ic_1 dX5_firesIn_68 rfl ?_
        refine sk_iand (pc' := 70) X dX5_firesIn_69 rfl ?_
        refine sk_iconst (pc' := 71) X ic_1 dX5_firesIn_70 rfl ?_
        refine sk_icmp_ne (tgt := 79) (pc' := 74) X dX5_firesIn_71 rfl rfl ?_ ?_
        · refine sk_iconst (pc' := 80) X ic_m1 dX5_firesIn_79 rfl ?_
          refine sk_istore_n (lv' := [some (.ref (u0 0)), some (.int p1), some (.int p2), some (.int (-1 : Int32)), some (.int s42.2.2), some (.int r54.1)]) (pc' := 81) X (Nat.le_of_ble_eq_true rfl) rfl rfl dX5_firesIn_80 rfl ?_
          refine sk_iinc (lv' := [some (.ref (u0 0)), some (.int p1), some (.int p2), some (.int (-1 : Int32)), some (.int (s42.2.2 + (1 : Int32))), some (.int r54.1)]) (pc' := 84) X rfl ic_1 (Nat.le_of_ble_eq_true rfl) rfl rfl dX5_firesIn_81 rfl ?_
          refine sk_goto (tgt := 42) X dX5_firesIn_84 rfl ?_
          exact (sk_kill 5 (ih42 (r54.2, (-1 : Int32), (s42.2.2 + (1 : Int32)))))
        · refine sk_iload (pc' := 76) X rfl dX5_firesIn_74 rfl ?_
          refine sk_goto (tgt := 80) X dX5_firesIn_76 rfl ?_
          refine sk_istore_n (lv' := [some (.ref (u0 0)), some (.int p1), some (.int p2), some (.int s42.2.2), some (.int s42.2.2), some (.int r54.1)]) (pc' := 81) X (Nat.le_of_ble_eq_true rfl) rfl rfl dX5_firesIn_80 rfl ?_
          refine sk_iinc (lv' := [some (.ref (u0 0)), some (.int p1), some (.int p2), some (.int s42.2.2), some (.int (s42.2.2 + (1 : Int32))), some (.int r54.1)]) (pc' := 84) X rfl ic_1 (Nat.le_of_ble_eq_true rfl) rfl rfl dX5_firesIn_81 rfl ?_
          refine sk_goto (tgt := 42) X dX5_firesIn_84 rfl ?_
          exact (sk_kill 5 (ih42 (r54.2, s42.2.2, (s42.2.2 + (1 : Int32)))))
  have h25 : ∀ s25 : sk_M × Int32, sk_S Γ (sk_Φ Γ o_X5_firesIn (w_X5_firesIn G u0)) 0 0 (m_X5_firesIn_25 p1 p2 s25) [(md_W G u0 s25.1)] [some (.ref (u0 0)), some (.int p1), some (.int p2), none, none, none] 25 [.int s25.2, .ref (u0 0)] := by
    intro s25
    unfold m_X5_firesIn_25
    refine sk_callV (bs2 := fun r25 => [(md_W G u0 r25.2)]) (st := []) (st2 := fun r25 => [.int r25.1]) (As := [.int s25.2]) (pc' := 28) X (c_X5_refused l G u0 s25.1 s25.2) lk_RX5_46 [0] rfl (by decide) (fun _ => rfl) rfl rfl rfl ⟨(Nat.le_of_ble_eq_true rfl), (Nat.le_of_ble_eq_true rfl)⟩ ⟨rfl, rfl⟩ ⟨(Nat.le_of_ble_eq_true rfl), (Nat.le_of_ble_eq_true rfl)⟩ rfl (Nat.le_of_ble_eq_true rfl) rfl dX5_firesIn_25 rfl (fun _ => rfl) (fun _ => rfl) (fun r25 => ?_)
    refine sk_if_eq (tgt := 33) (pc' := 31) X dX5_firesIn_28 rfl rfl ?_ ?_
    · refine sk_aload_n (pc' := 34) X rfl dX5_firesIn_33 rfl ?_
      refine sk_callV (bs2 := fun r34 => [(md_W G u0 r34)]) (st := []) (st2 := fun r34 => []) (As := []) (pc' := 37) X (c_X5_leaves l G u0 r25.2) lk_RX5_163 [0] rfl (by decide) (fun _ => rfl) rfl rfl rfl ⟨(Nat.le_of_ble_eq_true rfl), (Nat.le_of_ble_eq_true rfl)⟩ ⟨rfl, rfl⟩ ⟨(Nat.le_of_ble_eq_true rfl), (Nat.le_of_ble_eq_true rfl)⟩ rfl (Nat.le_of_ble_eq_true rfl) rfl dX5_firesIn_34 rfl (fun _ => rfl) (fun _ => rfl) (fun r34 => ?_)
      refine sk_iconst (pc' := 38) X ic_m1 dX5_firesIn_37 rfl ?_
      refine sk_istore_n (lv' := [some (.ref (u0 0)), some (.int p1), some (.int p2), some (.int (-1 : Int32)), none, none]) (pc' := 39) X (Nat.le_of_ble_eq_true rfl) rfl rfl dX5_firesIn_38 rfl ?_
      refine sk_iconst (pc' := 40) X ic_1 dX5_firesIn_39 rfl ?_
      refine sk_istore (lv' := [some (.ref (u0 0)), some (.int p1), some (.int p2), some (.int (-1 : Int32)), some (.int (1 : Int32)), none]) (pc' := 42) X (Nat.le_of_ble_eq_true rfl) rfl rfl dX5_firesIn_40 rfl ?_
      exact (h42 (r34, (-1 : Int32), (1 : Int32)))
    · refine sk_iconst (pc' := 32) X ic_0 dX5_firesIn_31 rfl ?_
      exact sk_iret X rfl rfl dX5_firesIn_32
  unfold m_X5_firesIn
  refine sk_aload_n (pc' := 1) X rfl dX5_firesIn_0 rfl ?_
  refine sk_aload_n (pc' := 2) X rfl dX5_firesIn_1 rfl ?_
  refine sk_iload_n (pc' := 3) X rfl dX5_firesIn_2 rfl ?_
  refine sk_callV (bs2 := fun r3 => [(md_W G u0 S0)]) (st := [.ref (u0 0)]) (st2 := fun r3 => [.int r3, .ref (u0 0)]) (As := [.int p1]) (pc' := 6) X (c_X5_isClock l G u0 S0 p1) lk_RX5_60 [0] rfl (by decide) (fun _ => rfl) rfl rfl rfl ⟨(Nat.le_of_ble_eq_true rfl), (Nat.le_of_ble_eq_true rfl)⟩ ⟨rfl, rfl⟩ ⟨(Nat.le_of_ble_eq_true rfl), (Nat.le_of_ble_eq_true rfl)⟩ rfl (Nat.le_of_ble_eq_true rfl) rfl dX5_firesIn_3 rfl (fun _ => rfl) (fun _ => rfl) (fun r3 => ?_)
  refine sk_if_ne (tgt := 13) (pc' := 9) X dX5_firesIn_6 rfl rfl ?_ ?_
  · refine sk_iload_n (pc' := 14) X rfl dX5_firesIn_13 rfl ?_
    refine sk_callS (bs2 := fun r14 => [(md_W G u0 S0)]) (st := [.ref (u0 0)]) (st2 := fun r14 => [.int r14, .ref (u0 0)]) (As := [.int p2]) (pc' := 17) X (c_X5_isLimit l G p2) lk_RX5_160 [] rfl (by decide) (fun _ => rfl) ⟨(Nat.le_of_ble_eq_true rfl), (Nat.le_of_ble_eq_true rfl)⟩ ⟨rfl, rfl⟩ ⟨(Nat.le_of_ble_eq_true rfl), (Nat.le_of_ble_eq_true rfl)⟩ rfl (Nat.le_of_ble_eq_true rfl) rfl dX5_firesIn_14 rfl (fun _ => rfl) (fun _ => rfl) (fun r14 => ?_)
    refine sk_if_ne (tgt := 24) (pc' := 20) X dX5_firesIn_17 rfl rfl ?_ ?_
    · refine sk_iconst (pc' := 25) X ic_0 dX5_firesIn_24 rfl ?_
      exact (h25 (S0, (0 : Int32)))
    · refine sk_iconst (pc' := 21) X ic_2 dX5_firesIn_20 rfl ?_
      refine sk_goto (tgt := 25) X dX5_firesIn_21 rfl ?_
      exact (h25 (S0, (2 : Int32)))
  · refine sk_iconst (pc' := 10) X ic_1 dX5_firesIn_9 rfl ?_
    refine sk_goto (tgt := 25) X dX5_firesIn_10 rfl ?_
    exact (h25 (S0, (1 : Int32)))
def rm_X5_append : Room := { frames := 1, cells := 0, slots := 0, locals := 22 }
def o_X5_append : (Int32 × sk_M) → Option Value := fun r => some (.int r.1)
def w_X5_append (G : sk_G) (u0 : Nat → Nat) : (Int32 × sk_M) → sk_B := fun r => [(md_W G u0 r.2)]
set_option maxHeartbeats 4000000 in
set_option maxRecDepth 100000 in
theorem c_X5_append (l : Launch) (G : sk_G) (u0 : Nat → Nat) (S0 : sk_M) (p1 : Int32) : sk_ctr l G yX5_append cX5_append 2 (some .int) rm_X5_append [.ref (u0 0), .int p1] [(md_W G u0 S0)] (m_X5_append S0 p1) o_X5_append (w_X5_append G u0) := by
  refine sk_entry (own := RX5) (by decide) rfl (lv0 := [some (.ref (u0 0)), some (.int p1)]) rfl (Nat.le_of_ble_eq_true rfl) ?_
  intro Γ X
  have h29 : ∀ s29 : sk_M × Int32, sk_S Γ (sk_Φ Γ o_X5_append (w_X5_append G u0)) 0 0 (m_X5_append_29 p1 s29) [(md_W G u0 s29.1)] [some (.ref (u0 0)), some (.int p1)] 29 [.int s29.2, .ref (u0 0)] := by
    intro s29
    unfold m_X5_append_29
    refine sk_callV (bs2 := fun r29 => [(md_W G u0 r29.2)]) (st := []) (st2 := fun r29 => [.int r29.1]) (As := [.int s29.2]) (pc' := 32) X (c_X5_refused l G u0 s29.1 s29.2) lk_RX5_46 [0] rfl (by decide) (fun _ => rfl) rfl rfl rfl ⟨(Nat.le_of_ble_eq_true rfl), (Nat.le_of_ble_eq_true rfl)⟩ ⟨rfl, rfl⟩ ⟨(Nat.le_of_ble_eq_true rfl), (Nat.le_of_ble_eq_true rfl)⟩ rfl (Nat.le_of_ble_eq_true rfl) rfl dX5_append_29 rfl (fun _ => rfl) (fun _ => rfl) (fun r29 => ?_)
    refine sk_if_eq (tgt := 37) (pc' := 35) X dX5_append_32 rfl rfl ?_ ?_
    · refine sk_aload_n (pc' := 38) X rfl dX5_append_37 rfl ?_
      refine sk_getf (pc' := 41) X 0 0 5 in_RX5 rfl rfl rfl (Nat.le_of_ble_eq_true rfl) fl_RX5_19 rfl dX5_append_38 rfl ?_
      refine sk_aload_n (pc' := 42) X rfl dX5_append_41 rfl ?_
      refine sk_getf (pc' := 45) X 0 0 6 in_RX5 rfl rfl rfl (Nat.le_of_ble_eq_true rfl) fl_RX5_182 rfl dX5_append_42 rfl ?_
      refine sk_iload_n (pc' := 46) X rfl dX5_append_45 rfl ?_
      refine sk_iast (bs' := [(md_W G u0 (md_up r29.2 4 ((r29.2.1 0 6)).toNatClampNeg p1))]) (pc' := 47) X 0 4 rfl rfl (sk_st 0 (md_st_4 ..) rfl) dX5_append_46 rfl ?_
      refine sk_lt (bsf := fun z => [(md_W G u0 z)]) (lvf := fun _ => [some (.ref (u0 0)), some (.int p1)]) (stf := fun _ => []) (fun N46 => ?_)
      refine sk_aload_n (pc' := 48) X rfl dX5_append_47 rfl ?_
      refine sk_dup (pc' := 49) X rfl dX5_append_48 rfl ?_
      refine sk_getf (pc' := 52) X 0 0 6 in_RX5 rfl rfl rfl (Nat.le_of_ble_eq_true rfl) fl_RX5_182 rfl dX5_append_49 rfl ?_
      refine sk_iconst (pc' := 53) X ic_1 dX5_append_52 rfl ?_
      refine sk_iadd (pc' := 54) X dX5_append_53 rfl ?_
      refine sk_putf (bs' := [(md_W G u0 (md_up N46 0 6 ((N46.1 0 6) + (1 : Int32))))]) (pc' := 57) X 0 0 6 in_RX5 tyX5 tyX5_ok nmX5 rfl rfl rfl (Nat.le_of_ble_eq_true rfl) fl_RX5_182 rfl (tyX5_ok 6 (Nat.le_of_ble_eq_true rfl)) rfl rfl (Nat.le_of_ble_eq_true rfl) (sk_st 0 (md_pf_6 ..) rfl) dX5_append_54 rfl ?_
      refine sk_lt (bsf := fun z => [(md_W G u0 z)]) (lvf := fun _ => [some (.ref (u0 0)), some (.int p1)]) (stf := fun _ => []) (fun N54 => ?_)
      refine sk_aload_n (pc' := 58) X rfl dX5_append_57 rfl ?_
      refine sk_getf (pc' := 61) X 0 0 6 in_RX5 rfl rfl rfl (Nat.le_of_ble_eq_true rfl) fl_RX5_182 rfl dX5_append_58 rfl ?_
      exact sk_iret X rfl rfl dX5_append_61
    · refine sk_iconst (pc' := 36) X ic_0 dX5_append_35 rfl ?_
      exact sk_iret X rfl rfl dX5_append_36
  unfold m_X5_append
  refine sk_aload_n (pc' := 1) X rfl dX5_append_0 rfl ?_
  refine sk_iload_n (pc' := 2) X rfl dX5_append_1 rfl ?_
  refine sk_iconst (pc' := 3) X ic_0 dX5_append_2 rfl ?_
  refine sk_bipush (pc' := 5) X bp_127 dX5_append_3 rfl ?_
  refine sk_callS (bs2 := fun r5 => [(md_W G u0 S0)]) (st := [.ref (u0 0)]) (st2 := fun r5 => [.int r5, .ref (u0 0)]) (As := [.int p1, .int (0 : Int32), .int (127 : Int32)]) (pc' := 8) X (c_X5_within l G p1 (0 : Int32) (127 : Int32)) lk_RX5_39 [] rfl (by decide) (fun _ => rfl) ⟨(Nat.le_of_ble_eq_true rfl), (Nat.le_of_ble_eq_true rfl)⟩ ⟨rfl, rfl⟩ ⟨(Nat.le_of_ble_eq_true rfl), (Nat.le_of_ble_eq_true rfl)⟩ rfl (Nat.le_of_ble_eq_true rfl) rfl dX5_append_5 rfl (fun _ => rfl) (fun _ => rfl) (fun r5 => ?_)
  refine sk_if_ne (tgt := 15) (pc' := 11) X dX5_append_8 rfl rfl ?_ ?_
  · refine sk_aload_n (pc' := 16) X rfl dX5_append_15 rfl ?_
    refine sk_getf (pc' := 19) X 0 0 6 in_RX5 rfl rfl rfl (Nat.le_of_ble_eq_true rfl) fl_RX5_182 rfl dX5_append_16 rfl ?_
    refine sk_bipush (pc' := 21) X bp_100 dX5_append_19 rfl ?_
    refine sk_icmp_ne (tgt := 28) (pc' := 24) X dX5_append_21 rfl rfl ?_ ?_
    · refine sk_iconst (pc' := 29) X ic_0 dX5_append_28 rfl ?_
      exact (h29 (S0, (0 : Int32)))
    · refine sk_iconst (pc' := 25) X ic_2 dX5_append_24 rfl ?_
      refine sk_goto (tgt := 29) X dX5_append_25 rfl ?_
      exact (h29 (S0, (2 : Int32)))
  · refine sk_iconst (pc' := 12) X ic_1 dX5_append_11 rfl ?_
    refine sk_goto (tgt := 29) X dX5_append_12 rfl ?_
    exact (h29 (S0, (1 : Int32)))
def rm_X5_clearText : Room := { frames := 0, cells := 0, slots := 0, locals := 0 }
def o_X5_clearText : (Int32 × sk_M) → Option Value := fun r => some (.int r.1)
def w_X5_clearText (G : sk_G) (u0 : Nat → Nat) : (Int32 × sk_M) → sk_B := fun r => [(md_W G u0 r.2)]
set_option maxHeartbeats 4000000 in
set_option maxRecDepth 100000 in
theorem c_X5_clearText (l : Launch) (G : sk_G) (u0 : Nat → Nat) (S0 : sk_M) : sk_ctr l G yX5_clearText cX5_clearText 2 (some .int) rm_X5_clearText [.ref (u0 0)] [(md_W G u0 S0)] (m_X5_clearText S0) o_X5_clearText (w_X5_clearText G u0) := by
  refine sk_entry (own := RX5) (by decide) rfl (lv0 := [some (.ref (u0 0)), none]) rfl (Nat.le_of_ble_eq_true rfl) ?_
  intro Γ X
  unfold m_X5_clearText
  refine sk_aload_n (pc' := 1) X rfl dX5_clearText_0 rfl ?_
  refine sk_iconst (pc' := 2) X ic_0 dX5_clearText_1 rfl ?_
  refine sk_putf (bs' := [(md_W G u0 (md_up S0 0 4 (0 : Int32)))]) (pc' := 5) X 0 0 4 in_RX5 tyX5 tyX5_ok nmX5 rfl rfl rfl (Nat.le_of_ble_eq_true rfl) fl_RX5_35 rfl (tyX5_ok 4 (Nat.le_of_ble_eq_true rfl)) rfl rfl (Nat.le_of_ble_eq_true rfl) (sk_st 0 (md_pf_4 ..) rfl) dX5_clearText_2 rfl ?_
  refine sk_lt (bsf := fun z => [(md_W G u0 z)]) (lvf := fun _ => [some (.ref (u0 0)), none]) (stf := fun _ => []) (fun N2 => ?_)
  refine sk_aload_n (pc' := 6) X rfl dX5_clearText_5 rfl ?_
  refine sk_getf (pc' := 9) X 0 0 6 in_RX5 rfl rfl rfl (Nat.le_of_ble_eq_true rfl) fl_RX5_182 rfl dX5_clearText_6 rfl ?_
  refine sk_istore_n (lv' := [some (.ref (u0 0)), some (.int (N2.1 0 6))]) (pc' := 10) X (Nat.le_of_ble_eq_true rfl) rfl rfl dX5_clearText_9 rfl ?_
  refine sk_lt (bsf := fun _ => [(md_W G u0 N2)]) (lvf := fun z => [some (.ref (u0 0)), some (.int z)]) (stf := fun _ => []) (fun x9 => ?_)
  refine sk_aload_n (pc' := 11) X rfl dX5_clearText_10 rfl ?_
  refine sk_iconst (pc' := 12) X ic_0 dX5_clearText_11 rfl ?_
  refine sk_putf (bs' := [(md_W G u0 (md_up N2 0 6 (0 : Int32)))]) (pc' := 15) X 0 0 6 in_RX5 tyX5 tyX5_ok nmX5 rfl rfl rfl (Nat.le_of_ble_eq_true rfl) fl_RX5_182 rfl (tyX5_ok 6 (Nat.le_of_ble_eq_true rfl)) rfl rfl (Nat.le_of_ble_eq_true rfl) (sk_st 0 (md_pf_6 ..) rfl) dX5_clearText_12 rfl ?_
  refine sk_lt (bsf := fun z => [(md_W G u0 z)]) (lvf := fun _ => [some (.ref (u0 0)), some (.int x9)]) (stf := fun _ => []) (fun N12 => ?_)
  refine sk_iload_n (pc' := 16) X rfl dX5_clearText_15 rfl ?_
  exact sk_iret X rfl rfl dX5_clearText_16
def rm_X5_does : Room := { frames := 5, cells := 0, slots := 0, locals := 113 }
def o_X5_does : (Int32 × sk_M) → Option Value := fun r => some (.int r.1)
def w_X5_does (G : sk_G) (u0 : Nat → Nat) : (Int32 × sk_M) → sk_B := fun r => [(md_W G u0 r.2)]
set_option maxHeartbeats 4000000 in
set_option maxRecDepth 100000 in
theorem c_X5_does (l : Launch) (G : sk_G) (u0 : Nat → Nat) (S0 : sk_M) (p1 : Int32) : sk_ctr l G yX5_does cX5_does 6 (some .boolean) rm_X5_does [.ref (u0 0), .int p1] [(md_W G u0 S0)] (m_X5_does S0 p1) o_X5_does (w_X5_does G u0) := by
  refine sk_entry (own := RX5) (by decide) rfl (lv0 := [some (.ref (u0 0)), some (.int p1), none, none, none, none]) rfl (Nat.le_of_ble_eq_true rfl) ?_
  intro Γ X
  unfold m_X5_does
  refine sk_aload_n (pc' := 1) X rfl dX5_does_0 rfl ?_
  refine sk_getf (pc' := 4) X 0 0 12 in_RX5 rfl rfl rfl (Nat.le_of_ble_eq_true rfl) fl_RX5_32 rfl dX5_does_1 rfl ?_
  refine sk_iconst (pc' := 5) X ic_4 dX5_does_4 rfl ?_
  refine sk_iload_n (pc' := 6) X rfl dX5_does_5 rfl ?_
  refine sk_imul (pc' := 7) X dX5_does_6 rfl ?_
  refine sk_iconst (pc' := 8) X ic_1 dX5_does_7 rfl ?_
  refine sk_iadd (pc' := 9) X dX5_does_8 rfl ?_
  refine sk_iald (pc' := 10) X 0 8 rfl rfl dX5_does_9 rfl ?_
  refine sk_istore_n (lv' := [some (.ref (u0 0)), some (.int p1), some (.int ((S0.1 8) ((((4 : Int32) * p1) + (1 : Int32))).toNatClampNeg)), none, none, none]) (pc' := 11) X (Nat.le_of_ble_eq_true rfl) rfl rfl dX5_does_10 rfl ?_
  refine sk_lt (bsf := fun _ => [(md_W G u0 S0)]) (lvf := fun z => [some (.ref (u0 0)), some (.int p1), some (.int z), none, none, none]) (stf := fun _ => []) (fun x10 => ?_)
  refine sk_aload_n (pc' := 12) X rfl dX5_does_11 rfl ?_
  refine sk_getf (pc' := 15) X 0 0 12 in_RX5 rfl rfl rfl (Nat.le_of_ble_eq_true rfl) fl_RX5_32 rfl dX5_does_12 rfl ?_
  refine sk_iconst (pc' := 16) X ic_4 dX5_does_15 rfl ?_
  refine sk_iload_n (pc' := 17) X rfl dX5_does_16 rfl ?_
  refine sk_imul (pc' := 18) X dX5_does_17 rfl ?_
  refine sk_iconst (pc' := 19) X ic_2 dX5_does_18 rfl ?_
  refine sk_iadd (pc' := 20) X dX5_does_19 rfl ?_
  refine sk_iald (pc' := 21) X 0 8 rfl rfl dX5_does_20 rfl ?_
  refine sk_istore_n (lv' := [some (.ref (u0 0)), some (.int p1), some (.int x10), some (.int ((S0.1 8) ((((4 : Int32) * p1) + (2 : Int32))).toNatClampNeg)), none, none]) (pc' := 22) X (Nat.le_of_ble_eq_true rfl) rfl rfl dX5_does_21 rfl ?_
  refine sk_lt (bsf := fun _ => [(md_W G u0 S0)]) (lvf := fun z => [some (.ref (u0 0)), some (.int p1), some (.int x10), some (.int z), none, none]) (stf := fun _ => []) (fun x21 => ?_)
  refine sk_aload_n (pc' := 23) X rfl dX5_does_22 rfl ?_
  refine sk_getf (pc' := 26) X 0 0 12 in_RX5 rfl rfl rfl (Nat.le_of_ble_eq_true rfl) fl_RX5_32 rfl dX5_does_23 rfl ?_
  refine sk_iconst (pc' := 27) X ic_4 dX5_does_26 rfl ?_
  refine sk_iload_n (pc' := 28) X rfl dX5_does_27 rfl ?_
  refine sk_imul (pc' := 29) X dX5_does_28 rfl ?_
  refine sk_iconst (pc' := 30) X ic_3 dX5_does_29 rfl ?_
  refine sk_iadd (pc' := 31) X dX5_does_30 rfl ?_
  refine sk_iald (pc' := 32) X 0 8 rfl rfl dX5_does_31 rfl ?_
  refine sk_istore (lv' := [some (.ref (u0 0)), some (.int p1), some (.int x10), some (.int x21), some (.int ((S0.1 8) ((((4 : Int32) * p1) + (3 : Int32))).toNatClampNeg)), none]) (pc' := 34) X (Nat.le_of_ble_eq_true rfl) rfl rfl dX5_does_32 rfl ?_
  refine sk_lt (bsf := fun _ => [(md_W G u0 S0)]) (lvf := fun z => [some (.ref (u0 0)), some (.int p1), some (.int x10), some (.int x21), some (.int z), none]) (stf := fun _ => []) (fun x32 => ?_)
  refine sk_iconst (pc' := 35) X ic_0 dX5_does_34 rfl ?_
  refine sk_istore (lv' := [some (.ref (u0 0)), some (.int p1), some (.int x10), some (.int x21), some (.int x32), some (.int (0 : Int32))]) (pc' := 37) X (Nat.le_of_ble_eq_true rfl) rfl rfl dX5_does_35 rfl ?_
  refine sk_aload_n (pc' := 38) X rfl dX5_does_37 rfl ?_
  refine sk_getf (pc' := 41) X 0 0 12 in_RX5 rfl rfl rfl (Nat.le_of_ble_eq_true rfl) fl_RX5_32 rfl dX5_does_38 rfl ?_
  refine sk_iconst (pc' := 42) X ic_4 dX5_does_41 rfl ?_
  refine sk_iload_n (pc' := 43) X rfl dX5_does_42 rfl ?_
  refine sk_imul (pc' := 44) X dX5_does_43 rfl ?_
  refine sk_iald (pc' := 45) X 0 8 rfl rfl dX5_does_44 rfl ?_
  refine sk_ite (fun hs45_0 => ?_) (fun hs45_0 => ?_)
  · refine sk_lookup (tgt := 88) X dX5_does_45 rfl (by rw [hs45_0]; try rfl) rfl ?_
    refine sk_aload_n (pc' := 89) X rfl dX5_does_88 rfl ?_
    refine sk_iload_n (pc' := 90) X rfl dX5_does_89 rfl ?_
    refine sk_callV (bs2 := fun r90 => [(md_W G u0 S0)]) (st := []) (st2 := fun r90 => [.int r90]) (As := [.int x10]) (pc' := 93) X (c_X5_mayAdd l G u0 S0 x10) lk_RX5_50 [0] rfl (by decide) (fun _ => rfl) rfl rfl rfl ⟨(Nat.le_of_ble_eq_true rfl), (Nat.le_of_ble_eq_true rfl)⟩ ⟨rfl, rfl⟩ ⟨(Nat.le_of_ble_eq_true rfl), (Nat.le_of_ble_eq_true rfl)⟩ rfl (Nat.le_of_ble_eq_true rfl) rfl dX5_does_90 rfl (fun _ => rfl) (fun _ => rfl) (fun r90 => ?_)
    refine sk_if_le (tgt := 98) (pc' := 96) X dX5_does_93 rfl rfl ?_ ?_
    · refine sk_aload_n (pc' := 99) X rfl dX5_does_98 rfl ?_
      refine sk_iload_n (pc' := 100) X rfl dX5_does_99 rfl ?_
      refine sk_callV (bs2 := fun r100 => [(md_W G u0 r100.2)]) (st := []) (st2 := fun r100 => [.int r100.1]) (As := [.int x10]) (pc' := 103) X (c_X5_doAdd l G u0 S0 x10) lk_RX5_57 [0] rfl (by decide) (fun _ => rfl) rfl rfl rfl ⟨(Nat.le_of_ble_eq_true rfl), (Nat.le_of_ble_eq_true rfl)⟩ ⟨rfl, rfl⟩ ⟨(Nat.le_of_ble_eq_true rfl), (Nat.le_of_ble_eq_true rfl)⟩ rfl (Nat.le_of_ble_eq_true rfl) rfl dX5_does_100 rfl (fun _ => rfl) (fun _ => rfl) (fun r100 => ?_)
      refine sk_istore (lv' := [some (.ref (u0 0)), some (.int p1), some (.int x10), some (.int x21), some (.int x32), some (.int r100.1)]) (pc' := 105) X (Nat.le_of_ble_eq_true rfl) rfl rfl dX5_does_103 rfl ?_
      refine sk_iconst (pc' := 106) X ic_1 dX5_does_105 rfl ?_
      exact sk_zret X (by decide) rfl rfl dX5_does_106
    · refine sk_iconst (pc' := 97) X ic_0 dX5_does_96 rfl ?_
      exact sk_zret X (by decide) rfl rfl dX5_does_97
  ·
    refine sk_ite (fun hs45_1 => ?_) (fun hs45_1 => ?_)
    · refine sk_lookup (tgt := 155) X dX5_does_45 rfl (by rw [hs45_1]; try rfl) rfl ?_
      refine sk_aload_n (pc' := 156) X rfl dX5_does_155 rfl ?_
      refine sk_iload_n (pc' := 157) X rfl dX5_does_156 rfl ?_
      refine sk_iload_n (pc' := 158) X rfl dX5_does_157 rfl ?_
      refine sk_iload (pc' := 160) X rfl dX5_does_158 rfl ?_
      refine sk_callV (bs2 := fun r160 => [(md_W G u0 S0)]) (st := []) (st2 := fun r160 => [.int r160]) (As := [.int x10, .int x21, .int x32]) (pc' := 163) X (c_X5_mayBlink l G u0 S0 x10 x21 x32) lk_RX5_71 [0] rfl (by decide) (fun _ => rfl) rfl rfl rfl ⟨(Nat.le_of_ble_eq_true rfl), (Nat.le_of_ble_eq_true rfl)⟩ ⟨rfl, rfl⟩ ⟨(Nat.le_of_ble_eq_true rfl), (Nat.le_of_ble_eq_true rfl)⟩ rfl (Nat.le_of_ble_eq_true rfl) rfl dX5_does_160 rfl (fun _ => rfl) (fun _ => rfl) (fun r160 => ?_)
      refine sk_if_le (tgt := 168) (pc' := 166) X dX5_does_163 rfl rfl ?_ ?_
      · refine sk_aload_n (pc' := 169) X rfl dX5_does_168 rfl ?_
        refine sk_iload_n (pc' := 170) X rfl dX5_does_169 rfl ?_
        refine sk_iload_n (pc' := 171) X rfl dX5_does_170 rfl ?_
        refine sk_iload (pc' := 173) X rfl dX5_does_171 rfl ?_
        refine sk_callV (bs2 := fun r173 => [(md_W G u0 r173.2)]) (st := []) (st2 := fun r173 => [.int r173.1]) (As := [.int x10, .int x21, .int x32]) (pc' := 176) X (c_X5_doBlink l G u0 S0 x10 x21 x32) lk_RX5_75 [0] rfl (by decide) (fun _ => rfl) rfl rfl rfl ⟨(Nat.le_of_ble_eq_true rfl), (Nat.le_of_ble_eq_true rfl)⟩ ⟨rfl, rfl⟩ ⟨(Nat.le_of_ble_eq_true rfl), (Nat.le_of_ble_eq_true rfl)⟩ rfl (Nat.le_of_ble_eq_true rfl) rfl dX5_does_173 rfl (fun _ => rfl) (fun _ => rfl) (fun r173 => ?_)
        refine sk_istore (lv' := [some (.ref (u0 0)), some (.int p1), some (.int x10), some (.int x21), some (.int x32), some (.int r173.1)]) (pc' := 178) X (Nat.le_of_ble_eq_true rfl) rfl rfl dX5_does_176 rfl ?_
        refine sk_iconst (pc' := 179) X ic_1 dX5_does_178 rfl ?_
        exact sk_zret X (by decide) rfl rfl dX5_does_179
      · refine sk_iconst (pc' := 167) X ic_0 dX5_does_166 rfl ?_
        exact sk_zret X (by decide) rfl rfl dX5_does_167
    ·
      refine sk_ite (fun hs45_2 => ?_) (fun hs45_2 => ?_)
      · refine sk_lookup (tgt := 130) X dX5_does_45 rfl (by rw [hs45_2]; try rfl) rfl ?_
        refine sk_aload_n (pc' := 131) X rfl dX5_does_130 rfl ?_
        refine sk_iload_n (pc' := 132) X rfl dX5_does_131 rfl ?_
        refine sk_iload_n (pc' := 133) X rfl dX5_does_132 rfl ?_
        refine sk_iload (pc' := 135) X rfl dX5_does_133 rfl ?_
        refine sk_callV (bs2 := fun r135 => [(md_W G u0 S0)]) (st := []) (st2 := fun r135 => [.int r135]) (As := [.int x10, .int x21, .int x32]) (pc' := 138) X (c_X5_mayLink l G u0 S0 x10 x21 x32) lk_RX5_85 [0] rfl (by decide) (fun _ => rfl) rfl rfl rfl ⟨(Nat.le_of_ble_eq_true rfl), (Nat.le_of_ble_eq_true rfl)⟩ ⟨rfl, rfl⟩ ⟨(Nat.le_of_ble_eq_true rfl), (Nat.le_of_ble_eq_true rfl)⟩ rfl (Nat.le_of_ble_eq_true rfl) rfl dX5_does_135 rfl (fun _ => rfl) (fun _ => rfl) (fun r135 => ?_)
        refine sk_if_le (tgt := 143) (pc' := 141) X dX5_does_138 rfl rfl ?_ ?_
        · refine sk_aload_n (pc' := 144) X rfl dX5_does_143 rfl ?_
          refine sk_iload_n (pc' := 145) X rfl dX5_does_144 rfl ?_
          refine sk_iload_n (pc' := 146) X rfl dX5_does_145 rfl ?_
          refine sk_iload (pc' := 148) X rfl dX5_does_146 rfl ?_
          refine sk_callV (bs2 := fun r148 => [(md_W G u0 r148.2)]) (st := []) (st2 := fun r148 => [.int r148.1]) (As := [.int x10, .int x21, .int x32]) (pc' := 151) X (c_X5_doLink l G u0 S0 x10 x21 x32) lk_RX5_88 [0] rfl (by decide) (fun _ => rfl) rfl rfl rfl ⟨(Nat.le_of_ble_eq_true rfl), (Nat.le_of_ble_eq_true rfl)⟩ ⟨rfl, rfl⟩ ⟨(Nat.le_of_ble_eq_true rfl), (Nat.le_of_ble_eq_true rfl)⟩ rfl (Nat.le_of_ble_eq_true rfl) rfl dX5_does_148 rfl (fun _ => rfl) (fun _ => rfl) (fun r148 => ?_)
          refine sk_istore (lv' := [some (.ref (u0 0)), some (.int p1), some (.int x10), some (.int x21), some (.int x32), some (.int r148.1)]) (pc' := 153) X (Nat.le_of_ble_eq_true rfl) rfl rfl dX5_does_151 rfl ?_
          refine sk_iconst (pc' := 154) X ic_1 dX5_does_153 rfl ?_
          exact sk_zret X (by decide) rfl rfl dX5_does_154
        · refine sk_iconst (pc' := 142) X ic_0 dX5_does_141 rfl ?_
          exact sk_zret X (by decide) rfl rfl dX5_does_142
      ·
        refine sk_ite (fun hs45_3 => ?_) (fun hs45_3 => ?_)
        · refine sk_lookup (tgt := 107) X dX5_does_45 rfl (by rw [hs45_3]; try rfl) rfl ?_
          refine sk_aload_n (pc' := 108) X rfl dX5_does_107 rfl ?_
          refine sk_iload_n (pc' := 109) X rfl dX5_does_108 rfl ?_
          refine sk_iload_n (pc' := 110) X rfl dX5_does_109 rfl ?_
          refine sk_callV (bs2 := fun r110 => [(md_W G u0 S0)]) (st := []) (st2 := fun r110 => [.int r110]) (As := [.int x10, .int x21]) (pc' := 113) X (c_X5_mayPhase l G u0 S0 x10 x21) lk_RX5_63 [0] rfl (by decide) (fun _ => rfl) rfl rfl rfl ⟨(Nat.le_of_ble_eq_true rfl), (Nat.le_of_ble_eq_true rfl)⟩ ⟨rfl, rfl⟩ ⟨(Nat.le_of_ble_eq_true rfl), (Nat.le_of_ble_eq_true rfl)⟩ rfl (Nat.le_of_ble_eq_true rfl) rfl dX5_does_110 rfl (fun _ => rfl) (fun _ => rfl) (fun r110 => ?_)
          refine sk_if_le (tgt := 118) (pc' := 116) X dX5_does_113 rfl rfl ?_ ?_
          · refine sk_aload_n (pc' := 119) X rfl dX5_does_118 rfl ?_
            refine sk_getf (pc' := 122) X 0 0 0 in_RX5 rfl rfl rfl (Nat.le_of_ble_eq_true rfl) fl_RX5_7 rfl dX5_does_119 rfl ?_
            refine sk_bipush (pc' := 124) X bp_8 dX5_does_122 rfl ?_
            refine sk_iload_n (pc' := 125) X rfl dX5_does_124 rfl ?_
            refine sk_iadd (pc' := 126) X dX5_does_125 rfl ?_
            refine sk_iload_n (pc' := 127) X rfl dX5_does_126 rfl ?_
            refine sk_iast (bs' := [(md_W G u0 (md_up S0 1 (((8 : Int32) + x10)).toNatClampNeg x21))]) (pc' := 128) X 0 1 rfl rfl (sk_st 0 (md_st_1 ..) rfl) dX5_does_127 rfl ?_
            refine sk_lt (bsf := fun z => [(md_W G u0 z)]) (lvf := fun _ => [some (.ref (u0 0)), some (.int p1), some (.int x10), some (.int x21), some (.int x32), some (.int (0 : Int32))]) (stf := fun _ => []) (fun N127 => ?_)
            refine sk_iconst (pc' := 129) X ic_1 dX5_does_128 rfl ?_
            exact sk_zret X (by decide) rfl rfl dX5_does_129
          · refine sk_iconst (pc' := 117) X ic_0 dX5_does_116 rfl ?_
            exact sk_zret X (by decide) rfl rfl dX5_does_117
        ·
          refine sk_lookup (tgt := 180) X dX5_does_45 rfl ((lv_osw hs45_0 (by decide)).trans ((lv_osw hs45_1 (by decide)).trans ((lv_osw hs45_2 (by decide)).trans ((lv_osw hs45_3 (by decide)).trans (rfl))))) rfl ?_
          refine sk_iload_n (pc' := 181) X rfl dX5_does_180 rfl ?_
          refine sk_iconst (pc' := 182) X ic_1 dX5_does_181 rfl ?_
          refine sk_icmp_ge (tgt := 187) (pc' := 185) X dX5_does_182 rfl rfl ?_ ?_
          · refine sk_aload_n (pc' := 188) X rfl dX5_does_187 rfl ?_
            refine sk_iload_n (pc' := 189) X rfl dX5_does_188 rfl ?_
            refine sk_callV (bs2 := fun r189 => [(md_W G u0 r189.2)]) (st := []) (st2 := fun r189 => [.int r189.1]) (As := [.int x10]) (pc' := 192) X (c_X5_doTick l G u0 S0 x10) lk_RX5_142 [0] rfl (by decide) (fun _ => rfl) rfl rfl rfl ⟨(Nat.le_of_ble_eq_true rfl), (Nat.le_of_ble_eq_true rfl)⟩ ⟨rfl, rfl⟩ ⟨(Nat.le_of_ble_eq_true rfl), (Nat.le_of_ble_eq_true rfl)⟩ rfl (Nat.le_of_ble_eq_true rfl) rfl dX5_does_189 rfl (fun _ => rfl) (fun _ => rfl) (fun r189 => ?_)
            refine sk_istore (lv' := [some (.ref (u0 0)), some (.int p1), some (.int x10), some (.int x21), some (.int x32), some (.int r189.1)]) (pc' := 194) X (Nat.le_of_ble_eq_true rfl) rfl rfl dX5_does_192 rfl ?_
            refine sk_iconst (pc' := 195) X ic_1 dX5_does_194 rfl ?_
            exact sk_zret X (by decide) rfl rfl dX5_does_195
          · refine sk_iconst (pc' := 186) X ic_0 dX5_does_185 rfl ?_
            exact sk_zret X (by decide) rfl rfl dX5_does_186
def rm_X5_letter : Room := { frames := 0, cells := 0, slots := 0, locals := 0 }
def o_X5_letter : (Int32) → Option Value := fun r => some (.int r)
def w_X5_letter (G : sk_G) (u0 : Nat → Nat) (S0 : sk_M) : (Int32) → sk_B := fun r => [(md_W G u0 S0)]
set_option maxHeartbeats 4000000 in
set_option maxRecDepth 100000 in
theorem c_X5_letter (l : Launch) (G : sk_G) (u0 : Nat → Nat) (S0 : sk_M) : sk_ctr l G yX5_letter cX5_letter 1 (some .int) rm_X5_letter [.ref (u0 0)] [(md_W G u0 S0)] (m_X5_letter S0) o_X5_letter (w_X5_letter G u0 S0) := by
  refine sk_entry (own := RX5) (by decide) rfl (lv0 := [some (.ref (u0 0))]) rfl (Nat.le_of_ble_eq_true rfl) ?_
  intro Γ X
  unfold m_X5_letter
  refine sk_aload_n (pc' := 1) X rfl dX5_letter_0 rfl ?_
  refine sk_getf (pc' := 4) X 0 0 14 in_RX5 rfl rfl rfl (Nat.le_of_ble_eq_true rfl) fl_RX5_185 rfl dX5_letter_1 rfl ?_
  refine sk_aload_n (pc' := 5) X rfl dX5_letter_4 rfl ?_
  refine sk_getf (pc' := 8) X 0 0 6 in_RX5 rfl rfl rfl (Nat.le_of_ble_eq_true rfl) fl_RX5_182 rfl dX5_letter_5 rfl ?_
  refine sk_icmp_ge (tgt := 23) (pc' := 11) X dX5_letter_8 rfl rfl ?_ ?_
  · refine sk_iconst (pc' := 24) X ic_m1 dX5_letter_23 rfl ?_
    exact sk_iret X rfl rfl dX5_letter_24
  · refine sk_aload_n (pc' := 12) X rfl dX5_letter_11 rfl ?_
    refine sk_getf (pc' := 15) X 0 0 5 in_RX5 rfl rfl rfl (Nat.le_of_ble_eq_true rfl) fl_RX5_19 rfl dX5_letter_12 rfl ?_
    refine sk_aload_n (pc' := 16) X rfl dX5_letter_15 rfl ?_
    refine sk_getf (pc' := 19) X 0 0 14 in_RX5 rfl rfl rfl (Nat.le_of_ble_eq_true rfl) fl_RX5_185 rfl dX5_letter_16 rfl ?_
    refine sk_iald (pc' := 20) X 0 4 rfl rfl dX5_letter_19 rfl ?_
    refine sk_goto (tgt := 24) X dX5_letter_20 rfl ?_
    exact sk_iret X rfl rfl dX5_letter_24
def rm_X5_numbersOf : Room := { frames := 0, cells := 0, slots := 0, locals := 0 }
def o_X5_numbersOf : (Int32) → Option Value := fun r => some (.int r)
def w_X5_numbersOf (G : sk_G) : (Int32) → sk_B := fun r => []
set_option maxHeartbeats 4000000 in
set_option maxRecDepth 100000 in
theorem c_X5_numbersOf (l : Launch) (G : sk_G) (p1 : Int32) : sk_ctr l G yX5_numbersOf cX5_numbersOf 1 (some .int) rm_X5_numbersOf [.int p1] [] (m_X5_numbersOf p1) o_X5_numbersOf (w_X5_numbersOf G) := by
  refine sk_entry (own := RX5) (by decide) rfl (lv0 := [some (.int p1)]) rfl (Nat.le_of_ble_eq_true rfl) ?_
  intro Γ X
  have h38 : ∀ s38 : Unit, sk_S Γ (sk_Φ Γ o_X5_numbersOf (w_X5_numbersOf G)) 0 0 (m_X5_numbersOf_38 p1 s38) [] [none] 38 [] := by
    intro s38
    unfold m_X5_numbersOf_38
    refine sk_iconst (pc' := 39) X ic_3 dX5_numbersOf_38 rfl ?_
    refine sk_goto (tgt := 43) X dX5_numbersOf_39 rfl ?_
    exact sk_iret X rfl rfl dX5_numbersOf_43
  have h12 : ∀ s12 : Unit, sk_S Γ (sk_Φ Γ o_X5_numbersOf (w_X5_numbersOf G)) 0 0 (m_X5_numbersOf_12 p1 s12) [] [none] 12 [] := by
    intro s12
    unfold m_X5_numbersOf_12
    refine sk_iconst (pc' := 13) X ic_1 dX5_numbersOf_12 rfl ?_
    refine sk_goto (tgt := 43) X dX5_numbersOf_13 rfl ?_
    exact sk_iret X rfl rfl dX5_numbersOf_43
  unfold m_X5_numbersOf
  refine sk_iload_n (pc' := 1) X rfl dX5_numbersOf_0 rfl ?_
  refine sk_bipush (pc' := 3) X bp_97 dX5_numbersOf_1 rfl ?_
  refine sk_icmp_eq (tgt := 12) (pc' := 6) X dX5_numbersOf_3 rfl rfl ?_ ?_
  · exact (sk_kill 0 (h12 ()))
  · refine sk_iload_n (pc' := 7) X rfl dX5_numbersOf_6 rfl ?_
    refine sk_bipush (pc' := 9) X bp_116 dX5_numbersOf_7 rfl ?_
    refine sk_icmp_ne (tgt := 16) (pc' := 12) X dX5_numbersOf_9 rfl rfl ?_ ?_
    · refine sk_iload_n (pc' := 17) X rfl dX5_numbersOf_16 rfl ?_
      refine sk_bipush (pc' := 19) X bp_112 dX5_numbersOf_17 rfl ?_
      refine sk_icmp_ne (tgt := 26) (pc' := 22) X dX5_numbersOf_19 rfl rfl ?_ ?_
      · refine sk_iload_n (pc' := 27) X rfl dX5_numbersOf_26 rfl ?_
        refine sk_bipush (pc' := 29) X bp_108 dX5_numbersOf_27 rfl ?_
        refine sk_icmp_eq (tgt := 38) (pc' := 32) X dX5_numbersOf_29 rfl rfl ?_ ?_
        · exact (sk_kill 0 (h38 ()))
        · refine sk_iload_n (pc' := 33) X rfl dX5_numbersOf_32 rfl ?_
          refine sk_bipush (pc' := 35) X bp_98 dX5_numbersOf_33 rfl ?_
          refine sk_icmp_ne (tgt := 42) (pc' := 38) X dX5_numbersOf_35 rfl rfl ?_ ?_
          · refine sk_iconst (pc' := 43) X ic_0 dX5_numbersOf_42 rfl ?_
            exact sk_iret X rfl rfl dX5_numbersOf_43
          · exact (sk_kill 0 (h38 ()))
      · refine sk_iconst (pc' := 23) X ic_2 dX5_numbersOf_22 rfl ?_
        refine sk_goto (tgt := 43) X dX5_numbersOf_23 rfl ?_
        exact sk_iret X rfl rfl dX5_numbersOf_43
    · exact (sk_kill 0 (h12 ()))
def rm_X5_isFigure : Room := { frames := 1, cells := 0, slots := 0, locals := 22 }
def o_X5_isFigure : (Int32) → Option Value := fun r => some (.int r)
def w_X5_isFigure (G : sk_G) : (Int32) → sk_B := fun r => []
set_option maxHeartbeats 4000000 in
set_option maxRecDepth 100000 in
theorem c_X5_isFigure (l : Launch) (G : sk_G) (p1 : Int32) : sk_ctr l G yX5_isFigure cX5_isFigure 1 (some .boolean) rm_X5_isFigure [.int p1] [] (m_X5_isFigure p1) o_X5_isFigure (w_X5_isFigure G) := by
  refine sk_entry (own := RX5) (by decide) rfl (lv0 := [some (.int p1)]) rfl (Nat.le_of_ble_eq_true rfl) ?_
  intro Γ X
  unfold m_X5_isFigure
  refine sk_iload_n (pc' := 1) X rfl dX5_isFigure_0 rfl ?_
  refine sk_bipush (pc' := 3) X bp_48 dX5_isFigure_1 rfl ?_
  refine sk_bipush (pc' := 5) X bp_57 dX5_isFigure_3 rfl ?_
  refine sk_callS (bs2 := fun r5 => []) (st := []) (st2 := fun r5 => [.int r5]) (As := [.int p1, .int (48 : Int32), .int (57 : Int32)]) (pc' := 8) X (c_X5_within l G p1 (48 : Int32) (57 : Int32)) lk_RX5_39 [] rfl (by decide) (fun _ => rfl) ⟨(Nat.le_of_ble_eq_true rfl), (Nat.le_of_ble_eq_true rfl)⟩ ⟨rfl, rfl⟩ ⟨(Nat.le_of_ble_eq_true rfl), (Nat.le_of_ble_eq_true rfl)⟩ rfl (Nat.le_of_ble_eq_true rfl) rfl dX5_isFigure_5 rfl (fun _ => rfl) (fun _ => rfl) (fun r5 => ?_)
  exact sk_zretb X rfl rfl dX5_isFigure_8
def rm_X5_takesCommand : Room := { frames := 2, cells := 0, slots := 0, locals := 42 }
def o_X5_takesCommand : (Int32 × sk_M) → Option Value := fun r => some (.int r.1)
def w_X5_takesCommand (G : sk_G) (u0 : Nat → Nat) : (Int32 × sk_M) → sk_B := fun r => [(md_W G u0 r.2)]
set_option maxHeartbeats 4000000 in
set_option maxRecDepth 100000 in
theorem c_X5_takesCommand (l : Launch) (G : sk_G) (u0 : Nat → Nat) (S0 : sk_M) : sk_ctr l G yX5_takesCommand cX5_takesCommand 4 (some .boolean) rm_X5_takesCommand [.ref (u0 0)] [(md_W G u0 S0)] (m_X5_takesCommand S0) o_X5_takesCommand (w_X5_takesCommand G u0) := by
  refine sk_entry (own := RX5) (by decide) rfl (lv0 := [some (.ref (u0 0)), none, none, none]) rfl (Nat.le_of_ble_eq_true rfl) ?_
  intro Γ X
  have h41 : ∀ s41 : sk_M × Int32 × Int32, sk_S Γ (sk_Φ Γ o_X5_takesCommand (w_X5_takesCommand G u0)) 0 0 (m_X5_takesCommand_41 s41) [(md_W G u0 s41.1)] [some (.ref (u0 0)), some (.int s41.2.1), some (.int s41.2.2), none] 41 [] := by
    intro s41
    unfold m_X5_takesCommand_41
    refine sk_loop (bsf := fun s41 => [(md_W G u0 s41.1)]) (lvf := fun s41 => [some (.ref (u0 0)), some (.int s41.2.1), some (.int s41.2.2), none]) ?_ sk_fuel s41
    intro k41 s41 ih41
    have h134 : ∀ s134 : sk_M × Int32 × Int32 × Int32, sk_S Γ (sk_Φ Γ o_X5_takesCommand (w_X5_takesCommand G u0)) 0 0 (m_X5_takesCommand_134 k41 s134) [(md_W G u0 s134.1)] [some (.ref (u0 0)), some (.int s134.2.1), some (.int s134.2.2.1), some (.int s134.2.2.2)] 134 [] := by
      intro s134
      unfold m_X5_takesCommand_134
      refine sk_aload_n (pc' := 135) X rfl dX5_takesCommand_134 rfl ?_
      refine sk_getf (pc' := 138) X 0 0 12 in_RX5 rfl rfl rfl (Nat.le_of_ble_eq_true rfl) fl_RX5_32 rfl dX5_takesCommand_135 rfl ?_
      refine sk_iconst (pc' := 139) X ic_4 dX5_takesCommand_138 rfl ?_
      refine sk_aload_n (pc' := 140) X rfl dX5_takesCommand_139 rfl ?_
      refine sk_getf (pc' := 143) X 0 0 13 in_RX5 rfl rfl rfl (Nat.le_of_ble_eq_true rfl) fl_RX5_194 rfl dX5_takesCommand_140 rfl ?_
      refine sk_imul (pc' := 144) X dX5_takesCommand_143 rfl ?_
      refine sk_iconst (pc' := 145) X ic_1 dX5_takesCommand_144 rfl ?_
      refine sk_iadd (pc' := 146) X dX5_takesCommand_145 rfl ?_
      refine sk_iload_n (pc' := 147) X rfl dX5_takesCommand_146 rfl ?_
      refine sk_iadd (pc' := 148) X dX5_takesCommand_147 rfl ?_
      refine sk_iload_n (pc' := 149) X rfl dX5_takesCommand_148 rfl ?_
      refine sk_iast (bs' := [(md_W G u0 (md_up s134.1 8 (((((4 : Int32) * (s134.1.1 0 13)) + (1 : Int32)) + s134.2.2.1)).toNatClampNeg s134.2.2.2))]) (pc' := 150) X 0 8 rfl rfl (sk_st 0 (md_st_8 ..) rfl) dX5_takesCommand_149 rfl ?_
      refine sk_lt (bsf := fun z => [(md_W G u0 z)]) (lvf := fun _ => [some (.ref (u0 0)), some (.int s134.2.1), some (.int s134.2.2.1), some (.int s134.2.2.2)]) (stf := fun _ => []) (fun N149 => ?_)
      refine sk_iinc (lv' := [some (.ref (u0 0)), some (.int s134.2.1), some (.int (s134.2.2.1 + (1 : Int32))), some (.int s134.2.2.2)]) (pc' := 153) X rfl ic_1 (Nat.le_of_ble_eq_true rfl) rfl rfl dX5_takesCommand_150 rfl ?_
      refine sk_goto (tgt := 41) X dX5_takesCommand_153 rfl ?_
      exact (sk_kill 3 (ih41 (N149, s134.2.1, (s134.2.2.1 + (1 : Int32)))))
    have h71 : ∀ s71 : sk_M × Int32 × Int32, sk_S Γ (sk_Φ Γ o_X5_takesCommand (w_X5_takesCommand G u0)) 0 0 (m_X5_takesCommand_71 k41 s71) [(md_W G u0 s71.1)] [some (.ref (u0 0)), some (.int s71.2.1), some (.int s71.2.2), none] 71 [] := by
      intro s71
      unfold m_X5_takesCommand_71
      refine sk_aload_n (pc' := 72) X rfl dX5_takesCommand_71 rfl ?_
      refine sk_callV (bs2 := fun r72 => [(md_W G u0 s71.1)]) (st := []) (st2 := fun r72 => [.int r72]) (As := []) (pc' := 75) X (c_X5_letter l G u0 s71.1) lk_RX5_188 [0] rfl (by decide) (fun _ => rfl) rfl rfl rfl ⟨(Nat.le_of_ble_eq_true rfl), (Nat.le_of_ble_eq_true rfl)⟩ ⟨rfl, rfl⟩ ⟨(Nat.le_of_ble_eq_true rfl), (Nat.le_of_ble_eq_true rfl)⟩ rfl (Nat.le_of_ble_eq_true rfl) rfl dX5_takesCommand_72 rfl (fun _ => rfl) (fun _ => rfl) (fun r72 => ?_)
      refine sk_callS (bs2 := fun r75 => [(md_W G u0 s71.1)]) (st := []) (st2 := fun r75 => [.int r75]) (As := [.int r72]) (pc' := 78) X (c_X5_isFigure l G r72) lk_RX5_197 [] rfl (by decide) (fun _ => rfl) ⟨(Nat.le_of_ble_eq_true rfl), (Nat.le_of_ble_eq_true rfl)⟩ ⟨rfl, rfl⟩ ⟨(Nat.le_of_ble_eq_true rfl), (Nat.le_of_ble_eq_true rfl)⟩ rfl (Nat.le_of_ble_eq_true rfl) rfl dX5_takesCommand_75 rfl (fun _ => rfl) (fun _ => rfl) (fun r75 => ?_)
      refine sk_if_ne (tgt := 83) (pc' := 81) X dX5_takesCommand_78 rfl rfl ?_ ?_
      · refine sk_aload_n (pc' := 84) X rfl dX5_takesCommand_83 rfl ?_
        refine sk_callV (bs2 := fun r84 => [(md_W G u0 s71.1)]) (st := []) (st2 := fun r84 => [.int r84]) (As := []) (pc' := 87) X (c_X5_letter l G u0 s71.1) lk_RX5_188 [0] rfl (by decide) (fun _ => rfl) rfl rfl rfl ⟨(Nat.le_of_ble_eq_true rfl), (Nat.le_of_ble_eq_true rfl)⟩ ⟨rfl, rfl⟩ ⟨(Nat.le_of_ble_eq_true rfl), (Nat.le_of_ble_eq_true rfl)⟩ rfl (Nat.le_of_ble_eq_true rfl) rfl dX5_takesCommand_84 rfl (fun _ => rfl) (fun _ => rfl) (fun r84 => ?_)
        refine sk_bipush (pc' := 89) X bp_48 dX5_takesCommand_87 rfl ?_
        refine sk_isub (pc' := 90) X dX5_takesCommand_89 rfl ?_
        refine sk_istore_n (lv' := [some (.ref (u0 0)), some (.int s71.2.1), some (.int s71.2.2), some (.int (r84 - (48 : Int32)))]) (pc' := 91) X (Nat.le_of_ble_eq_true rfl) rfl rfl dX5_takesCommand_90 rfl ?_
        refine sk_lt (bsf := fun _ => [(md_W G u0 s71.1)]) (lvf := fun z => [some (.ref (u0 0)), some (.int s71.2.1), some (.int s71.2.2), some (.int z)]) (stf := fun _ => []) (fun x90 => ?_)
        refine sk_aload_n (pc' := 92) X rfl dX5_takesCommand_91 rfl ?_
        refine sk_dup (pc' := 93) X rfl dX5_takesCommand_92 rfl ?_
        refine sk_getf (pc' := 96) X 0 0 14 in_RX5 rfl rfl rfl (Nat.le_of_ble_eq_true rfl) fl_RX5_185 rfl dX5_takesCommand_93 rfl ?_
        refine sk_iconst (pc' := 97) X ic_1 dX5_takesCommand_96 rfl ?_
        refine sk_iadd (pc' := 98) X dX5_takesCommand_97 rfl ?_
        refine sk_putf (bs' := [(md_W G u0 (md_up s71.1 0 14 ((s71.1.1 0 14) + (1 : Int32))))]) (pc' := 101) X 0 0 14 in_RX5 tyX5 tyX5_ok nmX5 rfl rfl rfl (Nat.le_of_ble_eq_true rfl) fl_RX5_185 rfl (tyX5_ok 14 (Nat.le_of_ble_eq_true rfl)) rfl rfl (Nat.le_of_ble_eq_true rfl) (sk_st 0 (md_pf_14 ..) rfl) dX5_takesCommand_98 rfl ?_
        refine sk_lt (bsf := fun z => [(md_W G u0 z)]) (lvf := fun _ => [some (.ref (u0 0)), some (.int s71.2.1), some (.int s71.2.2), some (.int x90)]) (stf := fun _ => []) (fun N98 => ?_)
        refine sk_aload_n (pc' := 102) X rfl dX5_takesCommand_101 rfl ?_
        refine sk_callV (bs2 := fun r102 => [(md_W G u0 N98)]) (st := []) (st2 := fun r102 => [.int r102]) (As := []) (pc' := 105) X (c_X5_letter l G u0 N98) lk_RX5_188 [0] rfl (by decide) (fun _ => rfl) rfl rfl rfl ⟨(Nat.le_of_ble_eq_true rfl), (Nat.le_of_ble_eq_true rfl)⟩ ⟨rfl, rfl⟩ ⟨(Nat.le_of_ble_eq_true rfl), (Nat.le_of_ble_eq_true rfl)⟩ rfl (Nat.le_of_ble_eq_true rfl) rfl dX5_takesCommand_102 rfl (fun _ => rfl) (fun _ => rfl) (fun r102 => ?_)
        refine sk_callS (bs2 := fun r105 => [(md_W G u0 N98)]) (st := []) (st2 := fun r105 => [.int r105]) (As := [.int r102]) (pc' := 108) X (c_X5_isFigure l G r102) lk_RX5_197 [] rfl (by decide) (fun _ => rfl) ⟨(Nat.le_of_ble_eq_true rfl), (Nat.le_of_ble_eq_true rfl)⟩ ⟨rfl, rfl⟩ ⟨(Nat.le_of_ble_eq_true rfl), (Nat.le_of_ble_eq_true rfl)⟩ rfl (Nat.le_of_ble_eq_true rfl) rfl dX5_takesCommand_105 rfl (fun _ => rfl) (fun _ => rfl) (fun r105 => ?_)
        refine sk_if_eq (tgt := 134) (pc' := 111) X dX5_takesCommand_108 rfl rfl ?_ ?_
        · exact (h134 (N98, s71.2.1, s71.2.2, x90))
        · refine sk_bipush (pc' := 113) X bp_10 dX5_takesCommand_111 rfl ?_
          refine sk_iload_n (pc' := 114) X rfl dX5_takesCommand_113 rfl ?_
          refine sk_imul (pc' := 115) X dX5_takesCommand_114 rfl ?_
          refine sk_aload_n (pc' := 116) X rfl dX5_takesCommand_115 rfl ?_
          refine sk_callV (bs2 := fun r116 => [(md_W G u0 N98)]) (st := [.int ((10 : Int32) * x90)]) (st2 := fun r116 => [.int r116, .int ((10 : Int32) * x90)]) (As := []) (pc' := 119) X (c_X5_letter l G u0 N98) lk_RX5_188 [0] rfl (by decide) (fun _ => rfl) rfl rfl rfl ⟨(Nat.le_of_ble_eq_true rfl), (Nat.le_of_ble_eq_true rfl)⟩ ⟨rfl, rfl⟩ ⟨(Nat.le_of_ble_eq_true rfl), (Nat.le_of_ble_eq_true rfl)⟩ rfl (Nat.le_of_ble_eq_true rfl) rfl dX5_takesCommand_116 rfl (fun _ => rfl) (fun _ => rfl) (fun r116 => ?_)
          refine sk_iadd (pc' := 120) X dX5_takesCommand_119 rfl ?_
          refine sk_bipush (pc' := 122) X bp_48 dX5_takesCommand_120 rfl ?_
          refine sk_isub (pc' := 123) X dX5_takesCommand_122 rfl ?_
          refine sk_istore_n (lv' := [some (.ref (u0 0)), some (.int s71.2.1), some (.int s71.2.2), some (.int ((((10 : Int32) * x90) + r116) - (48 : Int32)))]) (pc' := 124) X (Nat.le_of_ble_eq_true rfl) rfl rfl dX5_takesCommand_123 rfl ?_
          refine sk_lt (bsf := fun _ => [(md_W G u0 N98)]) (lvf := fun z => [some (.ref (u0 0)), some (.int s71.2.1), some (.int s71.2.2), some (.int z)]) (stf := fun _ => []) (fun x123 => ?_)
          refine sk_aload_n (pc' := 125) X rfl dX5_takesCommand_124 rfl ?_
          refine sk_dup (pc' := 126) X rfl dX5_takesCommand_125 rfl ?_
          refine sk_getf (pc' := 129) X 0 0 14 in_RX5 rfl rfl rfl (Nat.le_of_ble_eq_true rfl) fl_RX5_185 rfl dX5_takesCommand_126 rfl ?_
          refine sk_iconst (pc' := 130) X ic_1 dX5_takesCommand_129 rfl ?_
          refine sk_iadd (pc' := 131) X dX5_takesCommand_130 rfl ?_
          refine sk_putf (bs' := [(md_W G u0 (md_up N98 0 14 ((N98.1 0 14) + (1 : Int32))))]) (pc' := 134) X 0 0 14 in_RX5 tyX5 tyX5_ok nmX5 rfl rfl rfl (Nat.le_of_ble_eq_true rfl) fl_RX5_185 rfl (tyX5_ok 14 (Nat.le_of_ble_eq_true rfl)) rfl rfl (Nat.le_of_ble_eq_true rfl) (sk_st 0 (md_pf_14 ..) rfl) dX5_takesCommand_131 rfl ?_
          refine sk_lt (bsf := fun z => [(md_W G u0 z)]) (lvf := fun _ => [some (.ref (u0 0)), some (.int s71.2.1), some (.int s71.2.2), some (.int x123)]) (stf := fun _ => []) (fun N131 => ?_)
          exact (h134 (N131, s71.2.1, s71.2.2, x123))
      · refine sk_iconst (pc' := 82) X ic_0 dX5_takesCommand_81 rfl ?_
        exact sk_zret X (by decide) rfl rfl dX5_takesCommand_82
    unfold m_X5_takesCommand_41_step
    refine sk_iload_n (pc' := 42) X rfl dX5_takesCommand_41 rfl ?_
    refine sk_iload_n (pc' := 43) X rfl dX5_takesCommand_42 rfl ?_
    refine sk_icmp_ge (tgt := 156) (pc' := 46) X dX5_takesCommand_43 rfl rfl ?_ ?_
    · refine sk_aload_n (pc' := 157) X rfl dX5_takesCommand_156 rfl ?_
      refine sk_callV (bs2 := fun r157 => [(md_W G u0 s41.1)]) (st := []) (st2 := fun r157 => [.int r157]) (As := []) (pc' := 160) X (c_X5_letter l G u0 s41.1) lk_RX5_188 [0] rfl (by decide) (fun _ => rfl) rfl rfl rfl ⟨(Nat.le_of_ble_eq_true rfl), (Nat.le_of_ble_eq_true rfl)⟩ ⟨rfl, rfl⟩ ⟨(Nat.le_of_ble_eq_true rfl), (Nat.le_of_ble_eq_true rfl)⟩ rfl (Nat.le_of_ble_eq_true rfl) rfl dX5_takesCommand_157 rfl (fun _ => rfl) (fun _ => rfl) (fun r157 => ?_)
      refine sk_bipush (pc' := 162) X bp_59 dX5_takesCommand_160 rfl ?_
      refine sk_icmp_eq (tgt := 167) (pc' := 165) X dX5_takesCommand_162 rfl rfl ?_ ?_
      · refine sk_aload_n (pc' := 168) X rfl dX5_takesCommand_167 rfl ?_
        refine sk_dup (pc' := 169) X rfl dX5_takesCommand_168 rfl ?_
        refine sk_getf (pc' := 172) X 0 0 14 in_RX5 rfl rfl rfl (Nat.le_of_ble_eq_true rfl) fl_RX5_185 rfl dX5_takesCommand_169 rfl ?_
        refine sk_iconst (pc' := 173) X ic_1 dX5_takesCommand_172 rfl ?_
        refine sk_iadd (pc' := 174) X dX5_takesCommand_173 rfl ?_
        refine sk_putf (bs' := [(md_W G u0 (md_up s41.1 0 14 ((s41.1.1 0 14) + (1 : Int32))))]) (pc' := 177) X 0 0 14 in_RX5 tyX5 tyX5_ok nmX5 rfl rfl rfl (Nat.le_of_ble_eq_true rfl) fl_RX5_185 rfl (tyX5_ok 14 (Nat.le_of_ble_eq_true rfl)) rfl rfl (Nat.le_of_ble_eq_true rfl) (sk_st 0 (md_pf_14 ..) rfl) dX5_takesCommand_174 rfl ?_
        refine sk_lt (bsf := fun z => [(md_W G u0 z)]) (lvf := fun _ => [some (.ref (u0 0)), some (.int s41.2.1), some (.int s41.2.2), none]) (stf := fun _ => []) (fun N174 => ?_)
        refine sk_aload_n (pc' := 178) X rfl dX5_takesCommand_177 rfl ?_
        refine sk_dup (pc' := 179) X rfl dX5_takesCommand_178 rfl ?_
        refine sk_getf (pc' := 182) X 0 0 13 in_RX5 rfl rfl rfl (Nat.le_of_ble_eq_true rfl) fl_RX5_194 rfl dX5_takesCommand_179 rfl ?_
        refine sk_iconst (pc' := 183) X ic_1 dX5_takesCommand_182 rfl ?_
        refine sk_iadd (pc' := 184) X dX5_takesCommand_183 rfl ?_
        refine sk_putf (bs' := [(md_W G u0 (md_up N174 0 13 ((N174.1 0 13) + (1 : Int32))))]) (pc' := 187) X 0 0 13 in_RX5 tyX5 tyX5_ok nmX5 rfl rfl rfl (Nat.le_of_ble_eq_true rfl) fl_RX5_194 rfl (tyX5_ok 13 (Nat.le_of_ble_eq_true rfl)) rfl rfl (Nat.le_of_ble_eq_true rfl) (sk_st 0 (md_pf_13 ..) rfl) dX5_takesCommand_184 rfl ?_
        refine sk_lt (bsf := fun z => [(md_W G u0 z)]) (lvf := fun _ => [some (.ref (u0 0)), some (.int s41.2.1), some (.int s41.2.2), none]) (stf := fun _ => []) (fun N184 => ?_)
        refine sk_iconst (pc' := 188) X ic_1 dX5_takesCommand_187 rfl ?_
        exact sk_zret X (by decide) rfl rfl dX5_takesCommand_188
      · refine sk_iconst (pc' := 166) X ic_0 dX5_takesCommand_165 rfl ?_
        exact sk_zret X (by decide) rfl rfl dX5_takesCommand_166
    · refine sk_iload_n (pc' := 47) X rfl dX5_takesCommand_46 rfl ?_
      refine sk_if_le (tgt := 71) (pc' := 50) X dX5_takesCommand_47 rfl rfl ?_ ?_
      · exact (h71 (s41.1, s41.2.1, s41.2.2))
      · refine sk_aload_n (pc' := 51) X rfl dX5_takesCommand_50 rfl ?_
        refine sk_callV (bs2 := fun r51 => [(md_W G u0 s41.1)]) (st := []) (st2 := fun r51 => [.int r51]) (As := []) (pc' := 54) X (c_X5_letter l G u0 s41.1) lk_RX5_188 [0] rfl (by decide) (fun _ => rfl) rfl rfl rfl ⟨(Nat.le_of_ble_eq_true rfl), (Nat.le_of_ble_eq_true rfl)⟩ ⟨rfl, rfl⟩ ⟨(Nat.le_of_ble_eq_true rfl), (Nat.le_of_ble_eq_true rfl)⟩ rfl (Nat.le_of_ble_eq_true rfl) rfl dX5_takesCommand_51 rfl (fun _ => rfl) (fun _ => rfl) (fun r51 => ?_)
        refine sk_bipush (pc' := 56) X bp_44 dX5_takesCommand_54 rfl ?_
        refine sk_icmp_eq (tgt := 61) (pc' := 59) X dX5_takesCommand_56 rfl rfl ?_ ?_
        · refine sk_aload_n (pc' := 62) X rfl dX5_takesCommand_61 rfl ?_
          refine sk_dup (pc' := 63) X rfl dX5_takesCommand_62 rfl ?_
          refine sk_getf (pc' := 66) X 0 0 14 in_RX5 rfl rfl rfl (Nat.le_of_ble_eq_true rfl) fl_RX5_185 rfl dX5_takesCommand_63 rfl ?_
          refine sk_iconst (pc' := 67) X ic_1 dX5_takesCommand_66 rfl ?_
          refine sk_iadd (pc' := 68) X dX5_takesCommand_67 rfl ?_
          refine sk_putf (bs' := [(md_W G u0 (md_up s41.1 0 14 ((s41.1.1 0 14) + (1 : Int32))))]) (pc' := 71) X 0 0 14 in_RX5 tyX5 tyX5_ok nmX5 rfl rfl rfl (Nat.le_of_ble_eq_true rfl) fl_RX5_185 rfl (tyX5_ok 14 (Nat.le_of_ble_eq_true rfl)) rfl rfl (Nat.le_of_ble_eq_true rfl) (sk_st 0 (md_pf_14 ..) rfl) dX5_takesCommand_68 rfl ?_
          refine sk_lt (bsf := fun z => [(md_W G u0 z)]) (lvf := fun _ => [some (.ref (u0 0)), some (.int s41.2.1), some (.int s41.2.2), none]) (stf := fun _ => []) (fun N68 => ?_)
          exact (h71 (N68, s41.2.1, s41.2.2))
        · refine sk_iconst (pc' := 60) X ic_0 dX5_takesCommand_59 rfl ?_
          exact sk_zret X (by decide) rfl rfl dX5_takesCommand_60
  unfold m_X5_takesCommand
  refine sk_aload_n (pc' := 1) X rfl dX5_takesCommand_0 rfl ?_
  refine sk_callV (bs2 := fun r1 => [(md_W G u0 S0)]) (st := []) (st2 := fun r1 => [.int r1]) (As := []) (pc' := 4) X (c_X5_letter l G u0 S0) lk_RX5_188 [0] rfl (by decide) (fun _ => rfl) rfl rfl rfl ⟨(Nat.le_of_ble_eq_true rfl), (Nat.le_of_ble_eq_true rfl)⟩ ⟨rfl, rfl⟩ ⟨(Nat.le_of_ble_eq_true rfl), (Nat.le_of_ble_eq_true rfl)⟩ rfl (Nat.le_of_ble_eq_true rfl) rfl dX5_takesCommand_1 rfl (fun _ => rfl) (fun _ => rfl) (fun r1 => ?_)
  refine sk_callS (bs2 := fun r4 => [(md_W G u0 S0)]) (st := []) (st2 := fun r4 => [.int r4]) (As := [.int r1]) (pc' := 7) X (c_X5_numbersOf l G r1) lk_RX5_191 [] rfl (by decide) (fun _ => rfl) ⟨(Nat.le_of_ble_eq_true rfl), (Nat.le_of_ble_eq_true rfl)⟩ ⟨rfl, rfl⟩ ⟨(Nat.le_of_ble_eq_true rfl), (Nat.le_of_ble_eq_true rfl)⟩ rfl (Nat.le_of_ble_eq_true rfl) rfl dX5_takesCommand_4 rfl (fun _ => rfl) (fun _ => rfl) (fun r4 => ?_)
  refine sk_istore_n (lv' := [some (.ref (u0 0)), some (.int r4), none, none]) (pc' := 8) X (Nat.le_of_ble_eq_true rfl) rfl rfl dX5_takesCommand_7 rfl ?_
  refine sk_iload_n (pc' := 9) X rfl dX5_takesCommand_8 rfl ?_
  refine sk_if_ne (tgt := 14) (pc' := 12) X dX5_takesCommand_9 rfl rfl ?_ ?_
  · refine sk_aload_n (pc' := 15) X rfl dX5_takesCommand_14 rfl ?_
    refine sk_getf (pc' := 18) X 0 0 12 in_RX5 rfl rfl rfl (Nat.le_of_ble_eq_true rfl) fl_RX5_32 rfl dX5_takesCommand_15 rfl ?_
    refine sk_iconst (pc' := 19) X ic_4 dX5_takesCommand_18 rfl ?_
    refine sk_aload_n (pc' := 20) X rfl dX5_takesCommand_19 rfl ?_
    refine sk_getf (pc' := 23) X 0 0 13 in_RX5 rfl rfl rfl (Nat.le_of_ble_eq_true rfl) fl_RX5_194 rfl dX5_takesCommand_20 rfl ?_
    refine sk_imul (pc' := 24) X dX5_takesCommand_23 rfl ?_
    refine sk_aload_n (pc' := 25) X rfl dX5_takesCommand_24 rfl ?_
    refine sk_callV (bs2 := fun r25 => [(md_W G u0 S0)]) (st := [.int ((4 : Int32) * (S0.1 0 13)), .ref (u0 8)]) (st2 := fun r25 => [.int r25, .int ((4 : Int32) * (S0.1 0 13)), .ref (u0 8)]) (As := []) (pc' := 28) X (c_X5_letter l G u0 S0) lk_RX5_188 [0] rfl (by decide) (fun _ => rfl) rfl rfl rfl ⟨(Nat.le_of_ble_eq_true rfl), (Nat.le_of_ble_eq_true rfl)⟩ ⟨rfl, rfl⟩ ⟨(Nat.le_of_ble_eq_true rfl), (Nat.le_of_ble_eq_true rfl)⟩ rfl (Nat.le_of_ble_eq_true rfl) rfl dX5_takesCommand_25 rfl (fun _ => rfl) (fun _ => rfl) (fun r25 => ?_)
    refine sk_iast (bs' := [(md_W G u0 (md_up S0 8 (((4 : Int32) * (S0.1 0 13))).toNatClampNeg r25))]) (pc' := 29) X 0 8 rfl rfl (sk_st 0 (md_st_8 ..) rfl) dX5_takesCommand_28 rfl ?_
    refine sk_lt (bsf := fun z => [(md_W G u0 z)]) (lvf := fun _ => [some (.ref (u0 0)), some (.int r4), none, none]) (stf := fun _ => []) (fun N28 => ?_)
    refine sk_aload_n (pc' := 30) X rfl dX5_takesCommand_29 rfl ?_
    refine sk_dup (pc' := 31) X rfl dX5_takesCommand_30 rfl ?_
    refine sk_getf (pc' := 34) X 0 0 14 in_RX5 rfl rfl rfl (Nat.le_of_ble_eq_true rfl) fl_RX5_185 rfl dX5_takesCommand_31 rfl ?_
    refine sk_iconst (pc' := 35) X ic_1 dX5_takesCommand_34 rfl ?_
    refine sk_iadd (pc' := 36) X dX5_takesCommand_35 rfl ?_
    refine sk_putf (bs' := [(md_W G u0 (md_up N28 0 14 ((N28.1 0 14) + (1 : Int32))))]) (pc' := 39) X 0 0 14 in_RX5 tyX5 tyX5_ok nmX5 rfl rfl rfl (Nat.le_of_ble_eq_true rfl) fl_RX5_185 rfl (tyX5_ok 14 (Nat.le_of_ble_eq_true rfl)) rfl rfl (Nat.le_of_ble_eq_true rfl) (sk_st 0 (md_pf_14 ..) rfl) dX5_takesCommand_36 rfl ?_
    refine sk_lt (bsf := fun z => [(md_W G u0 z)]) (lvf := fun _ => [some (.ref (u0 0)), some (.int r4), none, none]) (stf := fun _ => []) (fun N36 => ?_)
    refine sk_iconst (pc' := 40) X ic_0 dX5_takesCommand_39 rfl ?_
    refine sk_istore_n (lv' := [some (.ref (u0 0)), some (.int r4), some (.int (0 : Int32)), none]) (pc' := 41) X (Nat.le_of_ble_eq_true rfl) rfl rfl dX5_takesCommand_40 rfl ?_
    exact (h41 (N36, r4, (0 : Int32)))
  · refine sk_iconst (pc' := 13) X ic_0 dX5_takesCommand_12 rfl ?_
    exact sk_zret X (by decide) rfl rfl dX5_takesCommand_13
def rm_X5_execute : Room := { frames := 6, cells := 0, slots := 0, locals := 138 }
def o_X5_execute : (Int32 × sk_M) → Option Value := fun r => some (.int r.1)
def w_X5_execute (G : sk_G) (u0 : Nat → Nat) : (Int32 × sk_M) → sk_B := fun r => [(md_W G u0 r.2)]
set_option maxHeartbeats 4000000 in
set_option maxRecDepth 100000 in
theorem c_X5_execute (l : Launch) (G : sk_G) (u0 : Nat → Nat) (S0 : sk_M) : sk_ctr l G yX5_execute cX5_execute 4 (some .int) rm_X5_execute [.ref (u0 0)] [(md_W G u0 S0)] (m_X5_execute S0) o_X5_execute (w_X5_execute G u0) := by
  refine sk_entry (own := RX5) (by decide) rfl (lv0 := [some (.ref (u0 0)), none, none, none]) rfl (Nat.le_of_ble_eq_true rfl) ?_
  intro Γ X
  have h163 : ∀ s163 : sk_M × Int32, sk_S Γ (sk_Φ Γ o_X5_execute (w_X5_execute G u0)) 0 0 (m_X5_execute_163 s163) [(md_W G u0 s163.1)] [some (.ref (u0 0)), none, some (.int s163.2), none] 163 [] := by
    intro s163
    unfold m_X5_execute_163
    refine sk_loop (bsf := fun s163 => [(md_W G u0 s163.1)]) (lvf := fun s163 => [some (.ref (u0 0)), none, some (.int s163.2), none]) ?_ sk_fuel s163
    intro k163 s163 ih163
    unfold m_X5_execute_163_step
    refine sk_iload_n (pc' := 164) X rfl dX5_execute_163 rfl ?_
    refine sk_sipush (pc' := 167) X sp_378 dX5_execute_164 rfl ?_
    refine sk_icmp_ge (tgt := 188) (pc' := 170) X dX5_execute_167 rfl rfl ?_ ?_
    · refine sk_aload_n (pc' := 189) X rfl dX5_execute_188 rfl ?_
      refine sk_getf (pc' := 192) X 0 0 13 in_RX5 rfl rfl rfl (Nat.le_of_ble_eq_true rfl) fl_RX5_194 rfl dX5_execute_189 rfl ?_
      exact sk_iret X rfl rfl dX5_execute_192
    · refine sk_aload_n (pc' := 171) X rfl dX5_execute_170 rfl ?_
      refine sk_getf (pc' := 174) X 0 0 0 in_RX5 rfl rfl rfl (Nat.le_of_ble_eq_true rfl) fl_RX5_7 rfl dX5_execute_171 rfl ?_
      refine sk_iload_n (pc' := 175) X rfl dX5_execute_174 rfl ?_
      refine sk_aload_n (pc' := 176) X rfl dX5_execute_175 rfl ?_
      refine sk_getf (pc' := 179) X 0 0 2 in_RX5 rfl rfl rfl (Nat.le_of_ble_eq_true rfl) fl_RX5_16 rfl dX5_execute_176 rfl ?_
      refine sk_iload_n (pc' := 180) X rfl dX5_execute_179 rfl ?_
      refine sk_iald (pc' := 181) X 0 3 rfl rfl dX5_execute_180 rfl ?_
      refine sk_iast (bs' := [(md_W G u0 (md_up s163.1 1 (s163.2).toNatClampNeg ((s163.1.1 3) (s163.2).toNatClampNeg)))]) (pc' := 182) X 0 1 rfl rfl (sk_st 0 (md_st_1 ..) rfl) dX5_execute_181 rfl ?_
      refine sk_lt (bsf := fun z => [(md_W G u0 z)]) (lvf := fun _ => [some (.ref (u0 0)), none, some (.int s163.2), none]) (stf := fun _ => []) (fun N181 => ?_)
      refine sk_iinc (lv' := [some (.ref (u0 0)), none, some (.int (s163.2 + (1 : Int32))), none]) (pc' := 185) X rfl ic_1 (Nat.le_of_ble_eq_true rfl) rfl rfl dX5_execute_182 rfl ?_
      refine sk_goto (tgt := 163) X dX5_execute_185 rfl ?_
      exact (ih163 (N181, (s163.2 + (1 : Int32))))
  have h107 : ∀ s107 : sk_M × Int32 × Int32, sk_S Γ (sk_Φ Γ o_X5_execute (w_X5_execute G u0)) 0 0 (m_X5_execute_107 s107) [(md_W G u0 s107.1)] [some (.ref (u0 0)), some (.int s107.2.1), some (.int s107.2.2), none] 107 [] := by
    intro s107
    unfold m_X5_execute_107
    refine sk_loop (bsf := fun s107 => [(md_W G u0 s107.1)]) (lvf := fun s107 => [some (.ref (u0 0)), some (.int s107.2.1), some (.int s107.2.2), none]) ?_ sk_fuel s107
    intro k107 s107 ih107
    unfold m_X5_execute_107_step
    refine sk_iload_n (pc' := 108) X rfl dX5_execute_107 rfl ?_
    refine sk_sipush (pc' := 111) X sp_378 dX5_execute_108 rfl ?_
    refine sk_icmp_ge (tgt := 146) (pc' := 114) X dX5_execute_111 rfl rfl ?_ ?_
    · refine sk_iload_n (pc' := 147) X rfl dX5_execute_146 rfl ?_
      refine sk_iconst (pc' := 148) X ic_m1 dX5_execute_147 rfl ?_
      refine sk_icmp_eq (tgt := 157) (pc' := 151) X dX5_execute_148 rfl rfl ?_ ?_
      · refine sk_aload_n (pc' := 158) X rfl dX5_execute_157 rfl ?_
        refine sk_callV (bs2 := fun r158 => [(md_W G u0 r158)]) (st := []) (st2 := fun r158 => []) (As := []) (pc' := 161) X (c_X5_saves l G u0 s107.1) lk_RX5_54 [0] rfl (by decide) (fun _ => rfl) rfl rfl rfl ⟨(Nat.le_of_ble_eq_true rfl), (Nat.le_of_ble_eq_true rfl)⟩ ⟨rfl, rfl⟩ ⟨(Nat.le_of_ble_eq_true rfl), (Nat.le_of_ble_eq_true rfl)⟩ rfl (Nat.le_of_ble_eq_true rfl) rfl dX5_execute_158 rfl (fun _ => rfl) (fun _ => rfl) (fun r158 => ?_)
        refine sk_iconst (pc' := 162) X ic_0 dX5_execute_161 rfl ?_
        refine sk_istore_n (lv' := [some (.ref (u0 0)), some (.int s107.2.1), some (.int (0 : Int32)), none]) (pc' := 163) X (Nat.le_of_ble_eq_true rfl) rfl rfl dX5_execute_162 rfl ?_
        exact (sk_kill 1 (h163 (r158, (0 : Int32))))
      · refine sk_sipush (pc' := 154) X sp_m1000 dX5_execute_151 rfl ?_
        refine sk_iload_n (pc' := 155) X rfl dX5_execute_154 rfl ?_
        refine sk_isub (pc' := 156) X dX5_execute_155 rfl ?_
        exact sk_iret X rfl rfl dX5_execute_156
    · refine sk_aload_n (pc' := 115) X rfl dX5_execute_114 rfl ?_
      refine sk_getf (pc' := 118) X 0 0 0 in_RX5 rfl rfl rfl (Nat.le_of_ble_eq_true rfl) fl_RX5_7 rfl dX5_execute_115 rfl ?_
      refine sk_iload_n (pc' := 119) X rfl dX5_execute_118 rfl ?_
      refine sk_iald (pc' := 120) X 0 1 rfl rfl dX5_execute_119 rfl ?_
      refine sk_istore_n (lv' := [some (.ref (u0 0)), some (.int s107.2.1), some (.int s107.2.2), some (.int ((s107.1.1 1) (s107.2.2).toNatClampNeg))]) (pc' := 121) X (Nat.le_of_ble_eq_true rfl) rfl rfl dX5_execute_120 rfl ?_
      refine sk_lt (bsf := fun _ => [(md_W G u0 s107.1)]) (lvf := fun z => [some (.ref (u0 0)), some (.int s107.2.1), some (.int s107.2.2), some (.int z)]) (stf := fun _ => []) (fun x120 => ?_)
      refine sk_aload_n (pc' := 122) X rfl dX5_execute_121 rfl ?_
      refine sk_getf (pc' := 125) X 0 0 0 in_RX5 rfl rfl rfl (Nat.le_of_ble_eq_true rfl) fl_RX5_7 rfl dX5_execute_122 rfl ?_
      refine sk_iload_n (pc' := 126) X rfl dX5_execute_125 rfl ?_
      refine sk_aload_n (pc' := 127) X rfl dX5_execute_126 rfl ?_
      refine sk_getf (pc' := 130) X 0 0 2 in_RX5 rfl rfl rfl (Nat.le_of_ble_eq_true rfl) fl_RX5_16 rfl dX5_execute_127 rfl ?_
      refine sk_iload_n (pc' := 131) X rfl dX5_execute_130 rfl ?_
      refine sk_iald (pc' := 132) X 0 3 rfl rfl dX5_execute_131 rfl ?_
      refine sk_iast (bs' := [(md_W G u0 (md_up s107.1 1 (s107.2.2).toNatClampNeg ((s107.1.1 3) (s107.2.2).toNatClampNeg)))]) (pc' := 133) X 0 1 rfl rfl (sk_st 0 (md_st_1 ..) rfl) dX5_execute_132 rfl ?_
      refine sk_lt (bsf := fun z => [(md_W G u0 z)]) (lvf := fun _ => [some (.ref (u0 0)), some (.int s107.2.1), some (.int s107.2.2), some (.int x120)]) (stf := fun _ => []) (fun N132 => ?_)
      refine sk_aload_n (pc' := 134) X rfl dX5_execute_133 rfl ?_
      refine sk_getf (pc' := 137) X 0 0 2 in_RX5 rfl rfl rfl (Nat.le_of_ble_eq_true rfl) fl_RX5_16 rfl dX5_execute_134 rfl ?_
      refine sk_iload_n (pc' := 138) X rfl dX5_execute_137 rfl ?_
      refine sk_iload_n (pc' := 139) X rfl dX5_execute_138 rfl ?_
      refine sk_iast (bs' := [(md_W G u0 (md_up N132 3 (s107.2.2).toNatClampNeg x120))]) (pc' := 140) X 0 3 rfl rfl (sk_st 0 (md_st_3 ..) rfl) dX5_execute_139 rfl ?_
      refine sk_lt (bsf := fun z => [(md_W G u0 z)]) (lvf := fun _ => [some (.ref (u0 0)), some (.int s107.2.1), some (.int s107.2.2), some (.int x120)]) (stf := fun _ => []) (fun N139 => ?_)
      refine sk_iinc (lv' := [some (.ref (u0 0)), some (.int s107.2.1), some (.int (s107.2.2 + (1 : Int32))), some (.int x120)]) (pc' := 143) X rfl ic_1 (Nat.le_of_ble_eq_true rfl) rfl rfl dX5_execute_140 rfl ?_
      refine sk_goto (tgt := 107) X dX5_execute_143 rfl ?_
      exact (sk_kill 3 (ih107 (N139, s107.2.1, (s107.2.2 + (1 : Int32)))))
  have h72 : ∀ s72 : sk_M × Int32 × Int32, sk_S Γ (sk_Φ Γ o_X5_execute (w_X5_execute G u0)) 0 0 (m_X5_execute_72 s72) [(md_W G u0 s72.1)] [some (.ref (u0 0)), some (.int s72.2.1), some (.int s72.2.2), none] 72 [] := by
    intro s72
    unfold m_X5_execute_72
    refine sk_loop (bsf := fun s72 => [(md_W G u0 s72.1)]) (lvf := fun s72 => [some (.ref (u0 0)), some (.int s72.2.1), some (.int s72.2.2), none]) ?_ sk_fuel s72
    intro k72 s72 ih72
    unfold m_X5_execute_72_step
    refine sk_iload_n (pc' := 73) X rfl dX5_execute_72 rfl ?_
    refine sk_aload_n (pc' := 74) X rfl dX5_execute_73 rfl ?_
    refine sk_getf (pc' := 77) X 0 0 13 in_RX5 rfl rfl rfl (Nat.le_of_ble_eq_true rfl) fl_RX5_194 rfl dX5_execute_74 rfl ?_
    refine sk_icmp_ge (tgt := 105) (pc' := 80) X dX5_execute_77 rfl rfl ?_ ?_
    · refine sk_iconst (pc' := 106) X ic_0 dX5_execute_105 rfl ?_
      refine sk_istore_n (lv' := [some (.ref (u0 0)), some (.int s72.2.1), some (.int (0 : Int32)), none]) (pc' := 107) X (Nat.le_of_ble_eq_true rfl) rfl rfl dX5_execute_106 rfl ?_
      exact (h107 (s72.1, s72.2.1, (0 : Int32)))
    · refine sk_iload_n (pc' := 81) X rfl dX5_execute_80 rfl ?_
      refine sk_iconst (pc' := 82) X ic_m1 dX5_execute_81 rfl ?_
      refine sk_icmp_ne (tgt := 105) (pc' := 85) X dX5_execute_82 rfl rfl ?_ ?_
      · refine sk_iconst (pc' := 106) X ic_0 dX5_execute_105 rfl ?_
        refine sk_istore_n (lv' := [some (.ref (u0 0)), some (.int s72.2.1), some (.int (0 : Int32)), none]) (pc' := 107) X (Nat.le_of_ble_eq_true rfl) rfl rfl dX5_execute_106 rfl ?_
        exact (h107 (s72.1, s72.2.1, (0 : Int32)))
      · refine sk_aload_n (pc' := 86) X rfl dX5_execute_85 rfl ?_
        refine sk_iload_n (pc' := 87) X rfl dX5_execute_86 rfl ?_
        refine sk_callV (bs2 := fun r87 => [(md_W G u0 r87.2)]) (st := []) (st2 := fun r87 => [.int r87.1]) (As := [.int s72.2.2]) (pc' := 90) X (c_X5_does l G u0 s72.1 s72.2.2) lk_RX5_204 [0] rfl (by decide) (fun _ => rfl) rfl rfl rfl ⟨(Nat.le_of_ble_eq_true rfl), (Nat.le_of_ble_eq_true rfl)⟩ ⟨rfl, rfl⟩ ⟨(Nat.le_of_ble_eq_true rfl), (Nat.le_of_ble_eq_true rfl)⟩ rfl (Nat.le_of_ble_eq_true rfl) rfl dX5_execute_87 rfl (fun _ => rfl) (fun _ => rfl) (fun r87 => ?_)
        refine sk_if_eq (tgt := 97) (pc' := 93) X dX5_execute_90 rfl rfl ?_ ?_
        · refine sk_iload_n (pc' := 98) X rfl dX5_execute_97 rfl ?_
          refine sk_istore_n (lv' := [some (.ref (u0 0)), some (.int s72.2.2), some (.int s72.2.2), none]) (pc' := 99) X (Nat.le_of_ble_eq_true rfl) rfl rfl dX5_execute_98 rfl ?_
          refine sk_iinc (lv' := [some (.ref (u0 0)), some (.int s72.2.2), some (.int (s72.2.2 + (1 : Int32))), none]) (pc' := 102) X rfl ic_1 (Nat.le_of_ble_eq_true rfl) rfl rfl dX5_execute_99 rfl ?_
          refine sk_goto (tgt := 72) X dX5_execute_102 rfl ?_
          exact (ih72 (r87.2, s72.2.2, (s72.2.2 + (1 : Int32))))
        · refine sk_iconst (pc' := 94) X ic_m1 dX5_execute_93 rfl ?_
          refine sk_goto (tgt := 98) X dX5_execute_94 rfl ?_
          refine sk_istore_n (lv' := [some (.ref (u0 0)), some (.int (-1 : Int32)), some (.int s72.2.2), none]) (pc' := 99) X (Nat.le_of_ble_eq_true rfl) rfl rfl dX5_execute_98 rfl ?_
          refine sk_iinc (lv' := [some (.ref (u0 0)), some (.int (-1 : Int32)), some (.int (s72.2.2 + (1 : Int32))), none]) (pc' := 102) X rfl ic_1 (Nat.le_of_ble_eq_true rfl) rfl rfl dX5_execute_99 rfl ?_
          refine sk_goto (tgt := 72) X dX5_execute_102 rfl ?_
          exact (ih72 (r87.2, (-1 : Int32), (s72.2.2 + (1 : Int32))))
  have h43 : ∀ s43 : sk_M × Int32, sk_S Γ (sk_Φ Γ o_X5_execute (w_X5_execute G u0)) 0 0 (m_X5_execute_43 s43) [(md_W G u0 s43.1)] [some (.ref (u0 0)), some (.int s43.2), none, none] 43 [] := by
    intro s43
    unfold m_X5_execute_43
    refine sk_loop (bsf := fun s43 => [(md_W G u0 s43.1)]) (lvf := fun s43 => [some (.ref (u0 0)), some (.int s43.2), none, none]) ?_ sk_fuel s43
    intro k43 s43 ih43
    unfold m_X5_execute_43_step
    refine sk_iload_n (pc' := 44) X rfl dX5_execute_43 rfl ?_
    refine sk_sipush (pc' := 47) X sp_378 dX5_execute_44 rfl ?_
    refine sk_icmp_ge (tgt := 68) (pc' := 50) X dX5_execute_47 rfl rfl ?_ ?_
    · refine sk_iconst (pc' := 69) X ic_m1 dX5_execute_68 rfl ?_
      refine sk_istore_n (lv' := [some (.ref (u0 0)), some (.int (-1 : Int32)), none, none]) (pc' := 70) X (Nat.le_of_ble_eq_true rfl) rfl rfl dX5_execute_69 rfl ?_
      refine sk_iconst (pc' := 71) X ic_0 dX5_execute_70 rfl ?_
      refine sk_istore_n (lv' := [some (.ref (u0 0)), some (.int (-1 : Int32)), some (.int (0 : Int32)), none]) (pc' := 72) X (Nat.le_of_ble_eq_true rfl) rfl rfl dX5_execute_71 rfl ?_
      exact (h72 (s43.1, (-1 : Int32), (0 : Int32)))
    · refine sk_aload_n (pc' := 51) X rfl dX5_execute_50 rfl ?_
      refine sk_getf (pc' := 54) X 0 0 2 in_RX5 rfl rfl rfl (Nat.le_of_ble_eq_true rfl) fl_RX5_16 rfl dX5_execute_51 rfl ?_
      refine sk_iload_n (pc' := 55) X rfl dX5_execute_54 rfl ?_
      refine sk_aload_n (pc' := 56) X rfl dX5_execute_55 rfl ?_
      refine sk_getf (pc' := 59) X 0 0 0 in_RX5 rfl rfl rfl (Nat.le_of_ble_eq_true rfl) fl_RX5_7 rfl dX5_execute_56 rfl ?_
      refine sk_iload_n (pc' := 60) X rfl dX5_execute_59 rfl ?_
      refine sk_iald (pc' := 61) X 0 1 rfl rfl dX5_execute_60 rfl ?_
      refine sk_iast (bs' := [(md_W G u0 (md_up s43.1 3 (s43.2).toNatClampNeg ((s43.1.1 1) (s43.2).toNatClampNeg)))]) (pc' := 62) X 0 3 rfl rfl (sk_st 0 (md_st_3 ..) rfl) dX5_execute_61 rfl ?_
      refine sk_lt (bsf := fun z => [(md_W G u0 z)]) (lvf := fun _ => [some (.ref (u0 0)), some (.int s43.2), none, none]) (stf := fun _ => []) (fun N61 => ?_)
      refine sk_iinc (lv' := [some (.ref (u0 0)), some (.int (s43.2 + (1 : Int32))), none, none]) (pc' := 65) X rfl ic_1 (Nat.le_of_ble_eq_true rfl) rfl rfl dX5_execute_62 rfl ?_
      refine sk_goto (tgt := 43) X dX5_execute_65 rfl ?_
      exact (ih43 (N61, (s43.2 + (1 : Int32))))
  have h15 : ∀ s15 : sk_M, sk_S Γ (sk_Φ Γ o_X5_execute (w_X5_execute G u0)) 0 0 (m_X5_execute_15 s15) [(md_W G u0 s15)] [some (.ref (u0 0)), none, none, none] 15 [] := by
    intro s15
    unfold m_X5_execute_15
    refine sk_loop (bsf := fun s15 => [(md_W G u0 s15)]) (lvf := fun s15 => [some (.ref (u0 0)), none, none, none]) ?_ sk_fuel s15
    intro k15 s15 ih15
    unfold m_X5_execute_15_step
    refine sk_aload_n (pc' := 16) X rfl dX5_execute_15 rfl ?_
    refine sk_getf (pc' := 19) X 0 0 14 in_RX5 rfl rfl rfl (Nat.le_of_ble_eq_true rfl) fl_RX5_185 rfl dX5_execute_16 rfl ?_
    refine sk_aload_n (pc' := 20) X rfl dX5_execute_19 rfl ?_
    refine sk_getf (pc' := 23) X 0 0 6 in_RX5 rfl rfl rfl (Nat.le_of_ble_eq_true rfl) fl_RX5_182 rfl dX5_execute_20 rfl ?_
    refine sk_icmp_ge (tgt := 41) (pc' := 26) X dX5_execute_23 rfl rfl ?_ ?_
    · refine sk_iconst (pc' := 42) X ic_0 dX5_execute_41 rfl ?_
      refine sk_istore_n (lv' := [some (.ref (u0 0)), some (.int (0 : Int32)), none, none]) (pc' := 43) X (Nat.le_of_ble_eq_true rfl) rfl rfl dX5_execute_42 rfl ?_
      exact (h43 (s15, (0 : Int32)))
    · refine sk_aload_n (pc' := 27) X rfl dX5_execute_26 rfl ?_
      refine sk_callV (bs2 := fun r27 => [(md_W G u0 r27.2)]) (st := []) (st2 := fun r27 => [.int r27.1]) (As := []) (pc' := 30) X (c_X5_takesCommand l G u0 s15) lk_RX5_200 [0] rfl (by decide) (fun _ => rfl) rfl rfl rfl ⟨(Nat.le_of_ble_eq_true rfl), (Nat.le_of_ble_eq_true rfl)⟩ ⟨rfl, rfl⟩ ⟨(Nat.le_of_ble_eq_true rfl), (Nat.le_of_ble_eq_true rfl)⟩ rfl (Nat.le_of_ble_eq_true rfl) rfl dX5_execute_27 rfl (fun _ => rfl) (fun _ => rfl) (fun r27 => ?_)
      refine sk_if_ne (tgt := 15) (pc' := 33) X dX5_execute_30 rfl rfl ?_ ?_
      · exact (ih15 r27.2)
      · refine sk_bipush (pc' := 35) X bp_m10 dX5_execute_33 rfl ?_
        refine sk_aload_n (pc' := 36) X rfl dX5_execute_35 rfl ?_
        refine sk_getf (pc' := 39) X 0 0 14 in_RX5 rfl rfl rfl (Nat.le_of_ble_eq_true rfl) fl_RX5_185 rfl dX5_execute_36 rfl ?_
        refine sk_isub (pc' := 40) X dX5_execute_39 rfl ?_
        exact sk_iret X rfl rfl dX5_execute_40
  unfold m_X5_execute
  refine sk_aload_n (pc' := 1) X rfl dX5_execute_0 rfl ?_
  refine sk_iconst (pc' := 2) X ic_0 dX5_execute_1 rfl ?_
  refine sk_putf (bs' := [(md_W G u0 (md_up S0 0 4 (0 : Int32)))]) (pc' := 5) X 0 0 4 in_RX5 tyX5 tyX5_ok nmX5 rfl rfl rfl (Nat.le_of_ble_eq_true rfl) fl_RX5_35 rfl (tyX5_ok 4 (Nat.le_of_ble_eq_true rfl)) rfl rfl (Nat.le_of_ble_eq_true rfl) (sk_st 0 (md_pf_4 ..) rfl) dX5_execute_2 rfl ?_
  refine sk_lt (bsf := fun z => [(md_W G u0 z)]) (lvf := fun _ => [some (.ref (u0 0)), none, none, none]) (stf := fun _ => []) (fun N2 => ?_)
  refine sk_aload_n (pc' := 6) X rfl dX5_execute_5 rfl ?_
  refine sk_iconst (pc' := 7) X ic_0 dX5_execute_6 rfl ?_
  refine sk_putf (bs' := [(md_W G u0 (md_up N2 0 13 (0 : Int32)))]) (pc' := 10) X 0 0 13 in_RX5 tyX5 tyX5_ok nmX5 rfl rfl rfl (Nat.le_of_ble_eq_true rfl) fl_RX5_194 rfl (tyX5_ok 13 (Nat.le_of_ble_eq_true rfl)) rfl rfl (Nat.le_of_ble_eq_true rfl) (sk_st 0 (md_pf_13 ..) rfl) dX5_execute_7 rfl ?_
  refine sk_lt (bsf := fun z => [(md_W G u0 z)]) (lvf := fun _ => [some (.ref (u0 0)), none, none, none]) (stf := fun _ => []) (fun N7 => ?_)
  refine sk_aload_n (pc' := 11) X rfl dX5_execute_10 rfl ?_
  refine sk_iconst (pc' := 12) X ic_0 dX5_execute_11 rfl ?_
  refine sk_putf (bs' := [(md_W G u0 (md_up N7 0 14 (0 : Int32)))]) (pc' := 15) X 0 0 14 in_RX5 tyX5 tyX5_ok nmX5 rfl rfl rfl (Nat.le_of_ble_eq_true rfl) fl_RX5_185 rfl (tyX5_ok 14 (Nat.le_of_ble_eq_true rfl)) rfl rfl (Nat.le_of_ble_eq_true rfl) (sk_st 0 (md_pf_14 ..) rfl) dX5_execute_12 rfl ?_
  refine sk_lt (bsf := fun z => [(md_W G u0 z)]) (lvf := fun _ => [some (.ref (u0 0)), none, none, none]) (stf := fun _ => []) (fun N12 => ?_)
  exact (h15 N12)
def rm_X5_mix : Room := { frames := 0, cells := 0, slots := 0, locals := 0 }
def o_X5_mix : (sk_M) → Option Value := fun r => none
def w_X5_mix (G : sk_G) (u0 : Nat → Nat) : (sk_M) → sk_B := fun r => [(md_W G u0 r)]
set_option maxHeartbeats 4000000 in
set_option maxRecDepth 100000 in
theorem c_X5_mix (l : Launch) (G : sk_G) (u0 : Nat → Nat) (S0 : sk_M) (p1 : Int32) : sk_ctr l G yX5_mix cX5_mix 2 none rm_X5_mix [.ref (u0 0), .int p1] [(md_W G u0 S0)] (m_X5_mix S0 p1) o_X5_mix (w_X5_mix G u0) := by
  refine sk_entry (own := RX5) (by decide) rfl (lv0 := [some (.ref (u0 0)), some (.int p1)]) rfl (Nat.le_of_ble_eq_true rfl) ?_
  intro Γ X
  unfold m_X5_mix
  refine sk_aload_n (pc' := 1) X rfl dX5_mix_0 rfl ?_
  refine sk_ldc2 (pc' := 4) X q_1330 dX5_mix_1 rfl ?_
  refine sk_aload_n (pc' := 5) X rfl dX5_mix_4 rfl ?_
  refine sk_getf (pc' := 8) X 0 0 15 in_RX5 rfl rfl rfl (Nat.le_of_ble_eq_true rfl) fl_RX5_209 rfl dX5_mix_5 rfl ?_
  refine sk_lmul (pc' := 9) X dX5_mix_8 rfl ?_
  refine sk_iload_n (pc' := 10) X rfl dX5_mix_9 rfl ?_
  refine sk_i2l (pc' := 11) X dX5_mix_10 rfl ?_
  refine sk_ladd (pc' := 12) X dX5_mix_11 rfl ?_
  refine sk_putf (bs' := [(md_W G u0 (md_upl S0 (((31 : Int64) * S0.2) + (p1).toInt64)))]) (pc' := 15) X 0 0 15 in_RX5 tyX5 tyX5_ok nmX5 rfl rfl rfl (Nat.le_of_ble_eq_true rfl) fl_RX5_209 rfl (tyX5_ok 15 (Nat.le_of_ble_eq_true rfl)) rfl rfl (Nat.le_of_ble_eq_true rfl) (sk_st 0 (md_pf_15 ..) rfl) dX5_mix_12 rfl ?_
  refine sk_lt (bsf := fun z => [(md_W G u0 z)]) (lvf := fun _ => [some (.ref (u0 0)), some (.int p1)]) (stf := fun _ => []) (fun N12 => ?_)
  exact sk_vret X rfl rfl dX5_mix_15
def rm_X5_digest : Room := { frames := 3, cells := 0, slots := 0, locals := 68 }
def o_X5_digest : (Int64 × sk_M) → Option Value := fun r => some (.long r.1)
def w_X5_digest (G : sk_G) (u0 : Nat → Nat) : (Int64 × sk_M) → sk_B := fun r => [(md_W G u0 r.2)]
set_option maxHeartbeats 4000000 in
set_option maxRecDepth 100000 in
theorem c_X5_digest (l : Launch) (G : sk_G) (u0 : Nat → Nat) (S0 : sk_M) : sk_ctr l G yX5_digest cX5_digest 3 (some .long) rm_X5_digest [.ref (u0 0)] [(md_W G u0 S0)] (m_X5_digest S0) o_X5_digest (w_X5_digest G u0) := by
  refine sk_entry (own := RX5) (by decide) rfl (lv0 := [some (.ref (u0 0)), none, none]) rfl (Nat.le_of_ble_eq_true rfl) ?_
  intro Γ X
  have h225 : ∀ s225 : sk_M × Int32, sk_S Γ (sk_Φ Γ o_X5_digest (w_X5_digest G u0)) 0 0 (m_X5_digest_225 s225) [(md_W G u0 s225.1)] [some (.ref (u0 0)), some (.int s225.2), none] 225 [] := by
    intro s225
    unfold m_X5_digest_225
    refine sk_loop (bsf := fun s225 => [(md_W G u0 s225.1)]) (lvf := fun s225 => [some (.ref (u0 0)), some (.int s225.2), none]) ?_ sk_fuel s225
    intro k225 s225 ih225
    unfold m_X5_digest_225_step
    refine sk_iload_n (pc' := 226) X rfl dX5_digest_225 rfl ?_
    refine sk_if_lt (tgt := 269) (pc' := 229) X dX5_digest_226 rfl rfl ?_ ?_
    · refine sk_aload_n (pc' := 270) X rfl dX5_digest_269 rfl ?_
      refine sk_aload_n (pc' := 271) X rfl dX5_digest_270 rfl ?_
      refine sk_getf (pc' := 274) X 0 0 6 in_RX5 rfl rfl rfl (Nat.le_of_ble_eq_true rfl) fl_RX5_182 rfl dX5_digest_271 rfl ?_
      refine sk_callV (bs2 := fun r274 => [(md_W G u0 r274)]) (st := []) (st2 := fun r274 => []) (As := [.int (s225.1.1 0 6)]) (pc' := 277) X (c_X5_mix l G u0 s225.1 (s225.1.1 0 6)) lk_RX5_215 [0] rfl (by decide) (fun _ => rfl) rfl rfl rfl ⟨(Nat.le_of_ble_eq_true rfl), (Nat.le_of_ble_eq_true rfl)⟩ ⟨rfl, rfl⟩ ⟨(Nat.le_of_ble_eq_true rfl), (Nat.le_of_ble_eq_true rfl)⟩ rfl (Nat.le_of_ble_eq_true rfl) rfl dX5_digest_274 rfl (fun _ => rfl) (fun _ => rfl) (fun r274 => ?_)
      refine sk_aload_n (pc' := 278) X rfl dX5_digest_277 rfl ?_
      refine sk_aload_n (pc' := 279) X rfl dX5_digest_278 rfl ?_
      refine sk_getf (pc' := 282) X 0 0 3 in_RX5 rfl rfl rfl (Nat.le_of_ble_eq_true rfl) fl_RX5_43 rfl dX5_digest_279 rfl ?_
      refine sk_callV (bs2 := fun r282 => [(md_W G u0 r282)]) (st := []) (st2 := fun r282 => []) (As := [.int (r274.1 0 3)]) (pc' := 285) X (c_X5_mix l G u0 r274 (r274.1 0 3)) lk_RX5_215 [0] rfl (by decide) (fun _ => rfl) rfl rfl rfl ⟨(Nat.le_of_ble_eq_true rfl), (Nat.le_of_ble_eq_true rfl)⟩ ⟨rfl, rfl⟩ ⟨(Nat.le_of_ble_eq_true rfl), (Nat.le_of_ble_eq_true rfl)⟩ rfl (Nat.le_of_ble_eq_true rfl) rfl dX5_digest_282 rfl (fun _ => rfl) (fun _ => rfl) (fun r282 => ?_)
      refine sk_aload_n (pc' := 286) X rfl dX5_digest_285 rfl ?_
      refine sk_getf (pc' := 289) X 0 0 15 in_RX5 rfl rfl rfl (Nat.le_of_ble_eq_true rfl) fl_RX5_209 rfl dX5_digest_286 rfl ?_
      exact sk_lret X rfl rfl dX5_digest_289
    · refine sk_aload_n (pc' := 230) X rfl dX5_digest_229 rfl ?_
      refine sk_aload_n (pc' := 231) X rfl dX5_digest_230 rfl ?_
      refine sk_getf (pc' := 234) X 0 0 0 in_RX5 rfl rfl rfl (Nat.le_of_ble_eq_true rfl) fl_RX5_7 rfl dX5_digest_231 rfl ?_
      refine sk_sipush (pc' := 237) X sp_258 dX5_digest_234 rfl ?_
      refine sk_iconst (pc' := 238) X ic_2 dX5_digest_237 rfl ?_
      refine sk_iload_n (pc' := 239) X rfl dX5_digest_238 rfl ?_
      refine sk_imul (pc' := 240) X dX5_digest_239 rfl ?_
      refine sk_iadd (pc' := 241) X dX5_digest_240 rfl ?_
      refine sk_iald (pc' := 242) X 0 1 rfl rfl dX5_digest_241 rfl ?_
      refine sk_callV (bs2 := fun r242 => [(md_W G u0 r242)]) (st := []) (st2 := fun r242 => []) (As := [.int ((s225.1.1 1) (((258 : Int32) + ((2 : Int32) * s225.2))).toNatClampNeg)]) (pc' := 245) X (c_X5_mix l G u0 s225.1 ((s225.1.1 1) (((258 : Int32) + ((2 : Int32) * s225.2))).toNatClampNeg)) lk_RX5_215 [0] rfl (by decide) (fun _ => rfl) rfl rfl rfl ⟨(Nat.le_of_ble_eq_true rfl), (Nat.le_of_ble_eq_true rfl)⟩ ⟨rfl, rfl⟩ ⟨(Nat.le_of_ble_eq_true rfl), (Nat.le_of_ble_eq_true rfl)⟩ rfl (Nat.le_of_ble_eq_true rfl) rfl dX5_digest_242 rfl (fun _ => rfl) (fun _ => rfl) (fun r242 => ?_)
      refine sk_aload_n (pc' := 246) X rfl dX5_digest_245 rfl ?_
      refine sk_aload_n (pc' := 247) X rfl dX5_digest_246 rfl ?_
      refine sk_getf (pc' := 250) X 0 0 0 in_RX5 rfl rfl rfl (Nat.le_of_ble_eq_true rfl) fl_RX5_7 rfl dX5_digest_247 rfl ?_
      refine sk_sipush (pc' := 253) X sp_258 dX5_digest_250 rfl ?_
      refine sk_iconst (pc' := 254) X ic_2 dX5_digest_253 rfl ?_
      refine sk_iload_n (pc' := 255) X rfl dX5_digest_254 rfl ?_
      refine sk_imul (pc' := 256) X dX5_digest_255 rfl ?_
      refine sk_iadd (pc' := 257) X dX5_digest_256 rfl ?_
      refine sk_iconst (pc' := 258) X ic_1 dX5_digest_257 rfl ?_
      refine sk_iadd (pc' := 259) X dX5_digest_258 rfl ?_
      refine sk_iald (pc' := 260) X 0 1 rfl rfl dX5_digest_259 rfl ?_
      refine sk_callV (bs2 := fun r260 => [(md_W G u0 r260)]) (st := []) (st2 := fun r260 => []) (As := [.int ((r242.1 1) ((((258 : Int32) + ((2 : Int32) * s225.2)) + (1 : Int32))).toNatClampNeg)]) (pc' := 263) X (c_X5_mix l G u0 r242 ((r242.1 1) ((((258 : Int32) + ((2 : Int32) * s225.2)) + (1 : Int32))).toNatClampNeg)) lk_RX5_215 [0] rfl (by decide) (fun _ => rfl) rfl rfl rfl ⟨(Nat.le_of_ble_eq_true rfl), (Nat.le_of_ble_eq_true rfl)⟩ ⟨rfl, rfl⟩ ⟨(Nat.le_of_ble_eq_true rfl), (Nat.le_of_ble_eq_true rfl)⟩ rfl (Nat.le_of_ble_eq_true rfl) rfl dX5_digest_260 rfl (fun _ => rfl) (fun _ => rfl) (fun r260 => ?_)
      refine sk_iinc (lv' := [some (.ref (u0 0)), some (.int (s225.2 + (-1 : Int32))), none]) (pc' := 266) X rfl ic_m1 (Nat.le_of_ble_eq_true rfl) rfl rfl dX5_digest_263 rfl ?_
      refine sk_goto (tgt := 225) X dX5_digest_266 rfl ?_
      exact (ih225 (r260, (s225.2 + (-1 : Int32))))
  have h171 : ∀ s171 : sk_M × Int32, sk_S Γ (sk_Φ Γ o_X5_digest (w_X5_digest G u0)) 0 0 (m_X5_digest_171 s171) [(md_W G u0 s171.1)] [some (.ref (u0 0)), some (.int s171.2), none] 171 [] := by
    intro s171
    unfold m_X5_digest_171
    refine sk_loop (bsf := fun s171 => [(md_W G u0 s171.1)]) (lvf := fun s171 => [some (.ref (u0 0)), some (.int s171.2), none]) ?_ sk_fuel s171
    intro k171 s171 ih171
    unfold m_X5_digest_171_step
    refine sk_iload_n (pc' := 172) X rfl dX5_digest_171 rfl ?_
    refine sk_aload_n (pc' := 173) X rfl dX5_digest_172 rfl ?_
    refine sk_callV (bs2 := fun r173 => [(md_W G u0 s171.1)]) (st := [.int s171.2]) (st2 := fun r173 => [.int r173, .int s171.2]) (As := []) (pc' := 176) X (c_X5_groupMany l G u0 s171.1) lk_RX5_151 [0] rfl (by decide) (fun _ => rfl) rfl rfl rfl ⟨(Nat.le_of_ble_eq_true rfl), (Nat.le_of_ble_eq_true rfl)⟩ ⟨rfl, rfl⟩ ⟨(Nat.le_of_ble_eq_true rfl), (Nat.le_of_ble_eq_true rfl)⟩ rfl (Nat.le_of_ble_eq_true rfl) rfl dX5_digest_173 rfl (fun _ => rfl) (fun _ => rfl) (fun r173 => ?_)
    refine sk_icmp_ge (tgt := 207) (pc' := 179) X dX5_digest_176 rfl rfl ?_ ?_
    · refine sk_aload_n (pc' := 208) X rfl dX5_digest_207 rfl ?_
      refine sk_aload_n (pc' := 209) X rfl dX5_digest_208 rfl ?_
      refine sk_callV (bs2 := fun r209 => [(md_W G u0 s171.1)]) (st := [.ref (u0 0)]) (st2 := fun r209 => [.int r209, .ref (u0 0)]) (As := []) (pc' := 212) X (c_X5_spreadOf l G u0 s171.1) lk_RX5_157 [0] rfl (by decide) (fun _ => rfl) rfl rfl rfl ⟨(Nat.le_of_ble_eq_true rfl), (Nat.le_of_ble_eq_true rfl)⟩ ⟨rfl, rfl⟩ ⟨(Nat.le_of_ble_eq_true rfl), (Nat.le_of_ble_eq_true rfl)⟩ rfl (Nat.le_of_ble_eq_true rfl) rfl dX5_digest_209 rfl (fun _ => rfl) (fun _ => rfl) (fun r209 => ?_)
      refine sk_callV (bs2 := fun r212 => [(md_W G u0 r212)]) (st := []) (st2 := fun r212 => []) (As := [.int r209]) (pc' := 215) X (c_X5_mix l G u0 s171.1 r209) lk_RX5_215 [0] rfl (by decide) (fun _ => rfl) rfl rfl rfl ⟨(Nat.le_of_ble_eq_true rfl), (Nat.le_of_ble_eq_true rfl)⟩ ⟨rfl, rfl⟩ ⟨(Nat.le_of_ble_eq_true rfl), (Nat.le_of_ble_eq_true rfl)⟩ rfl (Nat.le_of_ble_eq_true rfl) rfl dX5_digest_212 rfl (fun _ => rfl) (fun _ => rfl) (fun r212 => ?_)
      refine sk_aload_n (pc' := 216) X rfl dX5_digest_215 rfl ?_
      refine sk_getf (pc' := 219) X 0 0 0 in_RX5 rfl rfl rfl (Nat.le_of_ble_eq_true rfl) fl_RX5_7 rfl dX5_digest_216 rfl ?_
      refine sk_bipush (pc' := 221) X bp_7 dX5_digest_219 rfl ?_
      refine sk_iald (pc' := 222) X 0 1 rfl rfl dX5_digest_221 rfl ?_
      refine sk_iconst (pc' := 223) X ic_1 dX5_digest_222 rfl ?_
      refine sk_isub (pc' := 224) X dX5_digest_223 rfl ?_
      refine sk_istore_n (lv' := [some (.ref (u0 0)), some (.int (((r212.1 1) ((7 : Int32)).toNatClampNeg) - (1 : Int32))), none]) (pc' := 225) X (Nat.le_of_ble_eq_true rfl) rfl rfl dX5_digest_224 rfl ?_
      refine sk_lt (bsf := fun _ => [(md_W G u0 r212)]) (lvf := fun z => [some (.ref (u0 0)), some (.int z), none]) (stf := fun _ => []) (fun x224 => ?_)
      exact (h225 (r212, x224))
    · refine sk_aload_n (pc' := 180) X rfl dX5_digest_179 rfl ?_
      refine sk_aload_n (pc' := 181) X rfl dX5_digest_180 rfl ?_
      refine sk_iload_n (pc' := 182) X rfl dX5_digest_181 rfl ?_
      refine sk_callV (bs2 := fun r182 => [(md_W G u0 s171.1)]) (st := [.ref (u0 0)]) (st2 := fun r182 => [.int r182, .ref (u0 0)]) (As := [.int s171.2]) (pc' := 185) X (c_X5_phaseOf l G u0 s171.1 s171.2) lk_RX5_154 [0] rfl (by decide) (fun _ => rfl) rfl rfl rfl ⟨(Nat.le_of_ble_eq_true rfl), (Nat.le_of_ble_eq_true rfl)⟩ ⟨rfl, rfl⟩ ⟨(Nat.le_of_ble_eq_true rfl), (Nat.le_of_ble_eq_true rfl)⟩ rfl (Nat.le_of_ble_eq_true rfl) rfl dX5_digest_182 rfl (fun _ => rfl) (fun _ => rfl) (fun r182 => ?_)
      refine sk_callV (bs2 := fun r185 => [(md_W G u0 r185)]) (st := []) (st2 := fun r185 => []) (As := [.int r182]) (pc' := 188) X (c_X5_mix l G u0 s171.1 r182) lk_RX5_215 [0] rfl (by decide) (fun _ => rfl) rfl rfl rfl ⟨(Nat.le_of_ble_eq_true rfl), (Nat.le_of_ble_eq_true rfl)⟩ ⟨rfl, rfl⟩ ⟨(Nat.le_of_ble_eq_true rfl), (Nat.le_of_ble_eq_true rfl)⟩ rfl (Nat.le_of_ble_eq_true rfl) rfl dX5_digest_185 rfl (fun _ => rfl) (fun _ => rfl) (fun r185 => ?_)
      refine sk_aload_n (pc' := 189) X rfl dX5_digest_188 rfl ?_
      refine sk_aload_n (pc' := 190) X rfl dX5_digest_189 rfl ?_
      refine sk_aload_n (pc' := 191) X rfl dX5_digest_190 rfl ?_
      refine sk_iload_n (pc' := 192) X rfl dX5_digest_191 rfl ?_
      refine sk_callV (bs2 := fun r192 => [(md_W G u0 r185)]) (st := [.ref (u0 0), .ref (u0 0)]) (st2 := fun r192 => [.int r192, .ref (u0 0), .ref (u0 0)]) (As := [.int s171.2]) (pc' := 195) X (c_X5_phaseOf l G u0 r185 s171.2) lk_RX5_154 [0] rfl (by decide) (fun _ => rfl) rfl rfl rfl ⟨(Nat.le_of_ble_eq_true rfl), (Nat.le_of_ble_eq_true rfl)⟩ ⟨rfl, rfl⟩ ⟨(Nat.le_of_ble_eq_true rfl), (Nat.le_of_ble_eq_true rfl)⟩ rfl (Nat.le_of_ble_eq_true rfl) rfl dX5_digest_192 rfl (fun _ => rfl) (fun _ => rfl) (fun r192 => ?_)
      refine sk_callV (bs2 := fun r195 => [(md_W G u0 r185)]) (st := [.ref (u0 0)]) (st2 := fun r195 => [.int r195, .ref (u0 0)]) (As := [.int r192]) (pc' := 198) X (c_X5_at l G u0 r185 r192) lk_RX5_148 [0] rfl (by decide) (fun _ => rfl) rfl rfl rfl ⟨(Nat.le_of_ble_eq_true rfl), (Nat.le_of_ble_eq_true rfl)⟩ ⟨rfl, rfl⟩ ⟨(Nat.le_of_ble_eq_true rfl), (Nat.le_of_ble_eq_true rfl)⟩ rfl (Nat.le_of_ble_eq_true rfl) rfl dX5_digest_195 rfl (fun _ => rfl) (fun _ => rfl) (fun r195 => ?_)
      refine sk_callV (bs2 := fun r198 => [(md_W G u0 r198)]) (st := []) (st2 := fun r198 => []) (As := [.int r195]) (pc' := 201) X (c_X5_mix l G u0 r185 r195) lk_RX5_215 [0] rfl (by decide) (fun _ => rfl) rfl rfl rfl ⟨(Nat.le_of_ble_eq_true rfl), (Nat.le_of_ble_eq_true rfl)⟩ ⟨rfl, rfl⟩ ⟨(Nat.le_of_ble_eq_true rfl), (Nat.le_of_ble_eq_true rfl)⟩ rfl (Nat.le_of_ble_eq_true rfl) rfl dX5_digest_198 rfl (fun _ => rfl) (fun _ => rfl) (fun r198 => ?_)
      refine sk_iinc (lv' := [some (.ref (u0 0)), some (.int (s171.2 + (1 : Int32))), none]) (pc' := 204) X rfl ic_1 (Nat.le_of_ble_eq_true rfl) rfl rfl dX5_digest_201 rfl ?_
      refine sk_goto (tgt := 171) X dX5_digest_204 rfl ?_
      exact (ih171 (r198, (s171.2 + (1 : Int32))))
  have h74 : ∀ s74 : sk_M × Int32, sk_S Γ (sk_Φ Γ o_X5_digest (w_X5_digest G u0)) 0 0 (m_X5_digest_74 s74) [(md_W G u0 s74.1)] [some (.ref (u0 0)), some (.int s74.2), none] 74 [] := by
    intro s74
    unfold m_X5_digest_74
    refine sk_loop (bsf := fun s74 => [(md_W G u0 s74.1)]) (lvf := fun s74 => [some (.ref (u0 0)), some (.int s74.2), none]) ?_ sk_fuel s74
    intro k74 s74 ih74
    have h110 : ∀ s110 : sk_M × Int32 × Int32, sk_S Γ (sk_Φ Γ o_X5_digest (w_X5_digest G u0)) 0 0 (m_X5_digest_110 k74 s110) [(md_W G u0 s110.1)] [some (.ref (u0 0)), some (.int s110.2.1), some (.int s110.2.2)] 110 [] := by
      intro s110
      unfold m_X5_digest_110
      refine sk_loop (bsf := fun s110 => [(md_W G u0 s110.1)]) (lvf := fun s110 => [some (.ref (u0 0)), some (.int s110.2.1), some (.int s110.2.2)]) ?_ sk_fuel s110
      intro k110 s110 ih110
      unfold m_X5_digest_110_step
      refine sk_iload_n (pc' := 111) X rfl dX5_digest_110 rfl ?_
      refine sk_aload_n (pc' := 112) X rfl dX5_digest_111 rfl ?_
      refine sk_getf (pc' := 115) X 0 0 0 in_RX5 rfl rfl rfl (Nat.le_of_ble_eq_true rfl) fl_RX5_7 rfl dX5_digest_112 rfl ?_
      refine sk_iconst (pc' := 116) X ic_5 dX5_digest_115 rfl ?_
      refine sk_iald (pc' := 117) X 0 1 rfl rfl dX5_digest_116 rfl ?_
      refine sk_icmp_ge (tgt := 136) (pc' := 120) X dX5_digest_117 rfl rfl ?_ ?_
      · refine sk_iinc (lv' := [some (.ref (u0 0)), some (.int (s110.2.1 + (1 : Int32))), some (.int s110.2.2)]) (pc' := 139) X rfl ic_1 (Nat.le_of_ble_eq_true rfl) rfl rfl dX5_digest_136 rfl ?_
        refine sk_goto (tgt := 74) X dX5_digest_139 rfl ?_
        exact (sk_kill 2 (ih74 (s110.1, (s110.2.1 + (1 : Int32)))))
      · refine sk_aload_n (pc' := 121) X rfl dX5_digest_120 rfl ?_
        refine sk_aload_n (pc' := 122) X rfl dX5_digest_121 rfl ?_
        refine sk_iload_n (pc' := 123) X rfl dX5_digest_122 rfl ?_
        refine sk_iload_n (pc' := 124) X rfl dX5_digest_123 rfl ?_
        refine sk_callV (bs2 := fun r124 => [(md_W G u0 s110.1)]) (st := [.ref (u0 0)]) (st2 := fun r124 => [.int r124, .ref (u0 0)]) (As := [.int s110.2.1, .int s110.2.2]) (pc' := 127) X (c_X5_delay l G u0 s110.1 s110.2.1 s110.2.2) lk_RX5_78 [0] rfl (by decide) (fun _ => rfl) rfl rfl rfl ⟨(Nat.le_of_ble_eq_true rfl), (Nat.le_of_ble_eq_true rfl)⟩ ⟨rfl, rfl⟩ ⟨(Nat.le_of_ble_eq_true rfl), (Nat.le_of_ble_eq_true rfl)⟩ rfl (Nat.le_of_ble_eq_true rfl) rfl dX5_digest_124 rfl (fun _ => rfl) (fun _ => rfl) (fun r124 => ?_)
        refine sk_callV (bs2 := fun r127 => [(md_W G u0 r127)]) (st := []) (st2 := fun r127 => []) (As := [.int r124]) (pc' := 130) X (c_X5_mix l G u0 s110.1 r124) lk_RX5_215 [0] rfl (by decide) (fun _ => rfl) rfl rfl rfl ⟨(Nat.le_of_ble_eq_true rfl), (Nat.le_of_ble_eq_true rfl)⟩ ⟨rfl, rfl⟩ ⟨(Nat.le_of_ble_eq_true rfl), (Nat.le_of_ble_eq_true rfl)⟩ rfl (Nat.le_of_ble_eq_true rfl) rfl dX5_digest_127 rfl (fun _ => rfl) (fun _ => rfl) (fun r127 => ?_)
        refine sk_iinc (lv' := [some (.ref (u0 0)), some (.int s110.2.1), some (.int (s110.2.2 + (1 : Int32)))]) (pc' := 133) X rfl ic_1 (Nat.le_of_ble_eq_true rfl) rfl rfl dX5_digest_130 rfl ?_
        refine sk_goto (tgt := 110) X dX5_digest_133 rfl ?_
        exact (ih110 (r127, s110.2.1, (s110.2.2 + (1 : Int32))))
    have h86 : ∀ s86 : sk_M × Int32 × Int32, sk_S Γ (sk_Φ Γ o_X5_digest (w_X5_digest G u0)) 0 0 (m_X5_digest_86 k74 s86) [(md_W G u0 s86.1)] [some (.ref (u0 0)), some (.int s86.2.1), some (.int s86.2.2)] 86 [] := by
      intro s86
      unfold m_X5_digest_86
      refine sk_loop (bsf := fun s86 => [(md_W G u0 s86.1)]) (lvf := fun s86 => [some (.ref (u0 0)), some (.int s86.2.1), some (.int s86.2.2)]) ?_ sk_fuel s86
      intro k86 s86 ih86
      unfold m_X5_digest_86_step
      refine sk_iload_n (pc' := 87) X rfl dX5_digest_86 rfl ?_
      refine sk_bipush (pc' := 89) X bp_7 dX5_digest_87 rfl ?_
      refine sk_icmp_ge (tgt := 108) (pc' := 92) X dX5_digest_89 rfl rfl ?_ ?_
      · refine sk_iconst (pc' := 109) X ic_0 dX5_digest_108 rfl ?_
        refine sk_istore_n (lv' := [some (.ref (u0 0)), some (.int s86.2.1), some (.int (0 : Int32))]) (pc' := 110) X (Nat.le_of_ble_eq_true rfl) rfl rfl dX5_digest_109 rfl ?_
        exact (h110 (s86.1, s86.2.1, (0 : Int32)))
      · refine sk_aload_n (pc' := 93) X rfl dX5_digest_92 rfl ?_
        refine sk_aload_n (pc' := 94) X rfl dX5_digest_93 rfl ?_
        refine sk_iload_n (pc' := 95) X rfl dX5_digest_94 rfl ?_
        refine sk_iload_n (pc' := 96) X rfl dX5_digest_95 rfl ?_
        refine sk_callV (bs2 := fun r96 => [(md_W G u0 s86.1)]) (st := [.ref (u0 0)]) (st2 := fun r96 => [.int r96, .ref (u0 0)]) (As := [.int s86.2.1, .int s86.2.2]) (pc' := 99) X (c_X5_told l G u0 s86.1 s86.2.1 s86.2.2) lk_RX5_104 [0] rfl (by decide) (fun _ => rfl) rfl rfl rfl ⟨(Nat.le_of_ble_eq_true rfl), (Nat.le_of_ble_eq_true rfl)⟩ ⟨rfl, rfl⟩ ⟨(Nat.le_of_ble_eq_true rfl), (Nat.le_of_ble_eq_true rfl)⟩ rfl (Nat.le_of_ble_eq_true rfl) rfl dX5_digest_96 rfl (fun _ => rfl) (fun _ => rfl) (fun r96 => ?_)
        refine sk_callV (bs2 := fun r99 => [(md_W G u0 r99)]) (st := []) (st2 := fun r99 => []) (As := [.int r96]) (pc' := 102) X (c_X5_mix l G u0 s86.1 r96) lk_RX5_215 [0] rfl (by decide) (fun _ => rfl) rfl rfl rfl ⟨(Nat.le_of_ble_eq_true rfl), (Nat.le_of_ble_eq_true rfl)⟩ ⟨rfl, rfl⟩ ⟨(Nat.le_of_ble_eq_true rfl), (Nat.le_of_ble_eq_true rfl)⟩ rfl (Nat.le_of_ble_eq_true rfl) rfl dX5_digest_99 rfl (fun _ => rfl) (fun _ => rfl) (fun r99 => ?_)
        refine sk_iinc (lv' := [some (.ref (u0 0)), some (.int s86.2.1), some (.int (s86.2.2 + (1 : Int32)))]) (pc' := 105) X rfl ic_1 (Nat.le_of_ble_eq_true rfl) rfl rfl dX5_digest_102 rfl ?_
        refine sk_goto (tgt := 86) X dX5_digest_105 rfl ?_
        exact (ih86 (r99, s86.2.1, (s86.2.2 + (1 : Int32))))
    unfold m_X5_digest_74_step
    refine sk_iload_n (pc' := 75) X rfl dX5_digest_74 rfl ?_
    refine sk_aload_n (pc' := 76) X rfl dX5_digest_75 rfl ?_
    refine sk_getf (pc' := 79) X 0 0 0 in_RX5 rfl rfl rfl (Nat.le_of_ble_eq_true rfl) fl_RX5_7 rfl dX5_digest_76 rfl ?_
    refine sk_iconst (pc' := 80) X ic_5 dX5_digest_79 rfl ?_
    refine sk_iald (pc' := 81) X 0 1 rfl rfl dX5_digest_80 rfl ?_
    refine sk_icmp_ge (tgt := 142) (pc' := 84) X dX5_digest_81 rfl rfl ?_ ?_
    · refine sk_aload_n (pc' := 143) X rfl dX5_digest_142 rfl ?_
      refine sk_aload_n (pc' := 144) X rfl dX5_digest_143 rfl ?_
      refine sk_getf (pc' := 147) X 0 0 0 in_RX5 rfl rfl rfl (Nat.le_of_ble_eq_true rfl) fl_RX5_7 rfl dX5_digest_144 rfl ?_
      refine sk_bipush (pc' := 149) X bp_6 dX5_digest_147 rfl ?_
      refine sk_iald (pc' := 150) X 0 1 rfl rfl dX5_digest_149 rfl ?_
      refine sk_callV (bs2 := fun r150 => [(md_W G u0 r150)]) (st := []) (st2 := fun r150 => []) (As := [.int ((s74.1.1 1) ((6 : Int32)).toNatClampNeg)]) (pc' := 153) X (c_X5_mix l G u0 s74.1 ((s74.1.1 1) ((6 : Int32)).toNatClampNeg)) lk_RX5_215 [0] rfl (by decide) (fun _ => rfl) rfl rfl rfl ⟨(Nat.le_of_ble_eq_true rfl), (Nat.le_of_ble_eq_true rfl)⟩ ⟨rfl, rfl⟩ ⟨(Nat.le_of_ble_eq_true rfl), (Nat.le_of_ble_eq_true rfl)⟩ rfl (Nat.le_of_ble_eq_true rfl) rfl dX5_digest_150 rfl (fun _ => rfl) (fun _ => rfl) (fun r150 => ?_)
      refine sk_aload_n (pc' := 154) X rfl dX5_digest_153 rfl ?_
      refine sk_aload_n (pc' := 155) X rfl dX5_digest_154 rfl ?_
      refine sk_callV (bs2 := fun r155 => [(md_W G u0 r150)]) (st := [.ref (u0 0)]) (st2 := fun r155 => [.int r155, .ref (u0 0)]) (As := []) (pc' := 158) X (c_X5_pulses l G u0 r150) lk_RX5_145 [0] rfl (by decide) (fun _ => rfl) rfl rfl rfl ⟨(Nat.le_of_ble_eq_true rfl), (Nat.le_of_ble_eq_true rfl)⟩ ⟨rfl, rfl⟩ ⟨(Nat.le_of_ble_eq_true rfl), (Nat.le_of_ble_eq_true rfl)⟩ rfl (Nat.le_of_ble_eq_true rfl) rfl dX5_digest_155 rfl (fun _ => rfl) (fun _ => rfl) (fun r155 => ?_)
      refine sk_callV (bs2 := fun r158 => [(md_W G u0 r158)]) (st := []) (st2 := fun r158 => []) (As := [.int r155]) (pc' := 161) X (c_X5_mix l G u0 r150 r155) lk_RX5_215 [0] rfl (by decide) (fun _ => rfl) rfl rfl rfl ⟨(Nat.le_of_ble_eq_true rfl), (Nat.le_of_ble_eq_true rfl)⟩ ⟨rfl, rfl⟩ ⟨(Nat.le_of_ble_eq_true rfl), (Nat.le_of_ble_eq_true rfl)⟩ rfl (Nat.le_of_ble_eq_true rfl) rfl dX5_digest_158 rfl (fun _ => rfl) (fun _ => rfl) (fun r158 => ?_)
      refine sk_aload_n (pc' := 162) X rfl dX5_digest_161 rfl ?_
      refine sk_aload_n (pc' := 163) X rfl dX5_digest_162 rfl ?_
      refine sk_callV (bs2 := fun r163 => [(md_W G u0 r158)]) (st := [.ref (u0 0)]) (st2 := fun r163 => [.int r163, .ref (u0 0)]) (As := []) (pc' := 166) X (c_X5_groupMany l G u0 r158) lk_RX5_151 [0] rfl (by decide) (fun _ => rfl) rfl rfl rfl ⟨(Nat.le_of_ble_eq_true rfl), (Nat.le_of_ble_eq_true rfl)⟩ ⟨rfl, rfl⟩ ⟨(Nat.le_of_ble_eq_true rfl), (Nat.le_of_ble_eq_true rfl)⟩ rfl (Nat.le_of_ble_eq_true rfl) rfl dX5_digest_163 rfl (fun _ => rfl) (fun _ => rfl) (fun r163 => ?_)
      refine sk_callV (bs2 := fun r166 => [(md_W G u0 r166)]) (st := []) (st2 := fun r166 => []) (As := [.int r163]) (pc' := 169) X (c_X5_mix l G u0 r158 r163) lk_RX5_215 [0] rfl (by decide) (fun _ => rfl) rfl rfl rfl ⟨(Nat.le_of_ble_eq_true rfl), (Nat.le_of_ble_eq_true rfl)⟩ ⟨rfl, rfl⟩ ⟨(Nat.le_of_ble_eq_true rfl), (Nat.le_of_ble_eq_true rfl)⟩ rfl (Nat.le_of_ble_eq_true rfl) rfl dX5_digest_166 rfl (fun _ => rfl) (fun _ => rfl) (fun r166 => ?_)
      refine sk_iconst (pc' := 170) X ic_0 dX5_digest_169 rfl ?_
      refine sk_istore_n (lv' := [some (.ref (u0 0)), some (.int (0 : Int32)), none]) (pc' := 171) X (Nat.le_of_ble_eq_true rfl) rfl rfl dX5_digest_170 rfl ?_
      exact (h171 (r166, (0 : Int32)))
    · refine sk_iconst (pc' := 85) X ic_0 dX5_digest_84 rfl ?_
      refine sk_istore_n (lv' := [some (.ref (u0 0)), some (.int s74.2), some (.int (0 : Int32))]) (pc' := 86) X (Nat.le_of_ble_eq_true rfl) rfl rfl dX5_digest_85 rfl ?_
      exact (h86 (s74.1, s74.2, (0 : Int32)))
  unfold m_X5_digest
  refine sk_aload_n (pc' := 1) X rfl dX5_digest_0 rfl ?_
  refine sk_iconst (pc' := 2) X ic_0 dX5_digest_1 rfl ?_
  refine sk_putf (bs' := [(md_W G u0 (md_up S0 0 4 (0 : Int32)))]) (pc' := 5) X 0 0 4 in_RX5 tyX5 tyX5_ok nmX5 rfl rfl rfl (Nat.le_of_ble_eq_true rfl) fl_RX5_35 rfl (tyX5_ok 4 (Nat.le_of_ble_eq_true rfl)) rfl rfl (Nat.le_of_ble_eq_true rfl) (sk_st 0 (md_pf_4 ..) rfl) dX5_digest_2 rfl ?_
  refine sk_lt (bsf := fun z => [(md_W G u0 z)]) (lvf := fun _ => [some (.ref (u0 0)), none, none]) (stf := fun _ => []) (fun N2 => ?_)
  refine sk_aload_n (pc' := 6) X rfl dX5_digest_5 rfl ?_
  refine sk_ldc2 (pc' := 9) X q_1325 dX5_digest_6 rfl ?_
  refine sk_putf (bs' := [(md_W G u0 (md_upl N2 (1858 : Int64)))]) (pc' := 12) X 0 0 15 in_RX5 tyX5 tyX5_ok nmX5 rfl rfl rfl (Nat.le_of_ble_eq_true rfl) fl_RX5_209 rfl (tyX5_ok 15 (Nat.le_of_ble_eq_true rfl)) rfl rfl (Nat.le_of_ble_eq_true rfl) (sk_st 0 (md_pf_15 ..) rfl) dX5_digest_9 rfl ?_
  refine sk_lt (bsf := fun z => [(md_W G u0 z)]) (lvf := fun _ => [some (.ref (u0 0)), none, none]) (stf := fun _ => []) (fun N9 => ?_)
  refine sk_aload_n (pc' := 13) X rfl dX5_digest_12 rfl ?_
  refine sk_aload_n (pc' := 14) X rfl dX5_digest_13 rfl ?_
  refine sk_getf (pc' := 17) X 0 0 0 in_RX5 rfl rfl rfl (Nat.le_of_ble_eq_true rfl) fl_RX5_7 rfl dX5_digest_14 rfl ?_
  refine sk_iconst (pc' := 18) X ic_0 dX5_digest_17 rfl ?_
  refine sk_iald (pc' := 19) X 0 1 rfl rfl dX5_digest_18 rfl ?_
  refine sk_callV (bs2 := fun r19 => [(md_W G u0 r19)]) (st := []) (st2 := fun r19 => []) (As := [.int ((N9.1 1) ((0 : Int32)).toNatClampNeg)]) (pc' := 22) X (c_X5_mix l G u0 N9 ((N9.1 1) ((0 : Int32)).toNatClampNeg)) lk_RX5_215 [0] rfl (by decide) (fun _ => rfl) rfl rfl rfl ⟨(Nat.le_of_ble_eq_true rfl), (Nat.le_of_ble_eq_true rfl)⟩ ⟨rfl, rfl⟩ ⟨(Nat.le_of_ble_eq_true rfl), (Nat.le_of_ble_eq_true rfl)⟩ rfl (Nat.le_of_ble_eq_true rfl) rfl dX5_digest_19 rfl (fun _ => rfl) (fun _ => rfl) (fun r19 => ?_)
  refine sk_aload_n (pc' := 23) X rfl dX5_digest_22 rfl ?_
  refine sk_aload_n (pc' := 24) X rfl dX5_digest_23 rfl ?_
  refine sk_getf (pc' := 27) X 0 0 0 in_RX5 rfl rfl rfl (Nat.le_of_ble_eq_true rfl) fl_RX5_7 rfl dX5_digest_24 rfl ?_
  refine sk_iconst (pc' := 28) X ic_1 dX5_digest_27 rfl ?_
  refine sk_iald (pc' := 29) X 0 1 rfl rfl dX5_digest_28 rfl ?_
  refine sk_callV (bs2 := fun r29 => [(md_W G u0 r29)]) (st := []) (st2 := fun r29 => []) (As := [.int ((r19.1 1) ((1 : Int32)).toNatClampNeg)]) (pc' := 32) X (c_X5_mix l G u0 r19 ((r19.1 1) ((1 : Int32)).toNatClampNeg)) lk_RX5_215 [0] rfl (by decide) (fun _ => rfl) rfl rfl rfl ⟨(Nat.le_of_ble_eq_true rfl), (Nat.le_of_ble_eq_true rfl)⟩ ⟨rfl, rfl⟩ ⟨(Nat.le_of_ble_eq_true rfl), (Nat.le_of_ble_eq_true rfl)⟩ rfl (Nat.le_of_ble_eq_true rfl) rfl dX5_digest_29 rfl (fun _ => rfl) (fun _ => rfl) (fun r29 => ?_)
  refine sk_aload_n (pc' := 33) X rfl dX5_digest_32 rfl ?_
  refine sk_aload_n (pc' := 34) X rfl dX5_digest_33 rfl ?_
  refine sk_getf (pc' := 37) X 0 0 0 in_RX5 rfl rfl rfl (Nat.le_of_ble_eq_true rfl) fl_RX5_7 rfl dX5_digest_34 rfl ?_
  refine sk_iconst (pc' := 38) X ic_2 dX5_digest_37 rfl ?_
  refine sk_iald (pc' := 39) X 0 1 rfl rfl dX5_digest_38 rfl ?_
  refine sk_callV (bs2 := fun r39 => [(md_W G u0 r39)]) (st := []) (st2 := fun r39 => []) (As := [.int ((r29.1 1) ((2 : Int32)).toNatClampNeg)]) (pc' := 42) X (c_X5_mix l G u0 r29 ((r29.1 1) ((2 : Int32)).toNatClampNeg)) lk_RX5_215 [0] rfl (by decide) (fun _ => rfl) rfl rfl rfl ⟨(Nat.le_of_ble_eq_true rfl), (Nat.le_of_ble_eq_true rfl)⟩ ⟨rfl, rfl⟩ ⟨(Nat.le_of_ble_eq_true rfl), (Nat.le_of_ble_eq_true rfl)⟩ rfl (Nat.le_of_ble_eq_true rfl) rfl dX5_digest_39 rfl (fun _ => rfl) (fun _ => rfl) (fun r39 => ?_)
  refine sk_aload_n (pc' := 43) X rfl dX5_digest_42 rfl ?_
  refine sk_aload_n (pc' := 44) X rfl dX5_digest_43 rfl ?_
  refine sk_getf (pc' := 47) X 0 0 0 in_RX5 rfl rfl rfl (Nat.le_of_ble_eq_true rfl) fl_RX5_7 rfl dX5_digest_44 rfl ?_
  refine sk_iconst (pc' := 48) X ic_3 dX5_digest_47 rfl ?_
  refine sk_iald (pc' := 49) X 0 1 rfl rfl dX5_digest_48 rfl ?_
  refine sk_callV (bs2 := fun r49 => [(md_W G u0 r49)]) (st := []) (st2 := fun r49 => []) (As := [.int ((r39.1 1) ((3 : Int32)).toNatClampNeg)]) (pc' := 52) X (c_X5_mix l G u0 r39 ((r39.1 1) ((3 : Int32)).toNatClampNeg)) lk_RX5_215 [0] rfl (by decide) (fun _ => rfl) rfl rfl rfl ⟨(Nat.le_of_ble_eq_true rfl), (Nat.le_of_ble_eq_true rfl)⟩ ⟨rfl, rfl⟩ ⟨(Nat.le_of_ble_eq_true rfl), (Nat.le_of_ble_eq_true rfl)⟩ rfl (Nat.le_of_ble_eq_true rfl) rfl dX5_digest_49 rfl (fun _ => rfl) (fun _ => rfl) (fun r49 => ?_)
  refine sk_aload_n (pc' := 53) X rfl dX5_digest_52 rfl ?_
  refine sk_aload_n (pc' := 54) X rfl dX5_digest_53 rfl ?_
  refine sk_getf (pc' := 57) X 0 0 0 in_RX5 rfl rfl rfl (Nat.le_of_ble_eq_true rfl) fl_RX5_7 rfl dX5_digest_54 rfl ?_
  refine sk_iconst (pc' := 58) X ic_4 dX5_digest_57 rfl ?_
  refine sk_iald (pc' := 59) X 0 1 rfl rfl dX5_digest_58 rfl ?_
  refine sk_callV (bs2 := fun r59 => [(md_W G u0 r59)]) (st := []) (st2 := fun r59 => []) (As := [.int ((r49.1 1) ((4 : Int32)).toNatClampNeg)]) (pc' := 62) X (c_X5_mix l G u0 r49 ((r49.1 1) ((4 : Int32)).toNatClampNeg)) lk_RX5_215 [0] rfl (by decide) (fun _ => rfl) rfl rfl rfl ⟨(Nat.le_of_ble_eq_true rfl), (Nat.le_of_ble_eq_true rfl)⟩ ⟨rfl, rfl⟩ ⟨(Nat.le_of_ble_eq_true rfl), (Nat.le_of_ble_eq_true rfl)⟩ rfl (Nat.le_of_ble_eq_true rfl) rfl dX5_digest_59 rfl (fun _ => rfl) (fun _ => rfl) (fun r59 => ?_)
  refine sk_aload_n (pc' := 63) X rfl dX5_digest_62 rfl ?_
  refine sk_aload_n (pc' := 64) X rfl dX5_digest_63 rfl ?_
  refine sk_getf (pc' := 67) X 0 0 0 in_RX5 rfl rfl rfl (Nat.le_of_ble_eq_true rfl) fl_RX5_7 rfl dX5_digest_64 rfl ?_
  refine sk_iconst (pc' := 68) X ic_5 dX5_digest_67 rfl ?_
  refine sk_iald (pc' := 69) X 0 1 rfl rfl dX5_digest_68 rfl ?_
  refine sk_callV (bs2 := fun r69 => [(md_W G u0 r69)]) (st := []) (st2 := fun r69 => []) (As := [.int ((r59.1 1) ((5 : Int32)).toNatClampNeg)]) (pc' := 72) X (c_X5_mix l G u0 r59 ((r59.1 1) ((5 : Int32)).toNatClampNeg)) lk_RX5_215 [0] rfl (by decide) (fun _ => rfl) rfl rfl rfl ⟨(Nat.le_of_ble_eq_true rfl), (Nat.le_of_ble_eq_true rfl)⟩ ⟨rfl, rfl⟩ ⟨(Nat.le_of_ble_eq_true rfl), (Nat.le_of_ble_eq_true rfl)⟩ rfl (Nat.le_of_ble_eq_true rfl) rfl dX5_digest_69 rfl (fun _ => rfl) (fun _ => rfl) (fun r69 => ?_)
  refine sk_iconst (pc' := 73) X ic_0 dX5_digest_72 rfl ?_
  refine sk_istore_n (lv' := [some (.ref (u0 0)), some (.int (0 : Int32)), none]) (pc' := 74) X (Nat.le_of_ble_eq_true rfl) rfl rfl dX5_digest_73 rfl ?_
  exact (h74 (r69, (0 : Int32)))
