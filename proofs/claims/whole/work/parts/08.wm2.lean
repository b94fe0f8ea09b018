def rm_X5_clocks : Room := { frames := 0, cells := 0, slots := 0, locals := 0 }
def o_X5_clocks : (Int32 × sk_M) → Option Value := fun r => some (.int r.1)
def w_X5_clocks (G : sk_G) (u0 : Nat → Nat) : (Int32 × sk_M) → sk_B := fun r => [(md_W G u0 r.2)]
set_option maxHeartbeats 4000000 in
set_option maxRecDepth 100000 in
theorem c_X5_clocks (l : Launch) (G : sk_G) (u0 : Nat → Nat) (S0 : sk_M) : sk_ctr l G yX5_clocks cX5_clocks 1 (some .int) rm_X5_clocks [.ref (u0 0)] [(md_W G u0 S0)] (m_X5_clocks S0) o_X5_clocks (w_X5_clocks G u0) := by
  refine sk_entry (own := RX5) (by decide) rfl (lv0 := [some (.ref (u0 0))]) rfl (Nat.le_of_ble_eq_true rfl) ?_
  intro Γ X
  unfold m_X5_clocks
  refine sk_aload_n (pc' := 1) X rfl dX5_clocks_0 rfl ?_
  refine sk_iconst (pc' := 2) X ic_0 dX5_clocks_1 rfl ?_
  refine sk_putf (bs' := [(md_W G u0 (md_up S0 0 4 (0 : Int32)))]) (pc' := 5) X 0 0 4 in_RX5 tyX5 tyX5_ok nmX5 rfl rfl rfl (Nat.le_of_ble_eq_true rfl) fl_RX5_35 rfl (tyX5_ok 4 (Nat.le_of_ble_eq_true rfl)) rfl rfl (Nat.le_of_ble_eq_true rfl) (sk_st 0 (md_pf_4 ..) rfl) dX5_clocks_2 rfl ?_
  refine sk_lt (bsf := fun z => [(md_W G u0 z)]) (lvf := fun _ => [some (.ref (u0 0))]) (stf := fun _ => []) (fun N2 => ?_)
  refine sk_aload_n (pc' := 6) X rfl dX5_clocks_5 rfl ?_
  refine sk_getf (pc' := 9) X 0 0 0 in_RX5 rfl rfl rfl (Nat.le_of_ble_eq_true rfl) fl_RX5_7 rfl dX5_clocks_6 rfl ?_
  refine sk_iconst (pc' := 10) X ic_5 dX5_clocks_9 rfl ?_
  refine sk_iald (pc' := 11) X 0 1 rfl rfl dX5_clocks_10 rfl ?_
  exact sk_iret X rfl rfl dX5_clocks_11
def rm_X5_bits : Room := { frames := 0, cells := 0, slots := 0, locals := 0 }
def o_X5_bits : (Int32) → Option Value := fun r => some (.int r)
def w_X5_bits (G : sk_G) : (Int32) → sk_B := fun r => []
set_option maxHeartbeats 4000000 in
set_option maxRecDepth 100000 in
theorem c_X5_bits (l : Launch) (G : sk_G) (p1 : Int32) : sk_ctr l G yX5_bits cX5_bits 3 (some .int) rm_X5_bits [.int p1] [] (m_X5_bits p1) o_X5_bits (w_X5_bits G) := by
  refine sk_entry (own := RX5) (by decide) rfl (lv0 := [some (.int p1), none, none]) rfl (Nat.le_of_ble_eq_true rfl) ?_
  intro Γ X
  have h4 : ∀ s4 : Int32 × Int32, sk_S Γ (sk_Φ Γ o_X5_bits (w_X5_bits G)) 0 0 (m_X5_bits_4 p1 s4) [] [some (.int p1), some (.int s4.1), some (.int s4.2)] 4 [] := by
    intro s4
    unfold m_X5_bits_4
    refine sk_loop (bsf := fun s4 => []) (lvf := fun s4 => [some (.int p1), some (.int s4.1), some (.int s4.2)]) ?_ sk_fuel s4
    intro k4 s4 ih4
    unfold m_X5_bits_4_step
    refine sk_iload_n (pc' := 5) X rfl dX5_bits_4 rfl ?_
    refine sk_bipush (pc' := 7) X bp_12 dX5_bits_5 rfl ?_
    refine sk_icmp_ge (tgt := 24) (pc' := 10) X dX5_bits_7 rfl rfl ?_ ?_
    · refine sk_iload_n (pc' := 25) X rfl dX5_bits_24 rfl ?_
      exact sk_iret X rfl rfl dX5_bits_25
    · refine sk_iload_n (pc' := 11) X rfl dX5_bits_10 rfl ?_
      refine sk_iload_n (pc' := 12) X rfl dX5_bits_11 rfl ?_
      refine sk_iload_n (pc' := 13) X rfl dX5_bits_12 rfl ?_
      refine sk_ishr (pc' := 14) X dX5_bits_13 rfl ?_
      refine sk_iconst (pc' := 15) X ic_1 dX5_bits_14 rfl ?_
      refine sk_iand (pc' := 16) X dX5_bits_15 rfl ?_
      refine sk_iadd (pc' := 17) X dX5_bits_16 rfl ?_
      refine sk_istore_n (lv' := [some (.int p1), some (.int (s4.1 + ((sk_shr p1 s4.2) &&& (1 : Int32)))), some (.int s4.2)]) (pc' := 18) X (Nat.le_of_ble_eq_true rfl) rfl rfl dX5_bits_17 rfl ?_
      refine sk_lt (bsf := fun _ => []) (lvf := fun z => [some (.int p1), some (.int z), some (.int s4.2)]) (stf := fun _ => []) (fun x17 => ?_)
      refine sk_iinc (lv' := [some (.int p1), some (.int x17), some (.int (s4.2 + (1 : Int32)))]) (pc' := 21) X rfl ic_1 (Nat.le_of_ble_eq_true rfl) rfl rfl dX5_bits_18 rfl ?_
      refine sk_goto (tgt := 4) X dX5_bits_21 rfl ?_
      exact (ih4 (x17, (s4.2 + (1 : Int32))))
  unfold m_X5_bits
  refine sk_iconst (pc' := 1) X ic_0 dX5_bits_0 rfl ?_
  refine sk_istore_n (lv' := [some (.int p1), some (.int (0 : Int32)), none]) (pc' := 2) X (Nat.le_of_ble_eq_true rfl) rfl rfl dX5_bits_1 rfl ?_
  refine sk_iconst (pc' := 3) X ic_0 dX5_bits_2 rfl ?_
  refine sk_istore_n (lv' := [some (.int p1), some (.int (0 : Int32)), some (.int (0 : Int32))]) (pc' := 4) X (Nat.le_of_ble_eq_true rfl) rfl rfl dX5_bits_3 rfl ?_
  exact (h4 ((0 : Int32), (0 : Int32)))
def rm_X5_comingTo : Room := { frames := 1, cells := 0, slots := 0, locals := 22 }
def o_X5_comingTo : (Int32) → Option Value := fun r => some (.int r)
def w_X5_comingTo (G : sk_G) (u0 : Nat → Nat) (S0 : sk_M) : (Int32) → sk_B := fun r => [(md_W G u0 S0)]
set_option maxHeartbeats 4000000 in
set_option maxRecDepth 100000 in
theorem c_X5_comingTo (l : Launch) (G : sk_G) (u0 : Nat → Nat) (S0 : sk_M) (p1 : Int32) : sk_ctr l G yX5_comingTo cX5_comingTo 4 (some .int) rm_X5_comingTo [.ref (u0 0), .int p1] [(md_W G u0 S0)] (m_X5_comingTo S0 p1) o_X5_comingTo (w_X5_comingTo G u0 S0) := by
  refine sk_entry (own := RX5) (by decide) rfl (lv0 := [some (.ref (u0 0)), some (.int p1), none, none]) rfl (Nat.le_of_ble_eq_true rfl) ?_
  intro Γ X
  have h4 : ∀ s4 : Int32 × Int32, sk_S Γ (sk_Φ Γ o_X5_comingTo (w_X5_comingTo G u0 S0)) 0 0 (m_X5_comingTo_4 S0 p1 s4) [(md_W G u0 S0)] [some (.ref (u0 0)), some (.int p1), some (.int s4.1), some (.int s4.2)] 4 [] := by
    intro s4
    unfold m_X5_comingTo_4
    refine sk_loop (bsf := fun s4 => [(md_W G u0 S0)]) (lvf := fun s4 => [some (.ref (u0 0)), some (.int p1), some (.int s4.1), some (.int s4.2)]) ?_ sk_fuel s4
    intro k4 s4 ih4
    unfold m_X5_comingTo_4_step
    refine sk_iload_n (pc' := 5) X rfl dX5_comingTo_4 rfl ?_
    refine sk_aload_n (pc' := 6) X rfl dX5_comingTo_5 rfl ?_
    refine sk_getf (pc' := 9) X 0 0 0 in_RX5 rfl rfl rfl (Nat.le_of_ble_eq_true rfl) fl_RX5_7 rfl dX5_comingTo_6 rfl ?_
    refine sk_iconst (pc' := 10) X ic_5 dX5_comingTo_9 rfl ?_
    refine sk_iald (pc' := 11) X 0 1 rfl rfl dX5_comingTo_10 rfl ?_
    refine sk_icmp_ge (tgt := 41) (pc' := 14) X dX5_comingTo_11 rfl rfl ?_ ?_
    · refine sk_iload_n (pc' := 42) X rfl dX5_comingTo_41 rfl ?_
      exact sk_iret X rfl rfl dX5_comingTo_42
    · refine sk_iload_n (pc' := 15) X rfl dX5_comingTo_14 rfl ?_
      refine sk_aload_n (pc' := 16) X rfl dX5_comingTo_15 rfl ?_
      refine sk_getf (pc' := 19) X 0 0 0 in_RX5 rfl rfl rfl (Nat.le_of_ble_eq_true rfl) fl_RX5_7 rfl dX5_comingTo_16 rfl ?_
      refine sk_sipush (pc' := 22) X sp_158 dX5_comingTo_19 rfl ?_
      refine sk_bipush (pc' := 24) X bp_10 dX5_comingTo_22 rfl ?_
      refine sk_iload_n (pc' := 25) X rfl dX5_comingTo_24 rfl ?_
      refine sk_imul (pc' := 26) X dX5_comingTo_25 rfl ?_
      refine sk_iadd (pc' := 27) X dX5_comingTo_26 rfl ?_
      refine sk_iload_n (pc' := 28) X rfl dX5_comingTo_27 rfl ?_
      refine sk_iadd (pc' := 29) X dX5_comingTo_28 rfl ?_
      refine sk_iald (pc' := 30) X 0 1 rfl rfl dX5_comingTo_29 rfl ?_
      refine sk_callS (bs2 := fun r30 => [(md_W G u0 S0)]) (st := [.int s4.1]) (st2 := fun r30 => [.int r30, .int s4.1]) (As := [.int ((S0.1 1) ((((158 : Int32) + ((10 : Int32) * s4.2)) + p1)).toNatClampNeg)]) (pc' := 33) X (c_X5_bits l G ((S0.1 1) ((((158 : Int32) + ((10 : Int32) * s4.2)) + p1)).toNatClampNeg)) lk_RX5_98 [] rfl (by decide) (fun _ => rfl) ⟨(Nat.le_of_ble_eq_true rfl), (Nat.le_of_ble_eq_true rfl)⟩ ⟨rfl, rfl⟩ ⟨(Nat.le_of_ble_eq_true rfl), (Nat.le_of_ble_eq_true rfl)⟩ rfl (Nat.le_of_ble_eq_true rfl) rfl dX5_comingTo_30 rfl (fun _ => rfl) (fun _ => rfl) (fun r30 => ?_)
      refine sk_iadd (pc' := 34) X dX5_comingTo_33 rfl ?_
      refine sk_istore_n (lv' := [some (.ref (u0 0)), some (.int p1), some (.int (s4.1 + r30)), some (.int s4.2)]) (pc' := 35) X (Nat.le_of_ble_eq_true rfl) rfl rfl dX5_comingTo_34 rfl ?_
      refine sk_lt (bsf := fun _ => [(md_W G u0 S0)]) (lvf := fun z => [some (.ref (u0 0)), some (.int p1), some (.int z), some (.int s4.2)]) (stf := fun _ => []) (fun x34 => ?_)
      refine sk_iinc (lv' := [some (.ref (u0 0)), some (.int p1), some (.int x34), some (.int (s4.2 + (1 : Int32)))]) (pc' := 38) X rfl ic_1 (Nat.le_of_ble_eq_true rfl) rfl rfl dX5_comingTo_35 rfl ?_
      refine sk_goto (tgt := 4) X dX5_comingTo_38 rfl ?_
      exact (ih4 (x34, (s4.2 + (1 : Int32))))
  unfold m_X5_comingTo
  refine sk_iconst (pc' := 1) X ic_0 dX5_comingTo_0 rfl ?_
  refine sk_istore_n (lv' := [some (.ref (u0 0)), some (.int p1), some (.int (0 : Int32)), none]) (pc' := 2) X (Nat.le_of_ble_eq_true rfl) rfl rfl dX5_comingTo_1 rfl ?_
  refine sk_iconst (pc' := 3) X ic_0 dX5_comingTo_2 rfl ?_
  refine sk_istore_n (lv' := [some (.ref (u0 0)), some (.int p1), some (.int (0 : Int32)), some (.int (0 : Int32))]) (pc' := 4) X (Nat.le_of_ble_eq_true rfl) rfl rfl dX5_comingTo_3 rfl ?_
  exact (h4 ((0 : Int32), (0 : Int32)))
def rm_X5_told : Room := { frames := 2, cells := 0, slots := 0, locals := 45 }
def o_X5_told : (Int32) → Option Value := fun r => some (.int r)
def w_X5_told (G : sk_G) (u0 : Nat → Nat) (S0 : sk_M) : (Int32) → sk_B := fun r => [(md_W G u0 S0)]
set_option maxHeartbeats 4000000 in
set_option maxRecDepth 100000 in
theorem c_X5_told (l : Launch) (G : sk_G) (u0 : Nat → Nat) (S0 : sk_M) (p1 : Int32) (p2 : Int32) : sk_ctr l G yX5_told cX5_told 4 (some .int) rm_X5_told [.ref (u0 0), .int p1, .int p2] [(md_W G u0 S0)] (m_X5_told S0 p1 p2) o_X5_told (w_X5_told G u0 S0) := by
  refine sk_entry (own := RX5) (by decide) rfl (lv0 := [some (.ref (u0 0)), some (.int p1), some (.int p2), none]) rfl (Nat.le_of_ble_eq_true rfl) ?_
  intro Γ X
  have h18 : ∀ s18 : Int32, sk_S Γ (sk_Φ Γ o_X5_told (w_X5_told G u0 S0)) 0 0 (m_X5_told_18 S0 p1 p2 s18) [(md_W G u0 S0)] [some (.ref (u0 0)), some (.int p1), some (.int p2), none] 18 [.int s18] := by
    intro s18
    unfold m_X5_told_18
    refine sk_istore_n (lv' := [some (.ref (u0 0)), some (.int p1), some (.int p2), some (.int s18)]) (pc' := 19) X (Nat.le_of_ble_eq_true rfl) rfl rfl dX5_told_18 rfl ?_
    refine sk_iload_n (pc' := 20) X rfl dX5_told_19 rfl ?_
    refine sk_ite (fun hs20_0 => ?_) (fun hs20_0 => ?_)
    · refine sk_tableIn (tgt := 60) X dX5_told_20 (by rw [hs20_0]; decide) (by rw [hs20_0]; decide) (by rw [hs20_0]; try rfl) rfl ?_
      refine sk_aload_n (pc' := 61) X rfl dX5_told_60 rfl ?_
      refine sk_getf (pc' := 64) X 0 0 0 in_RX5 rfl rfl rfl (Nat.le_of_ble_eq_true rfl) fl_RX5_7 rfl dX5_told_61 rfl ?_
      refine sk_bipush (pc' := 66) X bp_8 dX5_told_64 rfl ?_
      refine sk_iload_n (pc' := 67) X rfl dX5_told_66 rfl ?_
      refine sk_iadd (pc' := 68) X dX5_told_67 rfl ?_
      refine sk_iald (pc' := 69) X 0 1 rfl rfl dX5_told_68 rfl ?_
      exact sk_iret X rfl rfl dX5_told_69
    ·
      refine sk_ite (fun hs20_1 => ?_) (fun hs20_1 => ?_)
      · refine sk_tableIn (tgt := 70) X dX5_told_20 (by rw [hs20_1]; decide) (by rw [hs20_1]; decide) (by rw [hs20_1]; try rfl) rfl ?_
        refine sk_aload_n (pc' := 71) X rfl dX5_told_70 rfl ?_
        refine sk_getf (pc' := 74) X 0 0 0 in_RX5 rfl rfl rfl (Nat.le_of_ble_eq_true rfl) fl_RX5_7 rfl dX5_told_71 rfl ?_
        refine sk_bipush (pc' := 76) X bp_18 dX5_told_74 rfl ?_
        refine sk_iload_n (pc' := 77) X rfl dX5_told_76 rfl ?_
        refine sk_iadd (pc' := 78) X dX5_told_77 rfl ?_
        refine sk_iald (pc' := 79) X 0 1 rfl rfl dX5_told_78 rfl ?_
        exact sk_iret X rfl rfl dX5_told_79
      ·
        refine sk_ite (fun hs20_2 => ?_) (fun hs20_2 => ?_)
        · refine sk_tableIn (tgt := 80) X dX5_told_20 (by rw [hs20_2]; decide) (by rw [hs20_2]; decide) (by rw [hs20_2]; try rfl) rfl ?_
          refine sk_aload_n (pc' := 81) X rfl dX5_told_80 rfl ?_
          refine sk_getf (pc' := 84) X 0 0 0 in_RX5 rfl rfl rfl (Nat.le_of_ble_eq_true rfl) fl_RX5_7 rfl dX5_told_81 rfl ?_
          refine sk_bipush (pc' := 86) X bp_28 dX5_told_84 rfl ?_
          refine sk_iload_n (pc' := 87) X rfl dX5_told_86 rfl ?_
          refine sk_iadd (pc' := 88) X dX5_told_87 rfl ?_
          refine sk_iald (pc' := 89) X 0 1 rfl rfl dX5_told_88 rfl ?_
          exact sk_iret X rfl rfl dX5_told_89
        ·
          refine sk_ite (fun hs20_3 => ?_) (fun hs20_3 => ?_)
          · refine sk_tableIn (tgt := 90) X dX5_told_20 (by rw [hs20_3]; decide) (by rw [hs20_3]; decide) (by rw [hs20_3]; try rfl) rfl ?_
            refine sk_iload_n (pc' := 91) X rfl dX5_told_90 rfl ?_
            refine sk_if_eq (tgt := 106) (pc' := 94) X dX5_told_91 rfl rfl ?_ ?_
            · refine sk_iconst (pc' := 107) X ic_m1 dX5_told_106 rfl ?_
              exact sk_iret X rfl rfl dX5_told_107
            · refine sk_aload_n (pc' := 95) X rfl dX5_told_94 rfl ?_
              refine sk_getf (pc' := 98) X 0 0 0 in_RX5 rfl rfl rfl (Nat.le_of_ble_eq_true rfl) fl_RX5_7 rfl dX5_told_95 rfl ?_
              refine sk_bipush (pc' := 100) X bp_38 dX5_told_98 rfl ?_
              refine sk_iload_n (pc' := 101) X rfl dX5_told_100 rfl ?_
              refine sk_iadd (pc' := 102) X dX5_told_101 rfl ?_
              refine sk_iald (pc' := 103) X 0 1 rfl rfl dX5_told_102 rfl ?_
              refine sk_goto (tgt := 107) X dX5_told_103 rfl ?_
              exact sk_iret X rfl rfl dX5_told_107
          ·
            refine sk_ite (fun hs20_4 => ?_) (fun hs20_4 => ?_)
            · refine sk_tableIn (tgt := 108) X dX5_told_20 (by rw [hs20_4]; decide) (by rw [hs20_4]; decide) (by rw [hs20_4]; try rfl) rfl ?_
              refine sk_iload_n (pc' := 109) X rfl dX5_told_108 rfl ?_
              refine sk_if_eq (tgt := 124) (pc' := 112) X dX5_told_109 rfl rfl ?_ ?_
              · refine sk_iconst (pc' := 125) X ic_m1 dX5_told_124 rfl ?_
                exact sk_iret X rfl rfl dX5_told_125
              · refine sk_aload_n (pc' := 113) X rfl dX5_told_112 rfl ?_
                refine sk_getf (pc' := 116) X 0 0 0 in_RX5 rfl rfl rfl (Nat.le_of_ble_eq_true rfl) fl_RX5_7 rfl dX5_told_113 rfl ?_
                refine sk_bipush (pc' := 118) X bp_48 dX5_told_116 rfl ?_
                refine sk_iload_n (pc' := 119) X rfl dX5_told_118 rfl ?_
                refine sk_iadd (pc' := 120) X dX5_told_119 rfl ?_
                refine sk_iald (pc' := 121) X 0 1 rfl rfl dX5_told_120 rfl ?_
                refine sk_goto (tgt := 125) X dX5_told_121 rfl ?_
                exact sk_iret X rfl rfl dX5_told_125
            ·
              refine sk_ite (fun hs20_5 => ?_) (fun hs20_5 => ?_)
              · refine sk_tableIn (tgt := 126) X dX5_told_20 (by rw [hs20_5]; decide) (by rw [hs20_5]; decide) (by rw [hs20_5]; try rfl) rfl ?_
                refine sk_aload_n (pc' := 127) X rfl dX5_told_126 rfl ?_
                refine sk_iload_n (pc' := 128) X rfl dX5_told_127 rfl ?_
                refine sk_callV (bs2 := fun r128 => [(md_W G u0 S0)]) (st := []) (st2 := fun r128 => [.int r128]) (As := [.int p1]) (pc' := 131) X (c_X5_linksOf l G u0 S0 p1) lk_RX5_91 [0] rfl (by decide) (fun _ => rfl) rfl rfl rfl ⟨(Nat.le_of_ble_eq_true rfl), (Nat.le_of_ble_eq_true rfl)⟩ ⟨rfl, rfl⟩ ⟨(Nat.le_of_ble_eq_true rfl), (Nat.le_of_ble_eq_true rfl)⟩ rfl (Nat.le_of_ble_eq_true rfl) rfl dX5_told_128 rfl (fun _ => rfl) (fun _ => rfl) (fun r128 => ?_)
                exact sk_iret X rfl rfl dX5_told_131
              ·
                refine sk_tableOut (tgt := 132) X dX5_told_20 (by have a0 := lv_neT hs20_0 (a := 0) (by decide); have a1 := lv_neT hs20_1 (a := 1) (by decide); have a2 := lv_neT hs20_2 (a := 2) (by decide); have a3 := lv_neT hs20_3 (a := 3) (by decide); have a4 := lv_neT hs20_4 (a := 4) (by decide); have a5 := lv_neT hs20_5 (a := 5) (by decide); omega) rfl ?_
                refine sk_aload_n (pc' := 133) X rfl dX5_told_132 rfl ?_
                refine sk_iload_n (pc' := 134) X rfl dX5_told_133 rfl ?_
                refine sk_callV (bs2 := fun r134 => [(md_W G u0 S0)]) (st := []) (st2 := fun r134 => [.int r134]) (As := [.int p1]) (pc' := 137) X (c_X5_comingTo l G u0 S0 p1) lk_RX5_101 [0] rfl (by decide) (fun _ => rfl) rfl rfl rfl ⟨(Nat.le_of_ble_eq_true rfl), (Nat.le_of_ble_eq_true rfl)⟩ ⟨rfl, rfl⟩ ⟨(Nat.le_of_ble_eq_true rfl), (Nat.le_of_ble_eq_true rfl)⟩ rfl (Nat.le_of_ble_eq_true rfl) rfl dX5_told_134 rfl (fun _ => rfl) (fun _ => rfl) (fun r134 => ?_)
                exact sk_iret X rfl rfl dX5_told_137
  unfold m_X5_told
  refine sk_aload_n (pc' := 1) X rfl dX5_told_0 rfl ?_
  refine sk_getf (pc' := 4) X 0 0 0 in_RX5 rfl rfl rfl (Nat.le_of_ble_eq_true rfl) fl_RX5_7 rfl dX5_told_1 rfl ?_
  refine sk_bipush (pc' := 6) X bp_28 dX5_told_4 rfl ?_
  refine sk_iload_n (pc' := 7) X rfl dX5_told_6 rfl ?_
  refine sk_iadd (pc' := 8) X dX5_told_7 rfl ?_
  refine sk_iald (pc' := 9) X 0 1 rfl rfl dX5_told_8 rfl ?_
  refine sk_iconst (pc' := 10) X ic_1 dX5_told_9 rfl ?_
  refine sk_icmp_ne (tgt := 17) (pc' := 13) X dX5_told_10 rfl rfl ?_ ?_
  · refine sk_iconst (pc' := 18) X ic_0 dX5_told_17 rfl ?_
    exact (h18 (0 : Int32))
  · refine sk_iconst (pc' := 14) X ic_1 dX5_told_13 rfl ?_
    refine sk_goto (tgt := 18) X dX5_told_14 rfl ?_
    exact (h18 (1 : Int32))
def rm_X5_clock : Room := { frames := 3, cells := 0, slots := 0, locals := 68 }
def o_X5_clock : (Int32 × sk_M) → Option Value := fun r => some (.int r.1)
def w_X5_clock (G : sk_G) (u0 : Nat → Nat) : (Int32 × sk_M) → sk_B := fun r => [(md_W G u0 r.2)]
set_option maxHeartbeats 4000000 in
set_option maxRecDepth 100000 in
theorem c_X5_clock (l : Launch) (G : sk_G) (u0 : Nat → Nat) (S0 : sk_M) (p1 : Int32) (p2 : Int32) : sk_ctr l G yX5_clock cX5_clock 3 (some .int) rm_X5_clock [.ref (u0 0), .int p1, .int p2] [(md_W G u0 S0)] (m_X5_clock S0 p1 p2) o_X5_clock (w_X5_clock G u0) := by
  refine sk_entry (own := RX5) (by decide) rfl (lv0 := [some (.ref (u0 0)), some (.int p1), some (.int p2)]) rfl (Nat.le_of_ble_eq_true rfl) ?_
  intro Γ X
  have h28 : ∀ s28 : sk_M × Int32, sk_S Γ (sk_Φ Γ o_X5_clock (w_X5_clock G u0)) 0 0 (m_X5_clock_28 p1 p2 s28) [(md_W G u0 s28.1)] [some (.ref (u0 0)), some (.int p1), some (.int p2)] 28 [.int s28.2, .ref (u0 0)] := by
    intro s28
    unfold m_X5_clock_28
    refine sk_callV (bs2 := fun r28 => [(md_W G u0 r28.2)]) (st := []) (st2 := fun r28 => [.int r28.1]) (As := [.int s28.2]) (pc' := 31) X (c_X5_refused l G u0 s28.1 s28.2) lk_RX5_46 [0] rfl (by decide) (fun _ => rfl) rfl rfl rfl ⟨(Nat.le_of_ble_eq_true rfl), (Nat.le_of_ble_eq_true rfl)⟩ ⟨rfl, rfl⟩ ⟨(Nat.le_of_ble_eq_true rfl), (Nat.le_of_ble_eq_true rfl)⟩ rfl (Nat.le_of_ble_eq_true rfl) rfl dX5_clock_28 rfl (fun _ => rfl) (fun _ => rfl) (fun r28 => ?_)
    refine sk_if_eq (tgt := 38) (pc' := 34) X dX5_clock_31 rfl rfl ?_ ?_
    · refine sk_aload_n (pc' := 39) X rfl dX5_clock_38 rfl ?_
      refine sk_iload_n (pc' := 40) X rfl dX5_clock_39 rfl ?_
      refine sk_iload_n (pc' := 41) X rfl dX5_clock_40 rfl ?_
      refine sk_callV (bs2 := fun r41 => [(md_W G u0 r28.2)]) (st := []) (st2 := fun r41 => [.int r41]) (As := [.int p1, .int p2]) (pc' := 44) X (c_X5_told l G u0 r28.2 p1 p2) lk_RX5_104 [0] rfl (by decide) (fun _ => rfl) rfl rfl rfl ⟨(Nat.le_of_ble_eq_true rfl), (Nat.le_of_ble_eq_true rfl)⟩ ⟨rfl, rfl⟩ ⟨(Nat.le_of_ble_eq_true rfl), (Nat.le_of_ble_eq_true rfl)⟩ rfl (Nat.le_of_ble_eq_true rfl) rfl dX5_clock_41 rfl (fun _ => rfl) (fun _ => rfl) (fun r41 => ?_)
      exact sk_iret X rfl rfl dX5_clock_44
    · refine sk_iconst (pc' := 35) X ic_0 dX5_clock_34 rfl ?_
      refine sk_goto (tgt := 44) X dX5_clock_35 rfl ?_
      exact sk_iret X rfl rfl dX5_clock_44
  unfold m_X5_clock
  refine sk_aload_n (pc' := 1) X rfl dX5_clock_0 rfl ?_
  refine sk_aload_n (pc' := 2) X rfl dX5_clock_1 rfl ?_
  refine sk_iload_n (pc' := 3) X rfl dX5_clock_2 rfl ?_
  refine sk_callV (bs2 := fun r3 => [(md_W G u0 S0)]) (st := [.ref (u0 0)]) (st2 := fun r3 => [.int r3, .ref (u0 0)]) (As := [.int p1]) (pc' := 6) X (c_X5_isClock l G u0 S0 p1) lk_RX5_60 [0] rfl (by decide) (fun _ => rfl) rfl rfl rfl ⟨(Nat.le_of_ble_eq_true rfl), (Nat.le_of_ble_eq_true rfl)⟩ ⟨rfl, rfl⟩ ⟨(Nat.le_of_ble_eq_true rfl), (Nat.le_of_ble_eq_true rfl)⟩ rfl (Nat.le_of_ble_eq_true rfl) rfl dX5_clock_3 rfl (fun _ => rfl) (fun _ => rfl) (fun r3 => ?_)
  refine sk_if_ne (tgt := 13) (pc' := 9) X dX5_clock_6 rfl rfl ?_ ?_
  · refine sk_iload_n (pc' := 14) X rfl dX5_clock_13 rfl ?_
    refine sk_iconst (pc' := 15) X ic_0 dX5_clock_14 rfl ?_
    refine sk_bipush (pc' := 17) X bp_6 dX5_clock_15 rfl ?_
    refine sk_callS (bs2 := fun r17 => [(md_W G u0 S0)]) (st := [.ref (u0 0)]) (st2 := fun r17 => [.int r17, .ref (u0 0)]) (As := [.int p2, .int (0 : Int32), .int (6 : Int32)]) (pc' := 20) X (c_X5_within l G p2 (0 : Int32) (6 : Int32)) lk_RX5_39 [] rfl (by decide) (fun _ => rfl) ⟨(Nat.le_of_ble_eq_true rfl), (Nat.le_of_ble_eq_true rfl)⟩ ⟨rfl, rfl⟩ ⟨(Nat.le_of_ble_eq_true rfl), (Nat.le_of_ble_eq_true rfl)⟩ rfl (Nat.le_of_ble_eq_true rfl) rfl dX5_clock_17 rfl (fun _ => rfl) (fun _ => rfl) (fun r17 => ?_)
    refine sk_if_ne (tgt := 27) (pc' := 23) X dX5_clock_20 rfl rfl ?_ ?_
    · refine sk_iconst (pc' := 28) X ic_0 dX5_clock_27 rfl ?_
      exact (h28 (S0, (0 : Int32)))
    · refine sk_iconst (pc' := 24) X ic_2 dX5_clock_23 rfl ?_
      refine sk_goto (tgt := 28) X dX5_clock_24 rfl ?_
      exact (h28 (S0, (2 : Int32)))
  · refine sk_iconst (pc' := 10) X ic_1 dX5_clock_9 rfl ?_
    refine sk_goto (tgt := 28) X dX5_clock_10 rfl ?_
    exact (h28 (S0, (1 : Int32)))
def rm_X5_linkOf : Room := { frames := 2, cells := 0, slots := 0, locals := 43 }
def o_X5_linkOf : (Int32 × sk_M) → Option Value := fun r => some (.int r.1)
def w_X5_linkOf (G : sk_G) (u0 : Nat → Nat) : (Int32 × sk_M) → sk_B := fun r => [(md_W G u0 r.2)]
set_option maxHeartbeats 4000000 in
set_option maxRecDepth 100000 in
theorem c_X5_linkOf (l : Launch) (G : sk_G) (u0 : Nat → Nat) (S0 : sk_M) (p1 : Int32) (p2 : Int32) : sk_ctr l G yX5_linkOf cX5_linkOf 3 (some .int) rm_X5_linkOf [.ref (u0 0), .int p1, .int p2] [(md_W G u0 S0)] (m_X5_linkOf S0 p1 p2) o_X5_linkOf (w_X5_linkOf G u0) := by
  refine sk_entry (own := RX5) (by decide) rfl (lv0 := [some (.ref (u0 0)), some (.int p1), some (.int p2)]) rfl (Nat.le_of_ble_eq_true rfl) ?_
  intro Γ X
  have h23 : ∀ s23 : sk_M × Int32, sk_S Γ (sk_Φ Γ o_X5_linkOf (w_X5_linkOf G u0)) 0 0 (m_X5_linkOf_23 p1 p2 s23) [(md_W G u0 s23.1)] [some (.ref (u0 0)), some (.int p1), some (.int p2)] 23 [.int s23.2, .ref (u0 0), .ref (u0 0)] := by
    intro s23
    unfold m_X5_linkOf_23
    refine sk_callV (bs2 := fun r23 => [(md_W G u0 s23.1)]) (st := [.ref (u0 0)]) (st2 := fun r23 => [.int r23, .ref (u0 0)]) (As := [.int s23.2]) (pc' := 26) X (c_X5_need l G u0 s23.1 s23.2) lk_RX5_94 [0] rfl (by decide) (fun _ => rfl) rfl rfl rfl ⟨(Nat.le_of_ble_eq_true rfl), (Nat.le_of_ble_eq_true rfl)⟩ ⟨rfl, rfl⟩ ⟨(Nat.le_of_ble_eq_true rfl), (Nat.le_of_ble_eq_true rfl)⟩ rfl (Nat.le_of_ble_eq_true rfl) rfl dX5_linkOf_23 rfl (fun _ => rfl) (fun _ => rfl) (fun r23 => ?_)
    refine sk_callV (bs2 := fun r26 => [(md_W G u0 r26.2)]) (st := []) (st2 := fun r26 => [.int r26.1]) (As := [.int r23]) (pc' := 29) X (c_X5_refused l G u0 s23.1 r23) lk_RX5_46 [0] rfl (by decide) (fun _ => rfl) rfl rfl rfl ⟨(Nat.le_of_ble_eq_true rfl), (Nat.le_of_ble_eq_true rfl)⟩ ⟨rfl, rfl⟩ ⟨(Nat.le_of_ble_eq_true rfl), (Nat.le_of_ble_eq_true rfl)⟩ rfl (Nat.le_of_ble_eq_true rfl) rfl dX5_linkOf_26 rfl (fun _ => rfl) (fun _ => rfl) (fun r26 => ?_)
    refine sk_if_eq (tgt := 36) (pc' := 32) X dX5_linkOf_29 rfl rfl ?_ ?_
    · refine sk_aload_n (pc' := 37) X rfl dX5_linkOf_36 rfl ?_
      refine sk_iload_n (pc' := 38) X rfl dX5_linkOf_37 rfl ?_
      refine sk_iload_n (pc' := 39) X rfl dX5_linkOf_38 rfl ?_
      refine sk_callV (bs2 := fun r39 => [(md_W G u0 r26.2)]) (st := []) (st2 := fun r39 => [.int r39]) (As := [.int p1, .int p2]) (pc' := 42) X (c_X5_delay l G u0 r26.2 p1 p2) lk_RX5_78 [0] rfl (by decide) (fun _ => rfl) rfl rfl rfl ⟨(Nat.le_of_ble_eq_true rfl), (Nat.le_of_ble_eq_true rfl)⟩ ⟨rfl, rfl⟩ ⟨(Nat.le_of_ble_eq_true rfl), (Nat.le_of_ble_eq_true rfl)⟩ rfl (Nat.le_of_ble_eq_true rfl) rfl dX5_linkOf_39 rfl (fun _ => rfl) (fun _ => rfl) (fun r39 => ?_)
      exact sk_iret X rfl rfl dX5_linkOf_42
    · refine sk_iconst (pc' := 33) X ic_0 dX5_linkOf_32 rfl ?_
      refine sk_goto (tgt := 42) X dX5_linkOf_33 rfl ?_
      exact sk_iret X rfl rfl dX5_linkOf_42
  have h22 : ∀ s22 : sk_M, sk_S Γ (sk_Φ Γ o_X5_linkOf (w_X5_linkOf G u0)) 0 0 (m_X5_linkOf_22 p1 p2 s22) [(md_W G u0 s22)] [some (.ref (u0 0)), some (.int p1), some (.int p2)] 22 [.ref (u0 0), .ref (u0 0)] := by
    intro s22
    unfold m_X5_linkOf_22
    refine sk_iconst (pc' := 23) X ic_0 dX5_linkOf_22 rfl ?_
    exact (h23 (s22, (0 : Int32)))
  unfold m_X5_linkOf
  refine sk_aload_n (pc' := 1) X rfl dX5_linkOf_0 rfl ?_
  refine sk_aload_n (pc' := 2) X rfl dX5_linkOf_1 rfl ?_
  refine sk_aload_n (pc' := 3) X rfl dX5_linkOf_2 rfl ?_
  refine sk_iload_n (pc' := 4) X rfl dX5_linkOf_3 rfl ?_
  refine sk_callV (bs2 := fun r4 => [(md_W G u0 S0)]) (st := [.ref (u0 0), .ref (u0 0)]) (st2 := fun r4 => [.int r4, .ref (u0 0), .ref (u0 0)]) (As := [.int p1]) (pc' := 7) X (c_X5_isClock l G u0 S0 p1) lk_RX5_60 [0] rfl (by decide) (fun _ => rfl) rfl rfl rfl ⟨(Nat.le_of_ble_eq_true rfl), (Nat.le_of_ble_eq_true rfl)⟩ ⟨rfl, rfl⟩ ⟨(Nat.le_of_ble_eq_true rfl), (Nat.le_of_ble_eq_true rfl)⟩ rfl (Nat.le_of_ble_eq_true rfl) rfl dX5_linkOf_4 rfl (fun _ => rfl) (fun _ => rfl) (fun r4 => ?_)
  refine sk_if_eq (tgt := 22) (pc' := 10) X dX5_linkOf_7 rfl rfl ?_ ?_
  · exact (h22 S0)
  · refine sk_aload_n (pc' := 11) X rfl dX5_linkOf_10 rfl ?_
    refine sk_iload_n (pc' := 12) X rfl dX5_linkOf_11 rfl ?_
    refine sk_callV (bs2 := fun r12 => [(md_W G u0 S0)]) (st := [.ref (u0 0), .ref (u0 0)]) (st2 := fun r12 => [.int r12, .ref (u0 0), .ref (u0 0)]) (As := [.int p2]) (pc' := 15) X (c_X5_isClock l G u0 S0 p2) lk_RX5_60 [0] rfl (by decide) (fun _ => rfl) rfl rfl rfl ⟨(Nat.le_of_ble_eq_true rfl), (Nat.le_of_ble_eq_true rfl)⟩ ⟨rfl, rfl⟩ ⟨(Nat.le_of_ble_eq_true rfl), (Nat.le_of_ble_eq_true rfl)⟩ rfl (Nat.le_of_ble_eq_true rfl) rfl dX5_linkOf_12 rfl (fun _ => rfl) (fun _ => rfl) (fun r12 => ?_)
    refine sk_if_eq (tgt := 22) (pc' := 18) X dX5_linkOf_15 rfl rfl ?_ ?_
    · exact (h22 S0)
    · refine sk_iconst (pc' := 19) X ic_1 dX5_linkOf_18 rfl ?_
      refine sk_goto (tgt := 23) X dX5_linkOf_19 rfl ?_
      exact (h23 (S0, (1 : Int32)))
def rm_X5_nextTo : Room := { frames := 1, cells := 0, slots := 0, locals := 22 }
def o_X5_nextTo : (Int32) → Option Value := fun r => some (.int r)
def w_X5_nextTo (G : sk_G) (u0 : Nat → Nat) (S0 : sk_M) : (Int32) → sk_B := fun r => [(md_W G u0 S0)]
set_option maxHeartbeats 4000000 in
set_option maxRecDepth 100000 in
theorem c_X5_nextTo (l : Launch) (G : sk_G) (u0 : Nat → Nat) (S0 : sk_M) (p1 : Int32) (p2 : Int32) : sk_ctr l G yX5_nextTo cX5_nextTo 7 (some .int) rm_X5_nextTo [.ref (u0 0), .int p1, .int p2] [(md_W G u0 S0)] (m_X5_nextTo S0 p1 p2) o_X5_nextTo (w_X5_nextTo G u0 S0) := by
  refine sk_entry (own := RX5) (by decide) rfl (lv0 := [some (.ref (u0 0)), some (.int p1), some (.int p2), none, none, none, none]) rfl (Nat.le_of_ble_eq_true rfl) ?_
  intro Γ X
  have h5 : ∀ s5 : Int32 × Int32, sk_S Γ (sk_Φ Γ o_X5_nextTo (w_X5_nextTo G u0 S0)) 0 0 (m_X5_nextTo_5 S0 p1 p2 s5) [(md_W G u0 S0)] [some (.ref (u0 0)), some (.int p1), some (.int p2), some (.int s5.1), some (.int s5.2), none, none] 5 [] := by
    intro s5
    unfold m_X5_nextTo_5
    refine sk_loop (bsf := fun s5 => [(md_W G u0 S0)]) (lvf := fun s5 => [some (.ref (u0 0)), some (.int p1), some (.int p2), some (.int s5.1), some (.int s5.2), none, none]) ?_ sk_fuel s5
    intro k5 s5 ih5
    have h19 : ∀ s19 : Int32 × Int32 × Int32, sk_S Γ (sk_Φ Γ o_X5_nextTo (w_X5_nextTo G u0 S0)) 0 0 (m_X5_nextTo_19 S0 p1 p2 k5 s19) [(md_W G u0 S0)] [some (.ref (u0 0)), some (.int p1), some (.int p2), some (.int s19.1), some (.int s19.2.1), some (.int s19.2.2), none] 19 [] := by
      intro s19
      unfold m_X5_nextTo_19
      refine sk_loop (bsf := fun s19 => [(md_W G u0 S0)]) (lvf := fun s19 => [some (.ref (u0 0)), some (.int p1), some (.int p2), some (.int s19.1), some (.int s19.2.1), some (.int s19.2.2), none]) ?_ sk_fuel s19
      intro k19 s19 ih19
      have h67 : ∀ s67 : Int32 × Int32 × Int32 × Int32, sk_S Γ (sk_Φ Γ o_X5_nextTo (w_X5_nextTo G u0 S0)) 0 0 (m_X5_nextTo_67 S0 p1 p2 k5 k19 s67) [(md_W G u0 S0)] [some (.ref (u0 0)), some (.int p1), some (.int p2), some (.int s67.1), some (.int s67.2.1), some (.int s67.2.2.1), none] 67 [.int s67.2.2.2] := by
        intro s67
        unfold m_X5_nextTo_67
        refine sk_istore (lv' := [some (.ref (u0 0)), some (.int p1), some (.int p2), some (.int s67.1), some (.int s67.2.1), some (.int s67.2.2.1), some (.int s67.2.2.2)]) (pc' := 69) X (Nat.le_of_ble_eq_true rfl) rfl rfl dX5_nextTo_67 rfl ?_
        refine sk_iload_n (pc' := 70) X rfl dX5_nextTo_69 rfl ?_
        refine sk_iload (pc' := 72) X rfl dX5_nextTo_70 rfl ?_
        refine sk_if_eq (tgt := 82) (pc' := 75) X dX5_nextTo_72 rfl rfl ?_ ?_
        · refine sk_iconst (pc' := 83) X ic_0 dX5_nextTo_82 rfl ?_
          refine sk_ior (pc' := 84) X dX5_nextTo_83 rfl ?_
          refine sk_istore_n (lv' := [some (.ref (u0 0)), some (.int p1), some (.int p2), some (.int (s67.1 ||| (0 : Int32))), some (.int s67.2.1), some (.int s67.2.2.1), some (.int s67.2.2.2)]) (pc' := 85) X (Nat.le_of_ble_eq_true rfl) rfl rfl dX5_nextTo_84 rfl ?_
          refine sk_lt (bsf := fun _ => [(md_W G u0 S0)]) (lvf := fun z => [some (.ref (u0 0)), some (.int p1), some (.int p2), some (.int z), some (.int s67.2.1), some (.int s67.2.2.1), some (.int s67.2.2.2)]) (stf := fun _ => []) (fun x84 => ?_)
          refine sk_iinc (lv' := [some (.ref (u0 0)), some (.int p1), some (.int p2), some (.int x84), some (.int s67.2.1), some (.int (s67.2.2.1 + (1 : Int32))), some (.int s67.2.2.2)]) (pc' := 88) X rfl ic_1 (Nat.le_of_ble_eq_true rfl) rfl rfl dX5_nextTo_85 rfl ?_
          refine sk_goto (tgt := 19) X dX5_nextTo_88 rfl ?_
          exact (sk_kill 6 (ih19 (x84, s67.2.1, (s67.2.2.1 + (1 : Int32)))))
        · refine sk_iconst (pc' := 76) X ic_1 dX5_nextTo_75 rfl ?_
          refine sk_iload (pc' := 78) X rfl dX5_nextTo_76 rfl ?_
          refine sk_ishl (pc' := 79) X dX5_nextTo_78 rfl ?_
          refine sk_goto (tgt := 83) X dX5_nextTo_79 rfl ?_
          refine sk_ior (pc' := 84) X dX5_nextTo_83 rfl ?_
          refine sk_istore_n (lv' := [some (.ref (u0 0)), some (.int p1), some (.int p2), some (.int (s67.1 ||| (sk_shl (1 : Int32) s67.2.2.1))), some (.int s67.2.1), some (.int s67.2.2.1), some (.int s67.2.2.2)]) (pc' := 85) X (Nat.le_of_ble_eq_true rfl) rfl rfl dX5_nextTo_84 rfl ?_
          refine sk_lt (bsf := fun _ => [(md_W G u0 S0)]) (lvf := fun z => [some (.ref (u0 0)), some (.int p1), some (.int p2), some (.int z), some (.int s67.2.1), some (.int s67.2.2.1), some (.int s67.2.2.2)]) (stf := fun _ => []) (fun x84 => ?_)
          refine sk_iinc (lv' := [some (.ref (u0 0)), some (.int p1), some (.int p2), some (.int x84), some (.int s67.2.1), some (.int (s67.2.2.1 + (1 : Int32))), some (.int s67.2.2.2)]) (pc' := 88) X rfl ic_1 (Nat.le_of_ble_eq_true rfl) rfl rfl dX5_nextTo_85 rfl ?_
          refine sk_goto (tgt := 19) X dX5_nextTo_88 rfl ?_
          exact (sk_kill 6 (ih19 (x84, s67.2.1, (s67.2.2.1 + (1 : Int32)))))
      have h66 : ∀ s66 : Int32 × Int32 × Int32, sk_S Γ (sk_Φ Γ o_X5_nextTo (w_X5_nextTo G u0 S0)) 0 0 (m_X5_nextTo_66 S0 p1 p2 k5 k19 s66) [(md_W G u0 S0)] [some (.ref (u0 0)), some (.int p1), some (.int p2), some (.int s66.1), some (.int s66.2.1), some (.int s66.2.2), none] 66 [] := by
        intro s66
        unfold m_X5_nextTo_66
        refine sk_iconst (pc' := 67) X ic_0 dX5_nextTo_66 rfl ?_
        exact (h67 (s66.1, s66.2.1, s66.2.2, (0 : Int32)))
      unfold m_X5_nextTo_19_step
      refine sk_iload (pc' := 21) X rfl dX5_nextTo_19 rfl ?_
      refine sk_aload_n (pc' := 22) X rfl dX5_nextTo_21 rfl ?_
      refine sk_getf (pc' := 25) X 0 0 0 in_RX5 rfl rfl rfl (Nat.le_of_ble_eq_true rfl) fl_RX5_7 rfl dX5_nextTo_22 rfl ?_
      refine sk_iconst (pc' := 26) X ic_5 dX5_nextTo_25 rfl ?_
      refine sk_iald (pc' := 27) X 0 1 rfl rfl dX5_nextTo_26 rfl ?_
      refine sk_icmp_ge (tgt := 91) (pc' := 30) X dX5_nextTo_27 rfl rfl ?_ ?_
      · refine sk_iinc (lv' := [some (.ref (u0 0)), some (.int p1), some (.int p2), some (.int s19.1), some (.int (s19.2.1 + (1 : Int32))), some (.int s19.2.2), none]) (pc' := 94) X rfl ic_1 (Nat.le_of_ble_eq_true rfl) rfl rfl dX5_nextTo_91 rfl ?_
        refine sk_goto (tgt := 5) X dX5_nextTo_94 rfl ?_
        exact (sk_kill 5 (ih5 (s19.1, (s19.2.1 + (1 : Int32)))))
      · refine sk_iload_n (pc' := 31) X rfl dX5_nextTo_30 rfl ?_
        refine sk_iload (pc' := 33) X rfl dX5_nextTo_31 rfl ?_
        refine sk_ishr (pc' := 34) X dX5_nextTo_33 rfl ?_
        refine sk_iconst (pc' := 35) X ic_1 dX5_nextTo_34 rfl ?_
        refine sk_iand (pc' := 36) X dX5_nextTo_35 rfl ?_
        refine sk_iconst (pc' := 37) X ic_1 dX5_nextTo_36 rfl ?_
        refine sk_icmp_ne (tgt := 66) (pc' := 40) X dX5_nextTo_37 rfl rfl ?_ ?_
        · exact (h66 (s19.1, s19.2.1, s19.2.2))
        · refine sk_iload_n (pc' := 41) X rfl dX5_nextTo_40 rfl ?_
          refine sk_iload (pc' := 43) X rfl dX5_nextTo_41 rfl ?_
          refine sk_ishr (pc' := 44) X dX5_nextTo_43 rfl ?_
          refine sk_iconst (pc' := 45) X ic_1 dX5_nextTo_44 rfl ?_
          refine sk_iand (pc' := 46) X dX5_nextTo_45 rfl ?_
          refine sk_iconst (pc' := 47) X ic_1 dX5_nextTo_46 rfl ?_
          refine sk_icmp_ne (tgt := 66) (pc' := 50) X dX5_nextTo_47 rfl rfl ?_ ?_
          · exact (h66 (s19.1, s19.2.1, s19.2.2))
          · refine sk_aload_n (pc' := 51) X rfl dX5_nextTo_50 rfl ?_
            refine sk_iload (pc' := 53) X rfl dX5_nextTo_51 rfl ?_
            refine sk_iload (pc' := 55) X rfl dX5_nextTo_53 rfl ?_
            refine sk_callV (bs2 := fun r55 => [(md_W G u0 S0)]) (st := []) (st2 := fun r55 => [.int r55]) (As := [.int s19.2.1, .int s19.2.2]) (pc' := 58) X (c_X5_delay l G u0 S0 s19.2.1 s19.2.2) lk_RX5_78 [0] rfl (by decide) (fun _ => rfl) rfl rfl rfl ⟨(Nat.le_of_ble_eq_true rfl), (Nat.le_of_ble_eq_true rfl)⟩ ⟨rfl, rfl⟩ ⟨(Nat.le_of_ble_eq_true rfl), (Nat.le_of_ble_eq_true rfl)⟩ rfl (Nat.le_of_ble_eq_true rfl) rfl dX5_nextTo_55 rfl (fun _ => rfl) (fun _ => rfl) (fun r55 => ?_)
            refine sk_iconst (pc' := 59) X ic_m1 dX5_nextTo_58 rfl ?_
            refine sk_icmp_eq (tgt := 66) (pc' := 62) X dX5_nextTo_59 rfl rfl ?_ ?_
            · exact (h66 (s19.1, s19.2.1, s19.2.2))
            · refine sk_iconst (pc' := 63) X ic_1 dX5_nextTo_62 rfl ?_
              refine sk_goto (tgt := 67) X dX5_nextTo_63 rfl ?_
              exact (h67 (s19.1, s19.2.1, s19.2.2, (1 : Int32)))
    unfold m_X5_nextTo_5_step
    refine sk_iload (pc' := 7) X rfl dX5_nextTo_5 rfl ?_
    refine sk_aload_n (pc' := 8) X rfl dX5_nextTo_7 rfl ?_
    refine sk_getf (pc' := 11) X 0 0 0 in_RX5 rfl rfl rfl (Nat.le_of_ble_eq_true rfl) fl_RX5_7 rfl dX5_nextTo_8 rfl ?_
    refine sk_iconst (pc' := 12) X ic_5 dX5_nextTo_11 rfl ?_
    refine sk_iald (pc' := 13) X 0 1 rfl rfl dX5_nextTo_12 rfl ?_
    refine sk_icmp_ge (tgt := 97) (pc' := 16) X dX5_nextTo_13 rfl rfl ?_ ?_
    · refine sk_iload_n (pc' := 98) X rfl dX5_nextTo_97 rfl ?_
      exact sk_iret X rfl rfl dX5_nextTo_98
    · refine sk_iconst (pc' := 17) X ic_0 dX5_nextTo_16 rfl ?_
      refine sk_istore (lv' := [some (.ref (u0 0)), some (.int p1), some (.int p2), some (.int s5.1), some (.int s5.2), some (.int (0 : Int32)), none]) (pc' := 19) X (Nat.le_of_ble_eq_true rfl) rfl rfl dX5_nextTo_17 rfl ?_
      exact (h19 (s5.1, s5.2, (0 : Int32)))
  unfold m_X5_nextTo
  refine sk_iload_n (pc' := 1) X rfl dX5_nextTo_0 rfl ?_
  refine sk_istore_n (lv' := [some (.ref (u0 0)), some (.int p1), some (.int p2), some (.int p1), none, none, none]) (pc' := 2) X (Nat.le_of_ble_eq_true rfl) rfl rfl dX5_nextTo_1 rfl ?_
  refine sk_iconst (pc' := 3) X ic_0 dX5_nextTo_2 rfl ?_
  refine sk_istore (lv' := [some (.ref (u0 0)), some (.int p1), some (.int p2), some (.int p1), some (.int (0 : Int32)), none, none]) (pc' := 5) X (Nat.le_of_ble_eq_true rfl) rfl rfl dX5_nextTo_3 rfl ?_
  exact (h5 (p1, (0 : Int32)))
def rm_X5_distance : Room := { frames := 2, cells := 0, slots := 0, locals := 48 }
def o_X5_distance : (Int32 × sk_M) → Option Value := fun r => some (.int r.1)
def w_X5_distance (G : sk_G) (u0 : Nat → Nat) : (Int32 × sk_M) → sk_B := fun r => [(md_W G u0 r.2)]
set_option maxHeartbeats 4000000 in
set_option maxRecDepth 100000 in
theorem c_X5_distance (l : Launch) (G : sk_G) (u0 : Nat → Nat) (S0 : sk_M) (p1 : Int32) (p2 : Int32) : sk_ctr l G yX5_distance cX5_distance 5 (some .int) rm_X5_distance [.ref (u0 0), .int p1, .int p2] [(md_W G u0 S0)] (m_X5_distance S0 p1 p2) o_X5_distance (w_X5_distance G u0) := by
  refine sk_entry (own := RX5) (by decide) rfl (lv0 := [some (.ref (u0 0)), some (.int p1), some (.int p2), none, none]) rfl (Nat.le_of_ble_eq_true rfl) ?_
  intro Γ X
  have h41 : ∀ s41 : sk_M × Int32 × Int32, sk_S Γ (sk_Φ Γ o_X5_distance (w_X5_distance G u0)) 0 0 (m_X5_distance_41 p1 p2 s41) [(md_W G u0 s41.1)] [some (.ref (u0 0)), none, some (.int p2), some (.int s41.2.1), some (.int s41.2.2)] 41 [] := by
    intro s41
    unfold m_X5_distance_41
    refine sk_loop (bsf := fun s41 => [(md_W G u0 s41.1)]) (lvf := fun s41 => [some (.ref (u0 0)), none, some (.int p2), some (.int s41.2.1), some (.int s41.2.2)]) ?_ sk_fuel s41
    intro k41 s41 ih41
    unfold m_X5_distance_41_step
    refine sk_iload (pc' := 43) X rfl dX5_distance_41 rfl ?_
    refine sk_bipush (pc' := 45) X bp_10 dX5_distance_43 rfl ?_
    refine sk_icmp_ge (tgt := 75) (pc' := 48) X dX5_distance_45 rfl rfl ?_ ?_
    · refine sk_iconst (pc' := 76) X ic_m1 dX5_distance_75 rfl ?_
      exact sk_iret X rfl rfl dX5_distance_76
    · refine sk_iload_n (pc' := 49) X rfl dX5_distance_48 rfl ?_
      refine sk_iload_n (pc' := 50) X rfl dX5_distance_49 rfl ?_
      refine sk_ishr (pc' := 51) X dX5_distance_50 rfl ?_
      refine sk_iconst (pc' := 52) X ic_1 dX5_distance_51 rfl ?_
      refine sk_iand (pc' := 53) X dX5_distance_52 rfl ?_
      refine sk_iconst (pc' := 54) X ic_1 dX5_distance_53 rfl ?_
      refine sk_icmp_ne (tgt := 60) (pc' := 57) X dX5_distance_54 rfl rfl ?_ ?_
      · refine sk_aload_n (pc' := 61) X rfl dX5_distance_60 rfl ?_
        refine sk_iload_n (pc' := 62) X rfl dX5_distance_61 rfl ?_
        refine sk_sipush (pc' := 65) X sp_1023 dX5_distance_62 rfl ?_
        refine sk_callV (bs2 := fun r65 => [(md_W G u0 s41.1)]) (st := []) (st2 := fun r65 => [.int r65]) (As := [.int s41.2.1, .int (1023 : Int32)]) (pc' := 68) X (c_X5_nextTo l G u0 s41.1 s41.2.1 (1023 : Int32)) lk_RX5_107 [0] rfl (by decide) (fun _ => rfl) rfl rfl rfl ⟨(Nat.le_of_ble_eq_true rfl), (Nat.le_of_ble_eq_true rfl)⟩ ⟨rfl, rfl⟩ ⟨(Nat.le_of_ble_eq_true rfl), (Nat.le_of_ble_eq_true rfl)⟩ rfl (Nat.le_of_ble_eq_true rfl) rfl dX5_distance_65 rfl (fun _ => rfl) (fun _ => rfl) (fun r65 => ?_)
        refine sk_istore_n (lv' := [some (.ref (u0 0)), none, some (.int p2), some (.int r65), some (.int s41.2.2)]) (pc' := 69) X (Nat.le_of_ble_eq_true rfl) rfl rfl dX5_distance_68 rfl ?_
        refine sk_iinc (lv' := [some (.ref (u0 0)), none, some (.int p2), some (.int r65), some (.int (s41.2.2 + (1 : Int32)))]) (pc' := 72) X rfl ic_1 (Nat.le_of_ble_eq_true rfl) rfl rfl dX5_distance_69 rfl ?_
        refine sk_goto (tgt := 41) X dX5_distance_72 rfl ?_
        exact (ih41 (s41.1, r65, (s41.2.2 + (1 : Int32))))
      · refine sk_iload (pc' := 59) X rfl dX5_distance_57 rfl ?_
        exact sk_iret X rfl rfl dX5_distance_59
  have h23 : ∀ s23 : sk_M × Int32, sk_S Γ (sk_Φ Γ o_X5_distance (w_X5_distance G u0)) 0 0 (m_X5_distance_23 p1 p2 s23) [(md_W G u0 s23.1)] [some (.ref (u0 0)), some (.int p1), some (.int p2), none, none] 23 [.int s23.2, .ref (u0 0), .ref (u0 0)] := by
    intro s23
    unfold m_X5_distance_23
    refine sk_callV (bs2 := fun r23 => [(md_W G u0 s23.1)]) (st := [.ref (u0 0)]) (st2 := fun r23 => [.int r23, .ref (u0 0)]) (As := [.int s23.2]) (pc' := 26) X (c_X5_need l G u0 s23.1 s23.2) lk_RX5_94 [0] rfl (by decide) (fun _ => rfl) rfl rfl rfl ⟨(Nat.le_of_ble_eq_true rfl), (Nat.le_of_ble_eq_true rfl)⟩ ⟨rfl, rfl⟩ ⟨(Nat.le_of_ble_eq_true rfl), (Nat.le_of_ble_eq_true rfl)⟩ rfl (Nat.le_of_ble_eq_true rfl) rfl dX5_distance_23 rfl (fun _ => rfl) (fun _ => rfl) (fun r23 => ?_)
    refine sk_callV (bs2 := fun r26 => [(md_W G u0 r26.2)]) (st := []) (st2 := fun r26 => [.int r26.1]) (As := [.int r23]) (pc' := 29) X (c_X5_refused l G u0 s23.1 r23) lk_RX5_46 [0] rfl (by decide) (fun _ => rfl) rfl rfl rfl ⟨(Nat.le_of_ble_eq_true rfl), (Nat.le_of_ble_eq_true rfl)⟩ ⟨rfl, rfl⟩ ⟨(Nat.le_of_ble_eq_true rfl), (Nat.le_of_ble_eq_true rfl)⟩ rfl (Nat.le_of_ble_eq_true rfl) rfl dX5_distance_26 rfl (fun _ => rfl) (fun _ => rfl) (fun r26 => ?_)
    refine sk_if_eq (tgt := 34) (pc' := 32) X dX5_distance_29 rfl rfl ?_ ?_
    · refine sk_iconst (pc' := 35) X ic_1 dX5_distance_34 rfl ?_
      refine sk_iload_n (pc' := 36) X rfl dX5_distance_35 rfl ?_
      refine sk_ishl (pc' := 37) X dX5_distance_36 rfl ?_
      refine sk_istore_n (lv' := [some (.ref (u0 0)), some (.int p1), some (.int p2), some (.int (sk_shl (1 : Int32) p1)), none]) (pc' := 38) X (Nat.le_of_ble_eq_true rfl) rfl rfl dX5_distance_37 rfl ?_
      refine sk_lt (bsf := fun _ => [(md_W G u0 r26.2)]) (lvf := fun z => [some (.ref (u0 0)), some (.int p1), some (.int p2), some (.int z), none]) (stf := fun _ => []) (fun x37 => ?_)
      refine sk_iconst (pc' := 39) X ic_0 dX5_distance_38 rfl ?_
      refine sk_istore (lv' := [some (.ref (u0 0)), some (.int p1), some (.int p2), some (.int x37), some (.int (0 : Int32))]) (pc' := 41) X (Nat.le_of_ble_eq_true rfl) rfl rfl dX5_distance_39 rfl ?_
      exact (sk_kill 1 (h41 (r26.2, x37, (0 : Int32))))
    · refine sk_iconst (pc' := 33) X ic_0 dX5_distance_32 rfl ?_
      exact sk_iret X rfl rfl dX5_distance_33
  have h22 : ∀ s22 : sk_M, sk_S Γ (sk_Φ Γ o_X5_distance (w_X5_distance G u0)) 0 0 (m_X5_distance_22 p1 p2 s22) [(md_W G u0 s22)] [some (.ref (u0 0)), some (.int p1), some (.int p2), none, none] 22 [.ref (u0 0), .ref (u0 0)] := by
    intro s22
    unfold m_X5_distance_22
    refine sk_iconst (pc' := 23) X ic_0 dX5_distance_22 rfl ?_
    exact (h23 (s22, (0 : Int32)))
  unfold m_X5_distance
  refine sk_aload_n (pc' := 1) X rfl dX5_distance_0 rfl ?_
  refine sk_aload_n (pc' := 2) X rfl dX5_distance_1 rfl ?_
  refine sk_aload_n (pc' := 3) X rfl dX5_distance_2 rfl ?_
  refine sk_iload_n (pc' := 4) X rfl dX5_distance_3 rfl ?_
  refine sk_callV (bs2 := fun r4 => [(md_W G u0 S0)]) (st := [.ref (u0 0), .ref (u0 0)]) (st2 := fun r4 => [.int r4, .ref (u0 0), .ref (u0 0)]) (As := [.int p1]) (pc' := 7) X (c_X5_isClock l G u0 S0 p1) lk_RX5_60 [0] rfl (by decide) (fun _ => rfl) rfl rfl rfl ⟨(Nat.le_of_ble_eq_true rfl), (Nat.le_of_ble_eq_true rfl)⟩ ⟨rfl, rfl⟩ ⟨(Nat.le_of_ble_eq_true rfl), (Nat.le_of_ble_eq_true rfl)⟩ rfl (Nat.le_of_ble_eq_true rfl) rfl dX5_distance_4 rfl (fun _ => rfl) (fun _ => rfl) (fun r4 => ?_)
  refine sk_if_eq (tgt := 22) (pc' := 10) X dX5_distance_7 rfl rfl ?_ ?_
  · exact (h22 S0)
  · refine sk_aload_n (pc' := 11) X rfl dX5_distance_10 rfl ?_
    refine sk_iload_n (pc' := 12) X rfl dX5_distance_11 rfl ?_
    refine sk_callV (bs2 := fun r12 => [(md_W G u0 S0)]) (st := [.ref (u0 0), .ref (u0 0)]) (st2 := fun r12 => [.int r12, .ref (u0 0), .ref (u0 0)]) (As := [.int p2]) (pc' := 15) X (c_X5_isClock l G u0 S0 p2) lk_RX5_60 [0] rfl (by decide) (fun _ => rfl) rfl rfl rfl ⟨(Nat.le_of_ble_eq_true rfl), (Nat.le_of_ble_eq_true rfl)⟩ ⟨rfl, rfl⟩ ⟨(Nat.le_of_ble_eq_true rfl), (Nat.le_of_ble_eq_true rfl)⟩ rfl (Nat.le_of_ble_eq_true rfl) rfl dX5_distance_12 rfl (fun _ => rfl) (fun _ => rfl) (fun r12 => ?_)
    refine sk_if_eq (tgt := 22) (pc' := 18) X dX5_distance_15 rfl rfl ?_ ?_
    · exact (h22 S0)
    · refine sk_iconst (pc' := 19) X ic_1 dX5_distance_18 rfl ?_
      refine sk_goto (tgt := 23) X dX5_distance_19 rfl ?_
      exact (h23 (S0, (1 : Int32)))
def rm_X5_everyone : Room := { frames := 0, cells := 0, slots := 0, locals := 0 }
def o_X5_everyone : (Int32) → Option Value := fun r => some (.int r)
def w_X5_everyone (G : sk_G) (u0 : Nat → Nat) (S0 : sk_M) : (Int32) → sk_B := fun r => [(md_W G u0 S0)]
set_option maxHeartbeats 4000000 in
set_option maxRecDepth 100000 in
theorem c_X5_everyone (l : Launch) (G : sk_G) (u0 : Nat → Nat) (S0 : sk_M) : sk_ctr l G yX5_everyone cX5_everyone 1 (some .int) rm_X5_everyone [.ref (u0 0)] [(md_W G u0 S0)] (m_X5_everyone S0) o_X5_everyone (w_X5_everyone G u0 S0) := by
  refine sk_entry (own := RX5) (by decide) rfl (lv0 := [some (.ref (u0 0))]) rfl (Nat.le_of_ble_eq_true rfl) ?_
  intro Γ X
  unfold m_X5_everyone
  refine sk_iconst (pc' := 1) X ic_1 dX5_everyone_0 rfl ?_
  refine sk_aload_n (pc' := 2) X rfl dX5_everyone_1 rfl ?_
  refine sk_getf (pc' := 5) X 0 0 0 in_RX5 rfl rfl rfl (Nat.le_of_ble_eq_true rfl) fl_RX5_7 rfl dX5_everyone_2 rfl ?_
  refine sk_iconst (pc' := 6) X ic_5 dX5_everyone_5 rfl ?_
  refine sk_iald (pc' := 7) X 0 1 rfl rfl dX5_everyone_6 rfl ?_
  refine sk_ishl (pc' := 8) X dX5_everyone_7 rfl ?_
  refine sk_iconst (pc' := 9) X ic_1 dX5_everyone_8 rfl ?_
  refine sk_isub (pc' := 10) X dX5_everyone_9 rfl ?_
  exact sk_iret X rfl rfl dX5_everyone_10
def rm_X5_spreads : Room := { frames := 2, cells := 0, slots := 0, locals := 48 }
def o_X5_spreads : (Int32) → Option Value := fun r => some (.int r)
def w_X5_spreads (G : sk_G) (u0 : Nat → Nat) (S0 : sk_M) : (Int32) → sk_B := fun r => [(md_W G u0 S0)]
set_option maxHeartbeats 4000000 in
set_option maxRecDepth 100000 in
theorem c_X5_spreads (l : Launch) (G : sk_G) (u0 : Nat → Nat) (S0 : sk_M) (p1 : Int32) (p2 : Int32) : sk_ctr l G yX5_spreads cX5_spreads 5 (some .int) rm_X5_spreads [.ref (u0 0), .int p1, .int p2] [(md_W G u0 S0)] (m_X5_spreads S0 p1 p2) o_X5_spreads (w_X5_spreads G u0 S0) := by
  refine sk_entry (own := RX5) (by decide) rfl (lv0 := [some (.ref (u0 0)), some (.int p1), some (.int p2), none, none]) rfl (Nat.le_of_ble_eq_true rfl) ?_
  intro Γ X
  have h5 : ∀ s5 : Int32 × Int32, sk_S Γ (sk_Φ Γ o_X5_spreads (w_X5_spreads G u0 S0)) 0 0 (m_X5_spreads_5 S0 p1 p2 s5) [(md_W G u0 S0)] [some (.ref (u0 0)), none, some (.int p2), some (.int s5.1), some (.int s5.2)] 5 [] := by
    intro s5
    unfold m_X5_spreads_5
    refine sk_loop (bsf := fun s5 => [(md_W G u0 S0)]) (lvf := fun s5 => [some (.ref (u0 0)), none, some (.int p2), some (.int s5.1), some (.int s5.2)]) ?_ sk_fuel s5
    intro k5 s5 ih5
    unfold m_X5_spreads_5_step
    refine sk_iload (pc' := 7) X rfl dX5_spreads_5 rfl ?_
    refine sk_bipush (pc' := 9) X bp_10 dX5_spreads_7 rfl ?_
    refine sk_icmp_ge (tgt := 25) (pc' := 12) X dX5_spreads_9 rfl rfl ?_ ?_
    · refine sk_iload_n (pc' := 26) X rfl dX5_spreads_25 rfl ?_
      exact sk_iret X rfl rfl dX5_spreads_26
    · refine sk_aload_n (pc' := 13) X rfl dX5_spreads_12 rfl ?_
      refine sk_iload_n (pc' := 14) X rfl dX5_spreads_13 rfl ?_
      refine sk_iload_n (pc' := 15) X rfl dX5_spreads_14 rfl ?_
      refine sk_callV (bs2 := fun r15 => [(md_W G u0 S0)]) (st := []) (st2 := fun r15 => [.int r15]) (As := [.int s5.1, .int p2]) (pc' := 18) X (c_X5_nextTo l G u0 S0 s5.1 p2) lk_RX5_107 [0] rfl (by decide) (fun _ => rfl) rfl rfl rfl ⟨(Nat.le_of_ble_eq_true rfl), (Nat.le_of_ble_eq_true rfl)⟩ ⟨rfl, rfl⟩ ⟨(Nat.le_of_ble_eq_true rfl), (Nat.le_of_ble_eq_true rfl)⟩ rfl (Nat.le_of_ble_eq_true rfl) rfl dX5_spreads_15 rfl (fun _ => rfl) (fun _ => rfl) (fun r15 => ?_)
      refine sk_istore_n (lv' := [some (.ref (u0 0)), none, some (.int p2), some (.int r15), some (.int s5.2)]) (pc' := 19) X (Nat.le_of_ble_eq_true rfl) rfl rfl dX5_spreads_18 rfl ?_
      refine sk_iinc (lv' := [some (.ref (u0 0)), none, some (.int p2), some (.int r15), some (.int (s5.2 + (1 : Int32)))]) (pc' := 22) X rfl ic_1 (Nat.le_of_ble_eq_true rfl) rfl rfl dX5_spreads_19 rfl ?_
      refine sk_goto (tgt := 5) X dX5_spreads_22 rfl ?_
      exact (ih5 (r15, (s5.2 + (1 : Int32))))
  unfold m_X5_spreads
  refine sk_iload_n (pc' := 1) X rfl dX5_spreads_0 rfl ?_
  refine sk_istore_n (lv' := [some (.ref (u0 0)), some (.int p1), some (.int p2), some (.int p1), none]) (pc' := 2) X (Nat.le_of_ble_eq_true rfl) rfl rfl dX5_spreads_1 rfl ?_
  refine sk_iconst (pc' := 3) X ic_0 dX5_spreads_2 rfl ?_
  refine sk_istore (lv' := [some (.ref (u0 0)), some (.int p1), some (.int p2), some (.int p1), some (.int (0 : Int32))]) (pc' := 5) X (Nat.le_of_ble_eq_true rfl) rfl rfl dX5_spreads_3 rfl ?_
  exact (sk_kill 1 (h5 (p1, (0 : Int32))))
def rm_X5_parts : Room := { frames := 3, cells := 0, slots := 0, locals := 72 }
def o_X5_parts : (Int32) → Option Value := fun r => some (.int r)
def w_X5_parts (G : sk_G) (u0 : Nat → Nat) (S0 : sk_M) : (Int32) → sk_B := fun r => [(md_W G u0 S0)]
set_option maxHeartbeats 4000000 in
set_option maxRecDepth 100000 in
theorem c_X5_parts (l : Launch) (G : sk_G) (u0 : Nat → Nat) (S0 : sk_M) (p1 : Int32) : sk_ctr l G yX5_parts cX5_parts 5 (some .int) rm_X5_parts [.ref (u0 0), .int p1] [(md_W G u0 S0)] (m_X5_parts S0 p1) o_X5_parts (w_X5_parts G u0 S0) := by
  refine sk_entry (own := RX5) (by decide) rfl (lv0 := [some (.ref (u0 0)), some (.int p1), none, none, none]) rfl (Nat.le_of_ble_eq_true rfl) ?_
  intro Γ X
  have h7 : ∀ s7 : Int32 × Int32 × Int32, sk_S Γ (sk_Φ Γ o_X5_parts (w_X5_parts G u0 S0)) 0 0 (m_X5_parts_7 S0 p1 s7) [(md_W G u0 S0)] [some (.ref (u0 0)), some (.int p1), some (.int s7.1), some (.int s7.2.1), some (.int s7.2.2)] 7 [] := by
    intro s7
    unfold m_X5_parts_7
    refine sk_loop (bsf := fun s7 => [(md_W G u0 S0)]) (lvf := fun s7 => [some (.ref (u0 0)), some (.int p1), some (.int s7.1), some (.int s7.2.1), some (.int s7.2.2)]) ?_ sk_fuel s7
    intro k7 s7 ih7
    unfold m_X5_parts_7_step
    refine sk_iload (pc' := 9) X rfl dX5_parts_7 rfl ?_
    refine sk_aload_n (pc' := 10) X rfl dX5_parts_9 rfl ?_
    refine sk_getf (pc' := 13) X 0 0 0 in_RX5 rfl rfl rfl (Nat.le_of_ble_eq_true rfl) fl_RX5_7 rfl dX5_parts_10 rfl ?_
    refine sk_iconst (pc' := 14) X ic_5 dX5_parts_13 rfl ?_
    refine sk_iald (pc' := 15) X 0 1 rfl rfl dX5_parts_14 rfl ?_
    refine sk_icmp_ge (tgt := 51) (pc' := 18) X dX5_parts_15 rfl rfl ?_ ?_
    · refine sk_iload_n (pc' := 52) X rfl dX5_parts_51 rfl ?_
      exact sk_iret X rfl rfl dX5_parts_52
    · refine sk_iload_n (pc' := 19) X rfl dX5_parts_18 rfl ?_
      refine sk_iload (pc' := 21) X rfl dX5_parts_19 rfl ?_
      refine sk_ishr (pc' := 22) X dX5_parts_21 rfl ?_
      refine sk_iconst (pc' := 23) X ic_1 dX5_parts_22 rfl ?_
      refine sk_iand (pc' := 24) X dX5_parts_23 rfl ?_
      refine sk_iconst (pc' := 25) X ic_1 dX5_parts_24 rfl ?_
      refine sk_icmp_ne (tgt := 45) (pc' := 28) X dX5_parts_25 rfl rfl ?_ ?_
      · refine sk_iinc (lv' := [some (.ref (u0 0)), some (.int p1), some (.int s7.1), some (.int s7.2.1), some (.int (s7.2.2 + (1 : Int32)))]) (pc' := 48) X rfl ic_1 (Nat.le_of_ble_eq_true rfl) rfl rfl dX5_parts_45 rfl ?_
        refine sk_goto (tgt := 7) X dX5_parts_48 rfl ?_
        exact (ih7 (s7.1, s7.2.1, (s7.2.2 + (1 : Int32))))
      · refine sk_iload_n (pc' := 29) X rfl dX5_parts_28 rfl ?_
        refine sk_aload_n (pc' := 30) X rfl dX5_parts_29 rfl ?_
        refine sk_iconst (pc' := 31) X ic_1 dX5_parts_30 rfl ?_
        refine sk_iload (pc' := 33) X rfl dX5_parts_31 rfl ?_
        refine sk_ishl (pc' := 34) X dX5_parts_33 rfl ?_
        refine sk_iload_n (pc' := 35) X rfl dX5_parts_34 rfl ?_
        refine sk_callV (bs2 := fun r35 => [(md_W G u0 S0)]) (st := [.int s7.2.1]) (st2 := fun r35 => [.int r35, .int s7.2.1]) (As := [.int (sk_shl (1 : Int32) s7.2.2), .int p1]) (pc' := 38) X (c_X5_spreads l G u0 S0 (sk_shl (1 : Int32) s7.2.2) p1) lk_RX5_110 [0] rfl (by decide) (fun _ => rfl) rfl rfl rfl ⟨(Nat.le_of_ble_eq_true rfl), (Nat.le_of_ble_eq_true rfl)⟩ ⟨rfl, rfl⟩ ⟨(Nat.le_of_ble_eq_true rfl), (Nat.le_of_ble_eq_true rfl)⟩ rfl (Nat.le_of_ble_eq_true rfl) rfl dX5_parts_35 rfl (fun _ => rfl) (fun _ => rfl) (fun r35 => ?_)
        refine sk_iconst (pc' := 39) X ic_m1 dX5_parts_38 rfl ?_
        refine sk_ixor (pc' := 40) X dX5_parts_39 rfl ?_
        refine sk_iand (pc' := 41) X dX5_parts_40 rfl ?_
        refine sk_istore_n (lv' := [some (.ref (u0 0)), some (.int p1), some (.int s7.1), some (.int (s7.2.1 &&& (r35 ^^^ (-1 : Int32)))), some (.int s7.2.2)]) (pc' := 42) X (Nat.le_of_ble_eq_true rfl) rfl rfl dX5_parts_41 rfl ?_
        refine sk_lt (bsf := fun _ => [(md_W G u0 S0)]) (lvf := fun z => [some (.ref (u0 0)), some (.int p1), some (.int s7.1), some (.int z), some (.int s7.2.2)]) (stf := fun _ => []) (fun x41 => ?_)
        refine sk_iinc (lv' := [some (.ref (u0 0)), some (.int p1), some (.int (s7.1 + (1 : Int32))), some (.int x41), some (.int s7.2.2)]) (pc' := 45) X rfl ic_1 (Nat.le_of_ble_eq_true rfl) rfl rfl dX5_parts_42 rfl ?_
        refine sk_iinc (lv' := [some (.ref (u0 0)), some (.int p1), some (.int (s7.1 + (1 : Int32))), some (.int x41), some (.int (s7.2.2 + (1 : Int32)))]) (pc' := 48) X rfl ic_1 (Nat.le_of_ble_eq_true rfl) rfl rfl dX5_parts_45 rfl ?_
        refine sk_goto (tgt := 7) X dX5_parts_48 rfl ?_
        exact (ih7 ((s7.1 + (1 : Int32)), x41, (s7.2.2 + (1 : Int32))))
  unfold m_X5_parts
  refine sk_iconst (pc' := 1) X ic_0 dX5_parts_0 rfl ?_
  refine sk_istore_n (lv' := [some (.ref (u0 0)), some (.int p1), some (.int (0 : Int32)), none, none]) (pc' := 2) X (Nat.le_of_ble_eq_true rfl) rfl rfl dX5_parts_1 rfl ?_
  refine sk_iload_n (pc' := 3) X rfl dX5_parts_2 rfl ?_
  refine sk_istore_n (lv' := [some (.ref (u0 0)), some (.int p1), some (.int (0 : Int32)), some (.int p1), none]) (pc' := 4) X (Nat.le_of_ble_eq_true rfl) rfl rfl dX5_parts_3 rfl ?_
  refine sk_iconst (pc' := 5) X ic_0 dX5_parts_4 rfl ?_
  refine sk_istore (lv' := [some (.ref (u0 0)), some (.int p1), some (.int (0 : Int32)), some (.int p1), some (.int (0 : Int32))]) (pc' := 7) X (Nat.le_of_ble_eq_true rfl) rfl rfl dX5_parts_5 rfl ?_
  exact (h7 ((0 : Int32), p1, (0 : Int32)))
def rm_X5_components : Room := { frames := 4, cells := 0, slots := 0, locals := 96 }
def o_X5_components : (Int32 × sk_M) → Option Value := fun r => some (.int r.1)
def w_X5_components (G : sk_G) (u0 : Nat → Nat) : (Int32 × sk_M) → sk_B := fun r => [(md_W G u0 r.2)]
set_option maxHeartbeats 4000000 in
set_option maxRecDepth 100000 in
theorem c_X5_components (l : Launch) (G : sk_G) (u0 : Nat → Nat) (S0 : sk_M) : sk_ctr l G yX5_components cX5_components 1 (some .int) rm_X5_components [.ref (u0 0)] [(md_W G u0 S0)] (m_X5_components S0) o_X5_components (w_X5_components G u0) := by
  refine sk_entry (own := RX5) (by decide) rfl (lv0 := [some (.ref (u0 0))]) rfl (Nat.le_of_ble_eq_true rfl) ?_
  intro Γ X
  unfold m_X5_components
  refine sk_aload_n (pc' := 1) X rfl dX5_components_0 rfl ?_
  refine sk_iconst (pc' := 2) X ic_0 dX5_components_1 rfl ?_
  refine sk_putf (bs' := [(md_W G u0 (md_up S0 0 4 (0 : Int32)))]) (pc' := 5) X 0 0 4 in_RX5 tyX5 tyX5_ok nmX5 rfl rfl rfl (Nat.le_of_ble_eq_true rfl) fl_RX5_35 rfl (tyX5_ok 4 (Nat.le_of_ble_eq_true rfl)) rfl rfl (Nat.le_of_ble_eq_true rfl) (sk_st 0 (md_pf_4 ..) rfl) dX5_components_2 rfl ?_
  refine sk_lt (bsf := fun z => [(md_W G u0 z)]) (lvf := fun _ => [some (.ref (u0 0))]) (stf := fun _ => []) (fun N2 => ?_)
  refine sk_aload_n (pc' := 6) X rfl dX5_components_5 rfl ?_
  refine sk_aload_n (pc' := 7) X rfl dX5_components_6 rfl ?_
  refine sk_callV (bs2 := fun r7 => [(md_W G u0 N2)]) (st := [.ref (u0 0)]) (st2 := fun r7 => [.int r7, .ref (u0 0)]) (As := []) (pc' := 10) X (c_X5_everyone l G u0 N2) lk_RX5_113 [0] rfl (by decide) (fun _ => rfl) rfl rfl rfl ⟨(Nat.le_of_ble_eq_true rfl), (Nat.le_of_ble_eq_true rfl)⟩ ⟨rfl, rfl⟩ ⟨(Nat.le_of_ble_eq_true rfl), (Nat.le_of_ble_eq_true rfl)⟩ rfl (Nat.le_of_ble_eq_true rfl) rfl dX5_components_7 rfl (fun _ => rfl) (fun _ => rfl) (fun r7 => ?_)
  refine sk_callV (bs2 := fun r10 => [(md_W G u0 N2)]) (st := []) (st2 := fun r10 => [.int r10]) (As := [.int r7]) (pc' := 13) X (c_X5_parts l G u0 N2 r7) lk_RX5_116 [0] rfl (by decide) (fun _ => rfl) rfl rfl rfl ⟨(Nat.le_of_ble_eq_true rfl), (Nat.le_of_ble_eq_true rfl)⟩ ⟨rfl, rfl⟩ ⟨(Nat.le_of_ble_eq_true rfl), (Nat.le_of_ble_eq_true rfl)⟩ rfl (Nat.le_of_ble_eq_true rfl) rfl dX5_components_10 rfl (fun _ => rfl) (fun _ => rfl) (fun r10 => ?_)
  exact sk_iret X rfl rfl dX5_components_13
def rm_X5_isNeeded : Room := { frames := 4, cells := 0, slots := 0, locals := 96 }
def o_X5_isNeeded : (Int32 × sk_M) → Option Value := fun r => some (.int r.1)
def w_X5_isNeeded (G : sk_G) (u0 : Nat → Nat) : (Int32 × sk_M) → sk_B := fun r => [(md_W G u0 r.2)]
set_option maxHeartbeats 4000000 in
set_option maxRecDepth 100000 in
theorem c_X5_isNeeded (l : Launch) (G : sk_G) (u0 : Nat → Nat) (S0 : sk_M) (p1 : Int32) : sk_ctr l G yX5_isNeeded cX5_isNeeded 2 (some .boolean) rm_X5_isNeeded [.ref (u0 0), .int p1] [(md_W G u0 S0)] (m_X5_isNeeded S0 p1) o_X5_isNeeded (w_X5_isNeeded G u0) := by
  refine sk_entry (own := RX5) (by decide) rfl (lv0 := [some (.ref (u0 0)), some (.int p1)]) rfl (Nat.le_of_ble_eq_true rfl) ?_
  intro Γ X
  unfold m_X5_isNeeded
  refine sk_aload_n (pc' := 1) X rfl dX5_isNeeded_0 rfl ?_
  refine sk_aload_n (pc' := 2) X rfl dX5_isNeeded_1 rfl ?_
  refine sk_aload_n (pc' := 3) X rfl dX5_isNeeded_2 rfl ?_
  refine sk_iload_n (pc' := 4) X rfl dX5_isNeeded_3 rfl ?_
  refine sk_callV (bs2 := fun r4 => [(md_W G u0 S0)]) (st := [.ref (u0 0), .ref (u0 0)]) (st2 := fun r4 => [.int r4, .ref (u0 0), .ref (u0 0)]) (As := [.int p1]) (pc' := 7) X (c_X5_isClock l G u0 S0 p1) lk_RX5_60 [0] rfl (by decide) (fun _ => rfl) rfl rfl rfl ⟨(Nat.le_of_ble_eq_true rfl), (Nat.le_of_ble_eq_true rfl)⟩ ⟨rfl, rfl⟩ ⟨(Nat.le_of_ble_eq_true rfl), (Nat.le_of_ble_eq_true rfl)⟩ rfl (Nat.le_of_ble_eq_true rfl) rfl dX5_isNeeded_4 rfl (fun _ => rfl) (fun _ => rfl) (fun r4 => ?_)
  refine sk_callV (bs2 := fun r7 => [(md_W G u0 S0)]) (st := [.ref (u0 0)]) (st2 := fun r7 => [.int r7, .ref (u0 0)]) (As := [.int r4]) (pc' := 10) X (c_X5_need l G u0 S0 r4) lk_RX5_94 [0] rfl (by decide) (fun _ => rfl) rfl rfl rfl ⟨(Nat.le_of_ble_eq_true rfl), (Nat.le_of_ble_eq_true rfl)⟩ ⟨rfl, rfl⟩ ⟨(Nat.le_of_ble_eq_true rfl), (Nat.le_of_ble_eq_true rfl)⟩ rfl (Nat.le_of_ble_eq_true rfl) rfl dX5_isNeeded_7 rfl (fun _ => rfl) (fun _ => rfl) (fun r7 => ?_)
  refine sk_callV (bs2 := fun r10 => [(md_W G u0 r10.2)]) (st := []) (st2 := fun r10 => [.int r10.1]) (As := [.int r7]) (pc' := 13) X (c_X5_refused l G u0 S0 r7) lk_RX5_46 [0] rfl (by decide) (fun _ => rfl) rfl rfl rfl ⟨(Nat.le_of_ble_eq_true rfl), (Nat.le_of_ble_eq_true rfl)⟩ ⟨rfl, rfl⟩ ⟨(Nat.le_of_ble_eq_true rfl), (Nat.le_of_ble_eq_true rfl)⟩ rfl (Nat.le_of_ble_eq_true rfl) rfl dX5_isNeeded_10 rfl (fun _ => rfl) (fun _ => rfl) (fun r10 => ?_)
  refine sk_if_eq (tgt := 18) (pc' := 16) X dX5_isNeeded_13 rfl rfl ?_ ?_
  · refine sk_aload_n (pc' := 19) X rfl dX5_isNeeded_18 rfl ?_
    refine sk_aload_n (pc' := 20) X rfl dX5_isNeeded_19 rfl ?_
    refine sk_callV (bs2 := fun r20 => [(md_W G u0 r10.2)]) (st := [.ref (u0 0)]) (st2 := fun r20 => [.int r20, .ref (u0 0)]) (As := []) (pc' := 23) X (c_X5_everyone l G u0 r10.2) lk_RX5_113 [0] rfl (by decide) (fun _ => rfl) rfl rfl rfl ⟨(Nat.le_of_ble_eq_true rfl), (Nat.le_of_ble_eq_true rfl)⟩ ⟨rfl, rfl⟩ ⟨(Nat.le_of_ble_eq_true rfl), (Nat.le_of_ble_eq_true rfl)⟩ rfl (Nat.le_of_ble_eq_true rfl) rfl dX5_isNeeded_20 rfl (fun _ => rfl) (fun _ => rfl) (fun r20 => ?_)
    refine sk_iconst (pc' := 24) X ic_1 dX5_isNeeded_23 rfl ?_
    refine sk_iload_n (pc' := 25) X rfl dX5_isNeeded_24 rfl ?_
    refine sk_ishl (pc' := 26) X dX5_isNeeded_25 rfl ?_
    refine sk_iconst (pc' := 27) X ic_m1 dX5_isNeeded_26 rfl ?_
    refine sk_ixor (pc' := 28) X dX5_isNeeded_27 rfl ?_
    refine sk_iand (pc' := 29) X dX5_isNeeded_28 rfl ?_
    refine sk_callV (bs2 := fun r29 => [(md_W G u0 r10.2)]) (st := []) (st2 := fun r29 => [.int r29]) (As := [.int (r20 &&& ((sk_shl (1 : Int32) p1) ^^^ (-1 : Int32)))]) (pc' := 32) X (c_X5_parts l G u0 r10.2 (r20 &&& ((sk_shl (1 : Int32) p1) ^^^ (-1 : Int32)))) lk_RX5_116 [0] rfl (by decide) (fun _ => rfl) rfl rfl rfl ⟨(Nat.le_of_ble_eq_true rfl), (Nat.le_of_ble_eq_true rfl)⟩ ⟨rfl, rfl⟩ ⟨(Nat.le_of_ble_eq_true rfl), (Nat.le_of_ble_eq_true rfl)⟩ rfl (Nat.le_of_ble_eq_true rfl) rfl dX5_isNeeded_29 rfl (fun _ => rfl) (fun _ => rfl) (fun r29 => ?_)
    refine sk_aload_n (pc' := 33) X rfl dX5_isNeeded_32 rfl ?_
    refine sk_aload_n (pc' := 34) X rfl dX5_isNeeded_33 rfl ?_
    refine sk_callV (bs2 := fun r34 => [(md_W G u0 r10.2)]) (st := [.ref (u0 0), .int r29]) (st2 := fun r34 => [.int r34, .ref (u0 0), .int r29]) (As := []) (pc' := 37) X (c_X5_everyone l G u0 r10.2) lk_RX5_113 [0] rfl (by decide) (fun _ => rfl) rfl rfl rfl ⟨(Nat.le_of_ble_eq_true rfl), (Nat.le_of_ble_eq_true rfl)⟩ ⟨rfl, rfl⟩ ⟨(Nat.le_of_ble_eq_true rfl), (Nat.le_of_ble_eq_true rfl)⟩ rfl (Nat.le_of_ble_eq_true rfl) rfl dX5_isNeeded_34 rfl (fun _ => rfl) (fun _ => rfl) (fun r34 => ?_)
    refine sk_callV (bs2 := fun r37 => [(md_W G u0 r10.2)]) (st := [.int r29]) (st2 := fun r37 => [.int r37, .int r29]) (As := [.int r34]) (pc' := 40) X (c_X5_parts l G u0 r10.2 r34) lk_RX5_116 [0] rfl (by decide) (fun _ => rfl) rfl rfl rfl ⟨(Nat.le_of_ble_eq_true rfl), (Nat.le_of_ble_eq_true rfl)⟩ ⟨rfl, rfl⟩ ⟨(Nat.le_of_ble_eq_true rfl), (Nat.le_of_ble_eq_true rfl)⟩ rfl (Nat.le_of_ble_eq_true rfl) rfl dX5_isNeeded_37 rfl (fun _ => rfl) (fun _ => rfl) (fun r37 => ?_)
    refine sk_icmp_le (tgt := 47) (pc' := 43) X dX5_isNeeded_40 rfl rfl ?_ ?_
    · refine sk_iconst (pc' := 48) X ic_0 dX5_isNeeded_47 rfl ?_
      exact sk_zret X (by decide) rfl rfl dX5_isNeeded_48
    · refine sk_iconst (pc' := 44) X ic_1 dX5_isNeeded_43 rfl ?_
      refine sk_goto (tgt := 48) X dX5_isNeeded_44 rfl ?_
      exact sk_zret X (by decide) rfl rfl dX5_isNeeded_48
  · refine sk_iconst (pc' := 17) X ic_0 dX5_isNeeded_16 rfl ?_
    exact sk_zret X (by decide) rfl rfl dX5_isNeeded_17
def rm_X5_notes : Room := { frames := 0, cells := 0, slots := 0, locals := 0 }
def o_X5_notes : (sk_M) → Option Value := fun r => none
def w_X5_notes (G : sk_G) (u0 : Nat → Nat) : (sk_M) → sk_B := fun r => [(md_W G u0 r)]
set_option maxHeartbeats 4000000 in
set_option maxRecDepth 100000 in
theorem c_X5_notes (l : Launch) (G : sk_G) (u0 : Nat → Nat) (S0 : sk_M) (p1 : Int32) : sk_ctr l G yX5_notes cX5_notes 3 none rm_X5_notes [.ref (u0 0), .int p1] [(md_W G u0 S0)] (m_X5_notes S0 p1) o_X5_notes (w_X5_notes G u0) := by
  refine sk_entry (own := RX5) (by decide) rfl (lv0 := [some (.ref (u0 0)), some (.int p1), none]) rfl (Nat.le_of_ble_eq_true rfl) ?_
  intro Γ X
  have h67 : ∀ s67 : sk_M, sk_S Γ (sk_Φ Γ o_X5_notes (w_X5_notes G u0)) 0 0 (m_X5_notes_67 p1 s67) [(md_W G u0 s67)] [some (.ref (u0 0)), some (.int p1), none] 67 [] := by
    intro s67
    unfold m_X5_notes_67
    refine sk_aload_n (pc' := 68) X rfl dX5_notes_67 rfl ?_
    refine sk_getf (pc' := 71) X 0 0 0 in_RX5 rfl rfl rfl (Nat.le_of_ble_eq_true rfl) fl_RX5_7 rfl dX5_notes_68 rfl ?_
    refine sk_sipush (pc' := 74) X sp_258 dX5_notes_71 rfl ?_
    refine sk_iconst (pc' := 75) X ic_2 dX5_notes_74 rfl ?_
    refine sk_aload_n (pc' := 76) X rfl dX5_notes_75 rfl ?_
    refine sk_getf (pc' := 79) X 0 0 0 in_RX5 rfl rfl rfl (Nat.le_of_ble_eq_true rfl) fl_RX5_7 rfl dX5_notes_76 rfl ?_
    refine sk_bipush (pc' := 81) X bp_7 dX5_notes_79 rfl ?_
    refine sk_iald (pc' := 82) X 0 1 rfl rfl dX5_notes_81 rfl ?_
    refine sk_imul (pc' := 83) X dX5_notes_82 rfl ?_
    refine sk_iadd (pc' := 84) X dX5_notes_83 rfl ?_
    refine sk_aload_n (pc' := 85) X rfl dX5_notes_84 rfl ?_
    refine sk_getf (pc' := 88) X 0 0 0 in_RX5 rfl rfl rfl (Nat.le_of_ble_eq_true rfl) fl_RX5_7 rfl dX5_notes_85 rfl ?_
    refine sk_iconst (pc' := 89) X ic_4 dX5_notes_88 rfl ?_
    refine sk_iald (pc' := 90) X 0 1 rfl rfl dX5_notes_89 rfl ?_
    refine sk_iast (bs' := [(md_W G u0 (md_up s67 1 (((258 : Int32) + ((2 : Int32) * ((s67.1 1) ((7 : Int32)).toNatClampNeg)))).toNatClampNeg ((s67.1 1) ((4 : Int32)).toNatClampNeg)))]) (pc' := 91) X 0 1 rfl rfl (sk_st 0 (md_st_1 ..) rfl) dX5_notes_90 rfl ?_
    refine sk_lt (bsf := fun z => [(md_W G u0 z)]) (lvf := fun _ => [some (.ref (u0 0)), some (.int p1), none]) (stf := fun _ => []) (fun N90 => ?_)
    refine sk_aload_n (pc' := 92) X rfl dX5_notes_91 rfl ?_
    refine sk_getf (pc' := 95) X 0 0 0 in_RX5 rfl rfl rfl (Nat.le_of_ble_eq_true rfl) fl_RX5_7 rfl dX5_notes_92 rfl ?_
    refine sk_sipush (pc' := 98) X sp_258 dX5_notes_95 rfl ?_
    refine sk_iconst (pc' := 99) X ic_2 dX5_notes_98 rfl ?_
    refine sk_aload_n (pc' := 100) X rfl dX5_notes_99 rfl ?_
    refine sk_getf (pc' := 103) X 0 0 0 in_RX5 rfl rfl rfl (Nat.le_of_ble_eq_true rfl) fl_RX5_7 rfl dX5_notes_100 rfl ?_
    refine sk_bipush (pc' := 105) X bp_7 dX5_notes_103 rfl ?_
    refine sk_iald (pc' := 106) X 0 1 rfl rfl dX5_notes_105 rfl ?_
    refine sk_imul (pc' := 107) X dX5_notes_106 rfl ?_
    refine sk_iadd (pc' := 108) X dX5_notes_107 rfl ?_
    refine sk_iconst (pc' := 109) X ic_1 dX5_notes_108 rfl ?_
    refine sk_iadd (pc' := 110) X dX5_notes_109 rfl ?_
    refine sk_iload_n (pc' := 111) X rfl dX5_notes_110 rfl ?_
    refine sk_iast (bs' := [(md_W G u0 (md_up N90 1 ((((258 : Int32) + ((2 : Int32) * ((N90.1 1) ((7 : Int32)).toNatClampNeg))) + (1 : Int32))).toNatClampNeg p1))]) (pc' := 112) X 0 1 rfl rfl (sk_st 0 (md_st_1 ..) rfl) dX5_notes_111 rfl ?_
    refine sk_lt (bsf := fun z => [(md_W G u0 z)]) (lvf := fun _ => [some (.ref (u0 0)), some (.int p1), none]) (stf := fun _ => []) (fun N111 => ?_)
    refine sk_aload_n (pc' := 113) X rfl dX5_notes_112 rfl ?_
    refine sk_getf (pc' := 116) X 0 0 0 in_RX5 rfl rfl rfl (Nat.le_of_ble_eq_true rfl) fl_RX5_7 rfl dX5_notes_113 rfl ?_
    refine sk_bipush (pc' := 118) X bp_7 dX5_notes_116 rfl ?_
    refine sk_dup2 (pc' := 119) X rfl rfl dX5_notes_118 rfl ?_
    refine sk_iald (pc' := 120) X 0 1 rfl rfl dX5_notes_119 rfl ?_
    refine sk_iconst (pc' := 121) X ic_1 dX5_notes_120 rfl ?_
    refine sk_iadd (pc' := 122) X dX5_notes_121 rfl ?_
    refine sk_iast (bs' := [(md_W G u0 (md_up N111 1 ((7 : Int32)).toNatClampNeg (((N111.1 1) ((7 : Int32)).toNatClampNeg) + (1 : Int32))))]) (pc' := 123) X 0 1 rfl rfl (sk_st 0 (md_st_1 ..) rfl) dX5_notes_122 rfl ?_
    refine sk_lt (bsf := fun z => [(md_W G u0 z)]) (lvf := fun _ => [some (.ref (u0 0)), some (.int p1), none]) (stf := fun _ => []) (fun N122 => ?_)
    exact sk_vret X rfl rfl dX5_notes_123
  have h22 : ∀ s22 : sk_M × Int32, sk_S Γ (sk_Φ Γ o_X5_notes (w_X5_notes G u0)) 0 0 (m_X5_notes_22 p1 s22) [(md_W G u0 s22.1)] [some (.ref (u0 0)), some (.int p1), some (.int s22.2)] 22 [] := by
    intro s22
    unfold m_X5_notes_22
    refine sk_loop (bsf := fun s22 => [(md_W G u0 s22.1)]) (lvf := fun s22 => [some (.ref (u0 0)), some (.int p1), some (.int s22.2)]) ?_ sk_fuel s22
    intro k22 s22 ih22
    unfold m_X5_notes_22_step
    refine sk_iload_n (pc' := 23) X rfl dX5_notes_22 rfl ?_
    refine sk_bipush (pc' := 25) X bp_118 dX5_notes_23 rfl ?_
    refine sk_icmp_ge (tgt := 56) (pc' := 28) X dX5_notes_25 rfl rfl ?_ ?_
    · refine sk_aload_n (pc' := 57) X rfl dX5_notes_56 rfl ?_
      refine sk_getf (pc' := 60) X 0 0 0 in_RX5 rfl rfl rfl (Nat.le_of_ble_eq_true rfl) fl_RX5_7 rfl dX5_notes_57 rfl ?_
      refine sk_bipush (pc' := 62) X bp_7 dX5_notes_60 rfl ?_
      refine sk_dup2 (pc' := 63) X rfl rfl dX5_notes_62 rfl ?_
      refine sk_iald (pc' := 64) X 0 1 rfl rfl dX5_notes_63 rfl ?_
      refine sk_iconst (pc' := 65) X ic_1 dX5_notes_64 rfl ?_
      refine sk_isub (pc' := 66) X dX5_notes_65 rfl ?_
      refine sk_iast (bs' := [(md_W G u0 (md_up s22.1 1 ((7 : Int32)).toNatClampNeg (((s22.1.1 1) ((7 : Int32)).toNatClampNeg) - (1 : Int32))))]) (pc' := 67) X 0 1 rfl rfl (sk_st 0 (md_st_1 ..) rfl) dX5_notes_66 rfl ?_
      refine sk_lt (bsf := fun z => [(md_W G u0 z)]) (lvf := fun _ => [some (.ref (u0 0)), some (.int p1), some (.int s22.2)]) (stf := fun _ => []) (fun N66 => ?_)
      exact (sk_kill 2 (h67 N66))
    · refine sk_aload_n (pc' := 29) X rfl dX5_notes_28 rfl ?_
      refine sk_getf (pc' := 32) X 0 0 0 in_RX5 rfl rfl rfl (Nat.le_of_ble_eq_true rfl) fl_RX5_7 rfl dX5_notes_29 rfl ?_
      refine sk_sipush (pc' := 35) X sp_258 dX5_notes_32 rfl ?_
      refine sk_iload_n (pc' := 36) X rfl dX5_notes_35 rfl ?_
      refine sk_iadd (pc' := 37) X dX5_notes_36 rfl ?_
      refine sk_aload_n (pc' := 38) X rfl dX5_notes_37 rfl ?_
      refine sk_getf (pc' := 41) X 0 0 0 in_RX5 rfl rfl rfl (Nat.le_of_ble_eq_true rfl) fl_RX5_7 rfl dX5_notes_38 rfl ?_
      refine sk_sipush (pc' := 44) X sp_258 dX5_notes_41 rfl ?_
      refine sk_iload_n (pc' := 45) X rfl dX5_notes_44 rfl ?_
      refine sk_iadd (pc' := 46) X dX5_notes_45 rfl ?_
      refine sk_iconst (pc' := 47) X ic_2 dX5_notes_46 rfl ?_
      refine sk_iadd (pc' := 48) X dX5_notes_47 rfl ?_
      refine sk_iald (pc' := 49) X 0 1 rfl rfl dX5_notes_48 rfl ?_
      refine sk_iast (bs' := [(md_W G u0 (md_up s22.1 1 (((258 : Int32) + s22.2)).toNatClampNeg ((s22.1.1 1) ((((258 : Int32) + s22.2) + (2 : Int32))).toNatClampNeg)))]) (pc' := 50) X 0 1 rfl rfl (sk_st 0 (md_st_1 ..) rfl) dX5_notes_49 rfl ?_
      refine sk_lt (bsf := fun z => [(md_W G u0 z)]) (lvf := fun _ => [some (.ref (u0 0)), some (.int p1), some (.int s22.2)]) (stf := fun _ => []) (fun N49 => ?_)
      refine sk_iinc (lv' := [some (.ref (u0 0)), some (.int p1), some (.int (s22.2 + (1 : Int32)))]) (pc' := 53) X rfl ic_1 (Nat.le_of_ble_eq_true rfl) rfl rfl dX5_notes_50 rfl ?_
      refine sk_goto (tgt := 22) X dX5_notes_53 rfl ?_
      exact (ih22 (N49, (s22.2 + (1 : Int32))))
  unfold m_X5_notes
  refine sk_aload_n (pc' := 1) X rfl dX5_notes_0 rfl ?_
  refine sk_getf (pc' := 4) X 0 0 10 in_RX5 rfl rfl rfl (Nat.le_of_ble_eq_true rfl) fl_RX5_119 rfl dX5_notes_1 rfl ?_
  refine sk_if_eq (tgt := 8) (pc' := 7) X dX5_notes_4 rfl rfl ?_ ?_
  · refine sk_aload_n (pc' := 9) X rfl dX5_notes_8 rfl ?_
    refine sk_getf (pc' := 12) X 0 0 0 in_RX5 rfl rfl rfl (Nat.le_of_ble_eq_true rfl) fl_RX5_7 rfl dX5_notes_9 rfl ?_
    refine sk_bipush (pc' := 14) X bp_7 dX5_notes_12 rfl ?_
    refine sk_iald (pc' := 15) X 0 1 rfl rfl dX5_notes_14 rfl ?_
    refine sk_bipush (pc' := 17) X bp_60 dX5_notes_15 rfl ?_
    refine sk_icmp_ne (tgt := 67) (pc' := 20) X dX5_notes_17 rfl rfl ?_ ?_
    · exact (h67 S0)
    · refine sk_iconst (pc' := 21) X ic_0 dX5_notes_20 rfl ?_
      refine sk_istore_n (lv' := [some (.ref (u0 0)), some (.int p1), some (.int (0 : Int32))]) (pc' := 22) X (Nat.le_of_ble_eq_true rfl) rfl rfl dX5_notes_21 rfl ?_
      exact (h22 (S0, (0 : Int32)))
  · exact sk_vret X rfl rfl dX5_notes_7
def rm_X5_fires : Room := { frames := 1, cells := 0, slots := 0, locals := 22 }
def o_X5_fires : (sk_M) → Option Value := fun r => none
def w_X5_fires (G : sk_G) (u0 : Nat → Nat) : (sk_M) → sk_B := fun r => [(md_W G u0 r)]
set_option maxHeartbeats 4000000 in
set_option maxRecDepth 100000 in
theorem c_X5_fires (l : Launch) (G : sk_G) (u0 : Nat → Nat) (S0 : sk_M) (p1 : Int32) : sk_ctr l G yX5_fires cX5_fires 3 none rm_X5_fires [.ref (u0 0), .int p1] [(md_W G u0 S0)] (m_X5_fires S0 p1) o_X5_fires (w_X5_fires G u0) := by
  refine sk_entry (own := RX5) (by decide) rfl (lv0 := [some (.ref (u0 0)), some (.int p1), none]) rfl (Nat.le_of_ble_eq_true rfl) ?_
  intro Γ X
  have h70 : ∀ s70 : sk_M × Int32, sk_S Γ (sk_Φ Γ o_X5_fires (w_X5_fires G u0)) 0 0 (m_X5_fires_70 p1 s70) [(md_W G u0 s70.1)] [some (.ref (u0 0)), some (.int p1), some (.int s70.2)] 70 [] := by
    intro s70
    unfold m_X5_fires_70
    refine sk_loop (bsf := fun s70 => [(md_W G u0 s70.1)]) (lvf := fun s70 => [some (.ref (u0 0)), some (.int p1), some (.int s70.2)]) ?_ sk_fuel s70
    intro k70 s70 ih70
    unfold m_X5_fires_70_step
    refine sk_iload_n (pc' := 71) X rfl dX5_fires_70 rfl ?_
    refine sk_aload_n (pc' := 72) X rfl dX5_fires_71 rfl ?_
    refine sk_getf (pc' := 75) X 0 0 0 in_RX5 rfl rfl rfl (Nat.le_of_ble_eq_true rfl) fl_RX5_7 rfl dX5_fires_72 rfl ?_
    refine sk_iconst (pc' := 76) X ic_5 dX5_fires_75 rfl ?_
    refine sk_iald (pc' := 77) X 0 1 rfl rfl dX5_fires_76 rfl ?_
    refine sk_icmp_ge (tgt := 121) (pc' := 80) X dX5_fires_77 rfl rfl ?_ ?_
    · refine sk_aload_n (pc' := 122) X rfl dX5_fires_121 rfl ?_
      refine sk_iload_n (pc' := 123) X rfl dX5_fires_122 rfl ?_
      refine sk_callV (bs2 := fun r123 => [(md_W G u0 r123)]) (st := []) (st2 := fun r123 => []) (As := [.int p1]) (pc' := 126) X (c_X5_notes l G u0 s70.1 p1) lk_RX5_126 [0] rfl (by decide) (fun _ => rfl) rfl rfl rfl ⟨(Nat.le_of_ble_eq_true rfl), (Nat.le_of_ble_eq_true rfl)⟩ ⟨rfl, rfl⟩ ⟨(Nat.le_of_ble_eq_true rfl), (Nat.le_of_ble_eq_true rfl)⟩ rfl (Nat.le_of_ble_eq_true rfl) rfl dX5_fires_123 rfl (fun _ => rfl) (fun _ => rfl) (fun r123 => ?_)
      exact sk_vret X rfl rfl dX5_fires_126
    · refine sk_aload_n (pc' := 81) X rfl dX5_fires_80 rfl ?_
      refine sk_iload_n (pc' := 82) X rfl dX5_fires_81 rfl ?_
      refine sk_iload_n (pc' := 83) X rfl dX5_fires_82 rfl ?_
      refine sk_callV (bs2 := fun r83 => [(md_W G u0 s70.1)]) (st := []) (st2 := fun r83 => [.int r83]) (As := [.int p1, .int s70.2]) (pc' := 86) X (c_X5_delay l G u0 s70.1 p1 s70.2) lk_RX5_78 [0] rfl (by decide) (fun _ => rfl) rfl rfl rfl ⟨(Nat.le_of_ble_eq_true rfl), (Nat.le_of_ble_eq_true rfl)⟩ ⟨rfl, rfl⟩ ⟨(Nat.le_of_ble_eq_true rfl), (Nat.le_of_ble_eq_true rfl)⟩ rfl (Nat.le_of_ble_eq_true rfl) rfl dX5_fires_83 rfl (fun _ => rfl) (fun _ => rfl) (fun r83 => ?_)
      refine sk_if_le (tgt := 115) (pc' := 89) X dX5_fires_86 rfl rfl ?_ ?_
      · refine sk_iinc (lv' := [some (.ref (u0 0)), some (.int p1), some (.int (s70.2 + (1 : Int32)))]) (pc' := 118) X rfl ic_1 (Nat.le_of_ble_eq_true rfl) rfl rfl dX5_fires_115 rfl ?_
        refine sk_goto (tgt := 70) X dX5_fires_118 rfl ?_
        exact (ih70 (s70.1, (s70.2 + (1 : Int32))))
      · refine sk_aload_n (pc' := 90) X rfl dX5_fires_89 rfl ?_
        refine sk_getf (pc' := 93) X 0 0 0 in_RX5 rfl rfl rfl (Nat.le_of_ble_eq_true rfl) fl_RX5_7 rfl dX5_fires_90 rfl ?_
        refine sk_sipush (pc' := 96) X sp_158 dX5_fires_93 rfl ?_
        refine sk_bipush (pc' := 98) X bp_10 dX5_fires_96 rfl ?_
        refine sk_iload_n (pc' := 99) X rfl dX5_fires_98 rfl ?_
        refine sk_imul (pc' := 100) X dX5_fires_99 rfl ?_
        refine sk_iadd (pc' := 101) X dX5_fires_100 rfl ?_
        refine sk_iload_n (pc' := 102) X rfl dX5_fires_101 rfl ?_
        refine sk_iadd (pc' := 103) X dX5_fires_102 rfl ?_
        refine sk_dup2 (pc' := 104) X rfl rfl dX5_fires_103 rfl ?_
        refine sk_iald (pc' := 105) X 0 1 rfl rfl dX5_fires_104 rfl ?_
        refine sk_iconst (pc' := 106) X ic_1 dX5_fires_105 rfl ?_
        refine sk_aload_n (pc' := 107) X rfl dX5_fires_106 rfl ?_
        refine sk_iload_n (pc' := 108) X rfl dX5_fires_107 rfl ?_
        refine sk_iload_n (pc' := 109) X rfl dX5_fires_108 rfl ?_
        refine sk_callV (bs2 := fun r109 => [(md_W G u0 s70.1)]) (st := [.int (1 : Int32), .int ((s70.1.1 1) ((((158 : Int32) + ((10 : Int32) * p1)) + s70.2)).toNatClampNeg), .int (((158 : Int32) + ((10 : Int32) * p1)) + s70.2), .ref (u0 1)]) (st2 := fun r109 => [.int r109, .int (1 : Int32), .int ((s70.1.1 1) ((((158 : Int32) + ((10 : Int32) * p1)) + s70.2)).toNatClampNeg), .int (((158 : Int32) + ((10 : Int32) * p1)) + s70.2), .ref (u0 1)]) (As := [.int p1, .int s70.2]) (pc' := 112) X (c_X5_delay l G u0 s70.1 p1 s70.2) lk_RX5_78 [0] rfl (by decide) (fun _ => rfl) rfl rfl rfl ⟨(Nat.le_of_ble_eq_true rfl), (Nat.le_of_ble_eq_true rfl)⟩ ⟨rfl, rfl⟩ ⟨(Nat.le_of_ble_eq_true rfl), (Nat.le_of_ble_eq_true rfl)⟩ rfl (Nat.le_of_ble_eq_true rfl) rfl dX5_fires_109 rfl (fun _ => rfl) (fun _ => rfl) (fun r109 => ?_)
        refine sk_ishl (pc' := 113) X dX5_fires_112 rfl ?_
        refine sk_ior (pc' := 114) X dX5_fires_113 rfl ?_
        refine sk_iast (bs' := [(md_W G u0 (md_up s70.1 1 ((((158 : Int32) + ((10 : Int32) * p1)) + s70.2)).toNatClampNeg (((s70.1.1 1) ((((158 : Int32) + ((10 : Int32) * p1)) + s70.2)).toNatClampNeg) ||| (sk_shl (1 : Int32) r109))))]) (pc' := 115) X 0 1 rfl rfl (sk_st 0 (md_st_1 ..) rfl) dX5_fires_114 rfl ?_
        refine sk_lt (bsf := fun z => [(md_W G u0 z)]) (lvf := fun _ => [some (.ref (u0 0)), some (.int p1), some (.int s70.2)]) (stf := fun _ => []) (fun N114 => ?_)
        refine sk_iinc (lv' := [some (.ref (u0 0)), some (.int p1), some (.int (s70.2 + (1 : Int32)))]) (pc' := 118) X rfl ic_1 (Nat.le_of_ble_eq_true rfl) rfl rfl dX5_fires_115 rfl ?_
        refine sk_goto (tgt := 70) X dX5_fires_118 rfl ?_
        exact (ih70 (N114, (s70.2 + (1 : Int32))))
  have h67 : ∀ s67 : sk_M × Int32 × Int32, sk_S Γ (sk_Φ Γ o_X5_fires (w_X5_fires G u0)) 0 0 (m_X5_fires_67 p1 s67) [(md_W G u0 s67.1)] [some (.ref (u0 0)), some (.int p1), none] 67 [.int s67.2.2, .int s67.2.1, .ref (u0 1)] := by
    intro s67
    unfold m_X5_fires_67
    refine sk_iast (bs' := [(md_W G u0 (md_up s67.1 1 (s67.2.1).toNatClampNeg s67.2.2))]) (pc' := 68) X 0 1 rfl rfl (sk_st 0 (md_st_1 ..) rfl) dX5_fires_67 rfl ?_
    refine sk_lt (bsf := fun z => [(md_W G u0 z)]) (lvf := fun _ => [some (.ref (u0 0)), some (.int p1), none]) (stf := fun _ => []) (fun N67 => ?_)
    refine sk_iconst (pc' := 69) X ic_0 dX5_fires_68 rfl ?_
    refine sk_istore_n (lv' := [some (.ref (u0 0)), some (.int p1), some (.int (0 : Int32))]) (pc' := 70) X (Nat.le_of_ble_eq_true rfl) rfl rfl dX5_fires_69 rfl ?_
    exact (h70 (N67, (0 : Int32)))
  unfold m_X5_fires
  refine sk_aload_n (pc' := 1) X rfl dX5_fires_0 rfl ?_
  refine sk_getf (pc' := 4) X 0 0 7 in_RX5 rfl rfl rfl (Nat.le_of_ble_eq_true rfl) fl_RX5_22 rfl dX5_fires_1 rfl ?_
  refine sk_aload_n (pc' := 5) X rfl dX5_fires_4 rfl ?_
  refine sk_getf (pc' := 8) X 0 0 8 in_RX5 rfl rfl rfl (Nat.le_of_ble_eq_true rfl) fl_RX5_123 rfl dX5_fires_5 rfl ?_
  refine sk_iload_n (pc' := 9) X rfl dX5_fires_8 rfl ?_
  refine sk_iast (bs' := [(md_W G u0 (md_up S0 5 ((S0.1 0 8)).toNatClampNeg p1))]) (pc' := 10) X 0 5 rfl rfl (sk_st 0 (md_st_5 ..) rfl) dX5_fires_9 rfl ?_
  refine sk_lt (bsf := fun z => [(md_W G u0 z)]) (lvf := fun _ => [some (.ref (u0 0)), some (.int p1), none]) (stf := fun _ => []) (fun N9 => ?_)
  refine sk_aload_n (pc' := 11) X rfl dX5_fires_10 rfl ?_
  refine sk_dup (pc' := 12) X rfl dX5_fires_11 rfl ?_
  refine sk_getf (pc' := 15) X 0 0 8 in_RX5 rfl rfl rfl (Nat.le_of_ble_eq_true rfl) fl_RX5_123 rfl dX5_fires_12 rfl ?_
  refine sk_iconst (pc' := 16) X ic_1 dX5_fires_15 rfl ?_
  refine sk_iadd (pc' := 17) X dX5_fires_16 rfl ?_
  refine sk_putf (bs' := [(md_W G u0 (md_up N9 0 8 ((N9.1 0 8) + (1 : Int32))))]) (pc' := 20) X 0 0 8 in_RX5 tyX5 tyX5_ok nmX5 rfl rfl rfl (Nat.le_of_ble_eq_true rfl) fl_RX5_123 rfl (tyX5_ok 8 (Nat.le_of_ble_eq_true rfl)) rfl rfl (Nat.le_of_ble_eq_true rfl) (sk_st 0 (md_pf_8 ..) rfl) dX5_fires_17 rfl ?_
  refine sk_lt (bsf := fun z => [(md_W G u0 z)]) (lvf := fun _ => [some (.ref (u0 0)), some (.int p1), none]) (stf := fun _ => []) (fun N17 => ?_)
  refine sk_aload_n (pc' := 21) X rfl dX5_fires_20 rfl ?_
  refine sk_getf (pc' := 24) X 0 0 0 in_RX5 rfl rfl rfl (Nat.le_of_ble_eq_true rfl) fl_RX5_7 rfl dX5_fires_21 rfl ?_
  refine sk_bipush (pc' := 26) X bp_6 dX5_fires_24 rfl ?_
  refine sk_dup2 (pc' := 27) X rfl rfl dX5_fires_26 rfl ?_
  refine sk_iald (pc' := 28) X 0 1 rfl rfl dX5_fires_27 rfl ?_
  refine sk_iconst (pc' := 29) X ic_1 dX5_fires_28 rfl ?_
  refine sk_iload_n (pc' := 30) X rfl dX5_fires_29 rfl ?_
  refine sk_ishl (pc' := 31) X dX5_fires_30 rfl ?_
  refine sk_ior (pc' := 32) X dX5_fires_31 rfl ?_
  refine sk_iast (bs' := [(md_W G u0 (md_up N17 1 ((6 : Int32)).toNatClampNeg (((N17.1 1) ((6 : Int32)).toNatClampNeg) ||| (sk_shl (1 : Int32) p1))))]) (pc' := 33) X 0 1 rfl rfl (sk_st 0 (md_st_1 ..) rfl) dX5_fires_32 rfl ?_
  refine sk_lt (bsf := fun z => [(md_W G u0 z)]) (lvf := fun _ => [some (.ref (u0 0)), some (.int p1), none]) (stf := fun _ => []) (fun N32 => ?_)
  refine sk_aload_n (pc' := 34) X rfl dX5_fires_33 rfl ?_
  refine sk_getf (pc' := 37) X 0 0 0 in_RX5 rfl rfl rfl (Nat.le_of_ble_eq_true rfl) fl_RX5_7 rfl dX5_fires_34 rfl ?_
  refine sk_bipush (pc' := 39) X bp_8 dX5_fires_37 rfl ?_
  refine sk_iload_n (pc' := 40) X rfl dX5_fires_39 rfl ?_
  refine sk_iadd (pc' := 41) X dX5_fires_40 rfl ?_
  refine sk_aload_n (pc' := 42) X rfl dX5_fires_41 rfl ?_
  refine sk_getf (pc' := 45) X 0 0 0 in_RX5 rfl rfl rfl (Nat.le_of_ble_eq_true rfl) fl_RX5_7 rfl dX5_fires_42 rfl ?_
  refine sk_bipush (pc' := 47) X bp_28 dX5_fires_45 rfl ?_
  refine sk_iload_n (pc' := 48) X rfl dX5_fires_47 rfl ?_
  refine sk_iadd (pc' := 49) X dX5_fires_48 rfl ?_
  refine sk_iald (pc' := 50) X 0 1 rfl rfl dX5_fires_49 rfl ?_
  refine sk_iconst (pc' := 51) X ic_1 dX5_fires_50 rfl ?_
  refine sk_icmp_ne (tgt := 66) (pc' := 54) X dX5_fires_51 rfl rfl ?_ ?_
  · refine sk_iconst (pc' := 67) X ic_0 dX5_fires_66 rfl ?_
    exact (h67 (N32, ((8 : Int32) + p1), (0 : Int32)))
  · refine sk_aload_n (pc' := 55) X rfl dX5_fires_54 rfl ?_
    refine sk_getf (pc' := 58) X 0 0 0 in_RX5 rfl rfl rfl (Nat.le_of_ble_eq_true rfl) fl_RX5_7 rfl dX5_fires_55 rfl ?_
    refine sk_bipush (pc' := 60) X bp_8 dX5_fires_58 rfl ?_
    refine sk_iload_n (pc' := 61) X rfl dX5_fires_60 rfl ?_
    refine sk_iadd (pc' := 62) X dX5_fires_61 rfl ?_
    refine sk_iald (pc' := 63) X 0 1 rfl rfl dX5_fires_62 rfl ?_
    refine sk_goto (tgt := 67) X dX5_fires_63 rfl ?_
    exact (h67 (N32, ((8 : Int32) + p1), ((N32.1 1) (((8 : Int32) + p1)).toNatClampNeg)))
def rm_X5_reaches : Room := { frames := 2, cells := 0, slots := 0, locals := 44 }
def o_X5_reaches : (sk_M) → Option Value := fun r => none
def w_X5_reaches (G : sk_G) (u0 : Nat → Nat) : (sk_M) → sk_B := fun r => [(md_W G u0 r)]
set_option maxHeartbeats 4000000 in
set_option maxRecDepth 100000 in
theorem c_X5_reaches (l : Launch) (G : sk_G) (u0 : Nat → Nat) (S0 : sk_M) (p1 : Int32) : sk_ctr l G yX5_reaches cX5_reaches 5 none rm_X5_reaches [.ref (u0 0), .int p1] [(md_W G u0 S0)] (m_X5_reaches S0 p1) o_X5_reaches (w_X5_reaches G u0) := by
  refine sk_entry (own := RX5) (by decide) rfl (lv0 := [some (.ref (u0 0)), some (.int p1), none, none, none]) rfl (Nat.le_of_ble_eq_true rfl) ?_
  intro Γ X
  have h103 : ∀ s103 : sk_M × Int32 × Int32, sk_S Γ (sk_Φ Γ o_X5_reaches (w_X5_reaches G u0)) 0 0 (m_X5_reaches_103 p1 s103) [(md_W G u0 s103.1)] [some (.ref (u0 0)), some (.int p1), some (.int s103.2.1), none, none] 103 [.int s103.2.2] := by
    intro s103
    unfold m_X5_reaches_103
    refine sk_istore (lv' := [some (.ref (u0 0)), some (.int p1), some (.int s103.2.1), none, some (.int s103.2.2)]) (pc' := 105) X (Nat.le_of_ble_eq_true rfl) rfl rfl dX5_reaches_103 rfl ?_
    refine sk_aload_n (pc' := 106) X rfl dX5_reaches_105 rfl ?_
    refine sk_getf (pc' := 109) X 0 0 0 in_RX5 rfl rfl rfl (Nat.le_of_ble_eq_true rfl) fl_RX5_7 rfl dX5_reaches_106 rfl ?_
    refine sk_bipush (pc' := 111) X bp_8 dX5_reaches_109 rfl ?_
    refine sk_iload_n (pc' := 112) X rfl dX5_reaches_111 rfl ?_
    refine sk_iadd (pc' := 113) X dX5_reaches_112 rfl ?_
    refine sk_iload_n (pc' := 114) X rfl dX5_reaches_113 rfl ?_
    refine sk_iload (pc' := 116) X rfl dX5_reaches_114 rfl ?_
    refine sk_iadd (pc' := 117) X dX5_reaches_116 rfl ?_
    refine sk_iast (bs' := [(md_W G u0 (md_up s103.1 1 (((8 : Int32) + p1)).toNatClampNeg (s103.2.1 + s103.2.2)))]) (pc' := 118) X 0 1 rfl rfl (sk_st 0 (md_st_1 ..) rfl) dX5_reaches_117 rfl ?_
    refine sk_lt (bsf := fun z => [(md_W G u0 z)]) (lvf := fun _ => [some (.ref (u0 0)), some (.int p1), some (.int s103.2.1), none, some (.int s103.2.2)]) (stf := fun _ => []) (fun N117 => ?_)
    refine sk_iload_n (pc' := 119) X rfl dX5_reaches_118 rfl ?_
    refine sk_iload (pc' := 121) X rfl dX5_reaches_119 rfl ?_
    refine sk_iadd (pc' := 122) X dX5_reaches_121 rfl ?_
    refine sk_aload_n (pc' := 123) X rfl dX5_reaches_122 rfl ?_
    refine sk_getf (pc' := 126) X 0 0 0 in_RX5 rfl rfl rfl (Nat.le_of_ble_eq_true rfl) fl_RX5_7 rfl dX5_reaches_123 rfl ?_
    refine sk_iconst (pc' := 127) X ic_0 dX5_reaches_126 rfl ?_
    refine sk_iald (pc' := 128) X 0 1 rfl rfl dX5_reaches_127 rfl ?_
    refine sk_icmp_lt (tgt := 136) (pc' := 131) X dX5_reaches_128 rfl rfl ?_ ?_
    · exact sk_vret X rfl rfl dX5_reaches_136
    · refine sk_aload_n (pc' := 132) X rfl dX5_reaches_131 rfl ?_
      refine sk_iload_n (pc' := 133) X rfl dX5_reaches_132 rfl ?_
      refine sk_callV (bs2 := fun r133 => [(md_W G u0 r133)]) (st := []) (st2 := fun r133 => []) (As := [.int p1]) (pc' := 136) X (c_X5_fires l G u0 N117 p1) lk_RX5_130 [0] rfl (by decide) (fun _ => rfl) rfl rfl rfl ⟨(Nat.le_of_ble_eq_true rfl), (Nat.le_of_ble_eq_true rfl)⟩ ⟨rfl, rfl⟩ ⟨(Nat.le_of_ble_eq_true rfl), (Nat.le_of_ble_eq_true rfl)⟩ rfl (Nat.le_of_ble_eq_true rfl) rfl dX5_reaches_133 rfl (fun _ => rfl) (fun _ => rfl) (fun r133 => ?_)
      exact sk_vret X rfl rfl dX5_reaches_136
  unfold m_X5_reaches
  refine sk_aload_n (pc' := 1) X rfl dX5_reaches_0 rfl ?_
  refine sk_getf (pc' := 4) X 0 0 0 in_RX5 rfl rfl rfl (Nat.le_of_ble_eq_true rfl) fl_RX5_7 rfl dX5_reaches_1 rfl ?_
  refine sk_bipush (pc' := 6) X bp_8 dX5_reaches_4 rfl ?_
  refine sk_iload_n (pc' := 7) X rfl dX5_reaches_6 rfl ?_
  refine sk_iadd (pc' := 8) X dX5_reaches_7 rfl ?_
  refine sk_iald (pc' := 9) X 0 1 rfl rfl dX5_reaches_8 rfl ?_
  refine sk_istore_n (lv' := [some (.ref (u0 0)), some (.int p1), some (.int ((S0.1 1) (((8 : Int32) + p1)).toNatClampNeg)), none, none]) (pc' := 10) X (Nat.le_of_ble_eq_true rfl) rfl rfl dX5_reaches_9 rfl ?_
  refine sk_lt (bsf := fun _ => [(md_W G u0 S0)]) (lvf := fun z => [some (.ref (u0 0)), some (.int p1), some (.int z), none, none]) (stf := fun _ => []) (fun x9 => ?_)
  refine sk_aload_n (pc' := 11) X rfl dX5_reaches_10 rfl ?_
  refine sk_getf (pc' := 14) X 0 0 0 in_RX5 rfl rfl rfl (Nat.le_of_ble_eq_true rfl) fl_RX5_7 rfl dX5_reaches_11 rfl ?_
  refine sk_bipush (pc' := 16) X bp_28 dX5_reaches_14 rfl ?_
  refine sk_iload_n (pc' := 17) X rfl dX5_reaches_16 rfl ?_
  refine sk_iadd (pc' := 18) X dX5_reaches_17 rfl ?_
  refine sk_iald (pc' := 19) X 0 1 rfl rfl dX5_reaches_18 rfl ?_
  refine sk_iconst (pc' := 20) X ic_1 dX5_reaches_19 rfl ?_
  refine sk_icmp_eq (tgt := 48) (pc' := 23) X dX5_reaches_20 rfl rfl ?_ ?_
  · exact sk_vret X rfl rfl dX5_reaches_48
  · refine sk_iload_n (pc' := 24) X rfl dX5_reaches_23 rfl ?_
    refine sk_aload_n (pc' := 25) X rfl dX5_reaches_24 rfl ?_
    refine sk_getf (pc' := 28) X 0 0 0 in_RX5 rfl rfl rfl (Nat.le_of_ble_eq_true rfl) fl_RX5_7 rfl dX5_reaches_25 rfl ?_
    refine sk_iconst (pc' := 29) X ic_1 dX5_reaches_28 rfl ?_
    refine sk_iald (pc' := 30) X 0 1 rfl rfl dX5_reaches_29 rfl ?_
    refine sk_icmp_lt (tgt := 48) (pc' := 33) X dX5_reaches_30 rfl rfl ?_ ?_
    · exact sk_vret X rfl rfl dX5_reaches_48
    · refine sk_aload_n (pc' := 34) X rfl dX5_reaches_33 rfl ?_
      refine sk_getf (pc' := 37) X 0 0 0 in_RX5 rfl rfl rfl (Nat.le_of_ble_eq_true rfl) fl_RX5_7 rfl dX5_reaches_34 rfl ?_
      refine sk_bipush (pc' := 39) X bp_6 dX5_reaches_37 rfl ?_
      refine sk_iald (pc' := 40) X 0 1 rfl rfl dX5_reaches_39 rfl ?_
      refine sk_iload_n (pc' := 41) X rfl dX5_reaches_40 rfl ?_
      refine sk_ishr (pc' := 42) X dX5_reaches_41 rfl ?_
      refine sk_iconst (pc' := 43) X ic_1 dX5_reaches_42 rfl ?_
      refine sk_iand (pc' := 44) X dX5_reaches_43 rfl ?_
      refine sk_iconst (pc' := 45) X ic_1 dX5_reaches_44 rfl ?_
      refine sk_icmp_ne (tgt := 49) (pc' := 48) X dX5_reaches_45 rfl rfl ?_ ?_
      · refine sk_aload_n (pc' := 50) X rfl dX5_reaches_49 rfl ?_
        refine sk_getf (pc' := 53) X 0 0 0 in_RX5 rfl rfl rfl (Nat.le_of_ble_eq_true rfl) fl_RX5_7 rfl dX5_reaches_50 rfl ?_
        refine sk_iconst (pc' := 54) X ic_2 dX5_reaches_53 rfl ?_
        refine sk_iald (pc' := 55) X 0 1 rfl rfl dX5_reaches_54 rfl ?_
        refine sk_istore_n (lv' := [some (.ref (u0 0)), some (.int p1), some (.int x9), some (.int ((S0.1 1) ((2 : Int32)).toNatClampNeg)), none]) (pc' := 56) X (Nat.le_of_ble_eq_true rfl) rfl rfl dX5_reaches_55 rfl ?_
        refine sk_lt (bsf := fun _ => [(md_W G u0 S0)]) (lvf := fun z => [some (.ref (u0 0)), some (.int p1), some (.int x9), some (.int z), none]) (stf := fun _ => []) (fun x55 => ?_)
        refine sk_aload_n (pc' := 57) X rfl dX5_reaches_56 rfl ?_
        refine sk_getf (pc' := 60) X 0 0 0 in_RX5 rfl rfl rfl (Nat.le_of_ble_eq_true rfl) fl_RX5_7 rfl dX5_reaches_57 rfl ?_
        refine sk_iconst (pc' := 61) X ic_3 dX5_reaches_60 rfl ?_
        refine sk_iald (pc' := 62) X 0 1 rfl rfl dX5_reaches_61 rfl ?_
        refine sk_if_ne (tgt := 74) (pc' := 65) X dX5_reaches_62 rfl rfl ?_ ?_
        · refine sk_aload_n (pc' := 75) X rfl dX5_reaches_74 rfl ?_
          refine sk_getf (pc' := 78) X 0 0 0 in_RX5 rfl rfl rfl (Nat.le_of_ble_eq_true rfl) fl_RX5_7 rfl dX5_reaches_75 rfl ?_
          refine sk_iconst (pc' := 79) X ic_3 dX5_reaches_78 rfl ?_
          refine sk_iald (pc' := 80) X 0 1 rfl rfl dX5_reaches_79 rfl ?_
          refine sk_iconst (pc' := 81) X ic_1 dX5_reaches_80 rfl ?_
          refine sk_icmp_ne (tgt := 88) (pc' := 84) X dX5_reaches_81 rfl rfl ?_ ?_
          · refine sk_iload_n (pc' := 89) X rfl dX5_reaches_88 rfl ?_
            refine sk_iload_n (pc' := 90) X rfl dX5_reaches_89 rfl ?_
            refine sk_imul (pc' := 91) X dX5_reaches_90 rfl ?_
            refine sk_iload_n (pc' := 92) X rfl dX5_reaches_91 rfl ?_
            refine sk_imul (pc' := 93) X dX5_reaches_92 rfl ?_
            refine sk_bipush (pc' := 95) X bp_16 dX5_reaches_93 rfl ?_
            refine sk_aload_n (pc' := 96) X rfl dX5_reaches_95 rfl ?_
            refine sk_getf (pc' := 99) X 0 0 0 in_RX5 rfl rfl rfl (Nat.le_of_ble_eq_true rfl) fl_RX5_7 rfl dX5_reaches_96 rfl ?_
            refine sk_iconst (pc' := 100) X ic_0 dX5_reaches_99 rfl ?_
            refine sk_iald (pc' := 101) X 0 1 rfl rfl dX5_reaches_100 rfl ?_
            refine sk_imul (pc' := 102) X dX5_reaches_101 rfl ?_
            refine sk_idiv (pc' := 103) X dX5_reaches_102 rfl ?_
            exact (sk_kill 3 (h103 (S0, x9, (((x9 * x9) * x55) / ((16 : Int32) * ((S0.1 1) ((0 : Int32)).toNatClampNeg))))))
          · refine sk_iload_n (pc' := 85) X rfl dX5_reaches_84 rfl ?_
            refine sk_goto (tgt := 103) X dX5_reaches_85 rfl ?_
            exact (sk_kill 3 (h103 (S0, x9, x55)))
        · refine sk_iload_n (pc' := 66) X rfl dX5_reaches_65 rfl ?_
          refine sk_iload_n (pc' := 67) X rfl dX5_reaches_66 rfl ?_
          refine sk_imul (pc' := 68) X dX5_reaches_67 rfl ?_
          refine sk_bipush (pc' := 70) X bp_16 dX5_reaches_68 rfl ?_
          refine sk_idiv (pc' := 71) X dX5_reaches_70 rfl ?_
          refine sk_goto (tgt := 103) X dX5_reaches_71 rfl ?_
          exact (sk_kill 3 (h103 (S0, x9, ((x9 * x55) / (16 : Int32)))))
      · exact sk_vret X rfl rfl dX5_reaches_48
def rm_X5_stepOf : Room := { frames := 0, cells := 0, slots := 0, locals := 0 }
def o_X5_stepOf : (Int32) → Option Value := fun r => some (.int r)
def w_X5_stepOf (G : sk_G) (u0 : Nat → Nat) (S0 : sk_M) : (Int32) → sk_B := fun r => [(md_W G u0 S0)]
set_option maxHeartbeats 4000000 in
set_option maxRecDepth 100000 in
theorem c_X5_stepOf (l : Launch) (G : sk_G) (u0 : Nat → Nat) (S0 : sk_M) (p1 : Int32) : sk_ctr l G yX5_stepOf cX5_stepOf 4 (some .int) rm_X5_stepOf [.ref (u0 0), .int p1] [(md_W G u0 S0)] (m_X5_stepOf S0 p1) o_X5_stepOf (w_X5_stepOf G u0 S0) := by
  refine sk_entry (own := RX5) (by decide) rfl (lv0 := [some (.ref (u0 0)), some (.int p1), none, none]) rfl (Nat.le_of_ble_eq_true rfl) ?_
  intro Γ X
  have h30 : ∀ s30 : Int32 × Int32, sk_S Γ (sk_Φ Γ o_X5_stepOf (w_X5_stepOf G u0 S0)) 0 0 (m_X5_stepOf_30 S0 p1 s30) [(md_W G u0 S0)] [none, none, some (.int s30.1), none] 30 [.int s30.2] := by
    intro s30
    unfold m_X5_stepOf_30
    refine sk_istore_n (lv' := [none, none, some (.int s30.1), some (.int s30.2)]) (pc' := 31) X (Nat.le_of_ble_eq_true rfl) rfl rfl dX5_stepOf_30 rfl ?_
    refine sk_iload_n (pc' := 32) X rfl dX5_stepOf_31 rfl ?_
    refine sk_if_ne (tgt := 39) (pc' := 35) X dX5_stepOf_32 rfl rfl ?_ ?_
    · refine sk_iload_n (pc' := 40) X rfl dX5_stepOf_39 rfl ?_
      refine sk_if_le (tgt := 47) (pc' := 43) X dX5_stepOf_40 rfl rfl ?_ ?_
      · refine sk_iconst (pc' := 48) X ic_0 dX5_stepOf_47 rfl ?_
        exact sk_iret X rfl rfl dX5_stepOf_48
      · refine sk_iconst (pc' := 44) X ic_2 dX5_stepOf_43 rfl ?_
        refine sk_goto (tgt := 48) X dX5_stepOf_44 rfl ?_
        exact sk_iret X rfl rfl dX5_stepOf_48
    · refine sk_iconst (pc' := 36) X ic_1 dX5_stepOf_35 rfl ?_
      refine sk_goto (tgt := 48) X dX5_stepOf_36 rfl ?_
      exact sk_iret X rfl rfl dX5_stepOf_48
  have h29 : ∀ s29 : Int32, sk_S Γ (sk_Φ Γ o_X5_stepOf (w_X5_stepOf G u0 S0)) 0 0 (m_X5_stepOf_29 S0 p1 s29) [(md_W G u0 S0)] [none, none, some (.int s29), none] 29 [] := by
    intro s29
    unfold m_X5_stepOf_29
    refine sk_iconst (pc' := 30) X ic_0 dX5_stepOf_29 rfl ?_
    exact (h30 (s29, (0 : Int32)))
  unfold m_X5_stepOf
  refine sk_aload_n (pc' := 1) X rfl dX5_stepOf_0 rfl ?_
  refine sk_getf (pc' := 4) X 0 0 0 in_RX5 rfl rfl rfl (Nat.le_of_ble_eq_true rfl) fl_RX5_7 rfl dX5_stepOf_1 rfl ?_
  refine sk_bipush (pc' := 6) X bp_18 dX5_stepOf_4 rfl ?_
  refine sk_iload_n (pc' := 7) X rfl dX5_stepOf_6 rfl ?_
  refine sk_iadd (pc' := 8) X dX5_stepOf_7 rfl ?_
  refine sk_iald (pc' := 9) X 0 1 rfl rfl dX5_stepOf_8 rfl ?_
  refine sk_istore_n (lv' := [some (.ref (u0 0)), some (.int p1), some (.int ((S0.1 1) (((18 : Int32) + p1)).toNatClampNeg)), none]) (pc' := 10) X (Nat.le_of_ble_eq_true rfl) rfl rfl dX5_stepOf_9 rfl ?_
  refine sk_lt (bsf := fun _ => [(md_W G u0 S0)]) (lvf := fun z => [some (.ref (u0 0)), some (.int p1), some (.int z), none]) (stf := fun _ => []) (fun x9 => ?_)
  refine sk_iload_n (pc' := 11) X rfl dX5_stepOf_10 rfl ?_
  refine sk_if_eq (tgt := 29) (pc' := 14) X dX5_stepOf_11 rfl rfl ?_ ?_
  · exact (sk_kill 1 (sk_kill 0 (h29 x9)))
  · refine sk_aload_n (pc' := 15) X rfl dX5_stepOf_14 rfl ?_
    refine sk_getf (pc' := 18) X 0 0 0 in_RX5 rfl rfl rfl (Nat.le_of_ble_eq_true rfl) fl_RX5_7 rfl dX5_stepOf_15 rfl ?_
    refine sk_iconst (pc' := 19) X ic_4 dX5_stepOf_18 rfl ?_
    refine sk_iald (pc' := 20) X 0 1 rfl rfl dX5_stepOf_19 rfl ?_
    refine sk_iload_n (pc' := 21) X rfl dX5_stepOf_20 rfl ?_
    refine sk_irem (pc' := 22) X dX5_stepOf_21 rfl ?_
    refine sk_if_ne (tgt := 29) (pc' := 25) X dX5_stepOf_22 rfl rfl ?_ ?_
    · exact (sk_kill 1 (sk_kill 0 (h29 x9)))
    · refine sk_iconst (pc' := 26) X ic_1 dX5_stepOf_25 rfl ?_
      refine sk_goto (tgt := 30) X dX5_stepOf_26 rfl ?_
      exact (sk_kill 1 (sk_kill 0 (h30 (x9, (1 : Int32)))))
def rm_X5_ticks : Room := { frames := 3, cells := 0, slots := 0, locals := 68 }
def o_X5_ticks : (Int32 × sk_M) → Option Value := fun r => some (.int r.1)
def w_X5_ticks (G : sk_G) (u0 : Nat → Nat) : (Int32 × sk_M) → sk_B := fun r => [(md_W G u0 r.2)]
set_option maxHeartbeats 4000000 in
set_option maxRecDepth 100000 in
theorem c_X5_ticks (l : Launch) (G : sk_G) (u0 : Nat → Nat) (S0 : sk_M) : sk_ctr l G yX5_ticks cX5_ticks 3 (some .int) rm_X5_ticks [.ref (u0 0)] [(md_W G u0 S0)] (m_X5_ticks S0) o_X5_ticks (w_X5_ticks G u0) := by
  refine sk_entry (own := RX5) (by decide) rfl (lv0 := [some (.ref (u0 0)), none, none]) rfl (Nat.le_of_ble_eq_true rfl) ?_
  intro Γ X
  have h301 : ∀ s301 : sk_M × Int32, sk_S Γ (sk_Φ Γ o_X5_ticks (w_X5_ticks G u0)) 0 0 (m_X5_ticks_301 s301) [(md_W G u0 s301.1)] [some (.ref (u0 0)), some (.int s301.2), none] 301 [] := by
    intro s301
    unfold m_X5_ticks_301
    refine sk_loop (bsf := fun s301 => [(md_W G u0 s301.1)]) (lvf := fun s301 => [some (.ref (u0 0)), some (.int s301.2), none]) ?_ sk_fuel s301
    intro k301 s301 ih301
    have h311 : ∀ s311 : sk_M × Int32 × Int32, sk_S Γ (sk_Φ Γ o_X5_ticks (w_X5_ticks G u0)) 0 0 (m_X5_ticks_311 k301 s311) [(md_W G u0 s311.1)] [some (.ref (u0 0)), some (.int s311.2.1), some (.int s311.2.2)] 311 [] := by
      intro s311
      unfold m_X5_ticks_311
      refine sk_loop (bsf := fun s311 => [(md_W G u0 s311.1)]) (lvf := fun s311 => [some (.ref (u0 0)), some (.int s311.2.1), some (.int s311.2.2)]) ?_ sk_fuel s311
      intro k311 s311 ih311
      unfold m_X5_ticks_311_step
      refine sk_iload_n (pc' := 312) X rfl dX5_ticks_311 rfl ?_
      refine sk_aload_n (pc' := 313) X rfl dX5_ticks_312 rfl ?_
      refine sk_getf (pc' := 316) X 0 0 0 in_RX5 rfl rfl rfl (Nat.le_of_ble_eq_true rfl) fl_RX5_7 rfl dX5_ticks_313 rfl ?_
      refine sk_iconst (pc' := 317) X ic_5 dX5_ticks_316 rfl ?_
      refine sk_iald (pc' := 318) X 0 1 rfl rfl dX5_ticks_317 rfl ?_
      refine sk_icmp_ge (tgt := 346) (pc' := 321) X dX5_ticks_318 rfl rfl ?_ ?_
      · refine sk_iinc (lv' := [some (.ref (u0 0)), some (.int (s311.2.1 + (1 : Int32))), some (.int s311.2.2)]) (pc' := 349) X rfl ic_1 (Nat.le_of_ble_eq_true rfl) rfl rfl dX5_ticks_346 rfl ?_
        refine sk_goto (tgt := 301) X dX5_ticks_349 rfl ?_
        exact (sk_kill 2 (ih301 (s311.1, (s311.2.1 + (1 : Int32)))))
      · refine sk_aload_n (pc' := 322) X rfl dX5_ticks_321 rfl ?_
        refine sk_aload_n (pc' := 323) X rfl dX5_ticks_322 rfl ?_
        refine sk_getf (pc' := 326) X 0 0 7 in_RX5 rfl rfl rfl (Nat.le_of_ble_eq_true rfl) fl_RX5_22 rfl dX5_ticks_323 rfl ?_
        refine sk_iload_n (pc' := 327) X rfl dX5_ticks_326 rfl ?_
        refine sk_iald (pc' := 328) X 0 5 rfl rfl dX5_ticks_327 rfl ?_
        refine sk_iload_n (pc' := 329) X rfl dX5_ticks_328 rfl ?_
        refine sk_callV (bs2 := fun r329 => [(md_W G u0 s311.1)]) (st := []) (st2 := fun r329 => [.int r329]) (As := [.int ((s311.1.1 5) (s311.2.1).toNatClampNeg), .int s311.2.2]) (pc' := 332) X (c_X5_delay l G u0 s311.1 ((s311.1.1 5) (s311.2.1).toNatClampNeg) s311.2.2) lk_RX5_78 [0] rfl (by decide) (fun _ => rfl) rfl rfl rfl ⟨(Nat.le_of_ble_eq_true rfl), (Nat.le_of_ble_eq_true rfl)⟩ ⟨rfl, rfl⟩ ⟨(Nat.le_of_ble_eq_true rfl), (Nat.le_of_ble_eq_true rfl)⟩ rfl (Nat.le_of_ble_eq_true rfl) rfl dX5_ticks_329 rfl (fun _ => rfl) (fun _ => rfl) (fun r329 => ?_)
        refine sk_if_ne (tgt := 340) (pc' := 335) X dX5_ticks_332 rfl rfl ?_ ?_
        · refine sk_iinc (lv' := [some (.ref (u0 0)), some (.int s311.2.1), some (.int (s311.2.2 + (1 : Int32)))]) (pc' := 343) X rfl ic_1 (Nat.le_of_ble_eq_true rfl) rfl rfl dX5_ticks_340 rfl ?_
          refine sk_goto (tgt := 311) X dX5_ticks_343 rfl ?_
          exact (ih311 (s311.1, s311.2.1, (s311.2.2 + (1 : Int32))))
        · refine sk_aload_n (pc' := 336) X rfl dX5_ticks_335 rfl ?_
          refine sk_iload_n (pc' := 337) X rfl dX5_ticks_336 rfl ?_
          refine sk_callV (bs2 := fun r337 => [(md_W G u0 r337)]) (st := []) (st2 := fun r337 => []) (As := [.int s311.2.2]) (pc' := 340) X (c_X5_reaches l G u0 s311.1 s311.2.2) lk_RX5_136 [0] rfl (by decide) (fun _ => rfl) rfl rfl rfl ⟨(Nat.le_of_ble_eq_true rfl), (Nat.le_of_ble_eq_true rfl)⟩ ⟨rfl, rfl⟩ ⟨(Nat.le_of_ble_eq_true rfl), (Nat.le_of_ble_eq_true rfl)⟩ rfl (Nat.le_of_ble_eq_true rfl) rfl dX5_ticks_337 rfl (fun _ => rfl) (fun _ => rfl) (fun r337 => ?_)
          refine sk_iinc (lv' := [some (.ref (u0 0)), some (.int s311.2.1), some (.int (s311.2.2 + (1 : Int32)))]) (pc' := 343) X rfl ic_1 (Nat.le_of_ble_eq_true rfl) rfl rfl dX5_ticks_340 rfl ?_
          refine sk_goto (tgt := 311) X dX5_ticks_343 rfl ?_
          exact (ih311 (r337, s311.2.1, (s311.2.2 + (1 : Int32))))
    unfold m_X5_ticks_301_step
    refine sk_iload_n (pc' := 302) X rfl dX5_ticks_301 rfl ?_
    refine sk_aload_n (pc' := 303) X rfl dX5_ticks_302 rfl ?_
    refine sk_getf (pc' := 306) X 0 0 8 in_RX5 rfl rfl rfl (Nat.le_of_ble_eq_true rfl) fl_RX5_123 rfl dX5_ticks_303 rfl ?_
    refine sk_icmp_ge (tgt := 352) (pc' := 309) X dX5_ticks_306 rfl rfl ?_ ?_
    · refine sk_aload_n (pc' := 353) X rfl dX5_ticks_352 rfl ?_
      refine sk_getf (pc' := 356) X 0 0 8 in_RX5 rfl rfl rfl (Nat.le_of_ble_eq_true rfl) fl_RX5_123 rfl dX5_ticks_353 rfl ?_
      exact sk_iret X rfl rfl dX5_ticks_356
    · refine sk_iconst (pc' := 310) X ic_0 dX5_ticks_309 rfl ?_
      refine sk_istore_n (lv' := [some (.ref (u0 0)), some (.int s301.2), some (.int (0 : Int32))]) (pc' := 311) X (Nat.le_of_ble_eq_true rfl) rfl rfl dX5_ticks_310 rfl ?_
      exact (h311 (s301.1, s301.2, (0 : Int32)))
  have h245 : ∀ s245 : sk_M × Int32, sk_S Γ (sk_Φ Γ o_X5_ticks (w_X5_ticks G u0)) 0 0 (m_X5_ticks_245 s245) [(md_W G u0 s245.1)] [some (.ref (u0 0)), some (.int s245.2), none] 245 [] := by
    intro s245
    unfold m_X5_ticks_245
    refine sk_loop (bsf := fun s245 => [(md_W G u0 s245.1)]) (lvf := fun s245 => [some (.ref (u0 0)), some (.int s245.2), none]) ?_ sk_fuel s245
    intro k245 s245 ih245
    have h257 : ∀ s257 : sk_M × Int32 × Int32, sk_S Γ (sk_Φ Γ o_X5_ticks (w_X5_ticks G u0)) 0 0 (m_X5_ticks_257 k245 s257) [(md_W G u0 s257.1)] [some (.ref (u0 0)), some (.int s257.2.1), some (.int s257.2.2)] 257 [] := by
      intro s257
      unfold m_X5_ticks_257
      refine sk_loop (bsf := fun s257 => [(md_W G u0 s257.1)]) (lvf := fun s257 => [some (.ref (u0 0)), some (.int s257.2.1), some (.int s257.2.2)]) ?_ sk_fuel s257
      intro k257 s257 ih257
      unfold m_X5_ticks_257_step
      refine sk_iload_n (pc' := 258) X rfl dX5_ticks_257 rfl ?_
      refine sk_aload_n (pc' := 259) X rfl dX5_ticks_258 rfl ?_
      refine sk_getf (pc' := 262) X 0 0 0 in_RX5 rfl rfl rfl (Nat.le_of_ble_eq_true rfl) fl_RX5_7 rfl dX5_ticks_259 rfl ?_
      refine sk_iconst (pc' := 263) X ic_5 dX5_ticks_262 rfl ?_
      refine sk_iald (pc' := 264) X 0 1 rfl rfl dX5_ticks_263 rfl ?_
      refine sk_icmp_ge (tgt := 293) (pc' := 267) X dX5_ticks_264 rfl rfl ?_ ?_
      · refine sk_iinc (lv' := [some (.ref (u0 0)), some (.int (s257.2.1 + (1 : Int32))), some (.int s257.2.2)]) (pc' := 296) X rfl ic_1 (Nat.le_of_ble_eq_true rfl) rfl rfl dX5_ticks_293 rfl ?_
        refine sk_goto (tgt := 245) X dX5_ticks_296 rfl ?_
        exact (sk_kill 2 (ih245 (s257.1, (s257.2.1 + (1 : Int32)))))
      · refine sk_aload_n (pc' := 268) X rfl dX5_ticks_267 rfl ?_
        refine sk_getf (pc' := 271) X 0 0 9 in_RX5 rfl rfl rfl (Nat.le_of_ble_eq_true rfl) fl_RX5_25 rfl dX5_ticks_268 rfl ?_
        refine sk_bipush (pc' := 273) X bp_10 dX5_ticks_271 rfl ?_
        refine sk_iload_n (pc' := 274) X rfl dX5_ticks_273 rfl ?_
        refine sk_imul (pc' := 275) X dX5_ticks_274 rfl ?_
        refine sk_iload_n (pc' := 276) X rfl dX5_ticks_275 rfl ?_
        refine sk_iadd (pc' := 277) X dX5_ticks_276 rfl ?_
        refine sk_iald (pc' := 278) X 0 6 rfl rfl dX5_ticks_277 rfl ?_
        refine sk_iconst (pc' := 279) X ic_1 dX5_ticks_278 rfl ?_
        refine sk_icmp_ne (tgt := 287) (pc' := 282) X dX5_ticks_279 rfl rfl ?_ ?_
        · refine sk_iinc (lv' := [some (.ref (u0 0)), some (.int s257.2.1), some (.int (s257.2.2 + (1 : Int32)))]) (pc' := 290) X rfl ic_1 (Nat.le_of_ble_eq_true rfl) rfl rfl dX5_ticks_287 rfl ?_
          refine sk_goto (tgt := 257) X dX5_ticks_290 rfl ?_
          exact (ih257 (s257.1, s257.2.1, (s257.2.2 + (1 : Int32))))
        · refine sk_aload_n (pc' := 283) X rfl dX5_ticks_282 rfl ?_
          refine sk_iload_n (pc' := 284) X rfl dX5_ticks_283 rfl ?_
          refine sk_callV (bs2 := fun r284 => [(md_W G u0 r284)]) (st := []) (st2 := fun r284 => []) (As := [.int s257.2.1]) (pc' := 287) X (c_X5_reaches l G u0 s257.1 s257.2.1) lk_RX5_136 [0] rfl (by decide) (fun _ => rfl) rfl rfl rfl ⟨(Nat.le_of_ble_eq_true rfl), (Nat.le_of_ble_eq_true rfl)⟩ ⟨rfl, rfl⟩ ⟨(Nat.le_of_ble_eq_true rfl), (Nat.le_of_ble_eq_true rfl)⟩ rfl (Nat.le_of_ble_eq_true rfl) rfl dX5_ticks_284 rfl (fun _ => rfl) (fun _ => rfl) (fun r284 => ?_)
          refine sk_iinc (lv' := [some (.ref (u0 0)), some (.int s257.2.1), some (.int (s257.2.2 + (1 : Int32)))]) (pc' := 290) X rfl ic_1 (Nat.le_of_ble_eq_true rfl) rfl rfl dX5_ticks_287 rfl ?_
          refine sk_goto (tgt := 257) X dX5_ticks_290 rfl ?_
          exact (ih257 (r284, s257.2.1, (s257.2.2 + (1 : Int32))))
    unfold m_X5_ticks_245_step
    refine sk_iload_n (pc' := 246) X rfl dX5_ticks_245 rfl ?_
    refine sk_aload_n (pc' := 247) X rfl dX5_ticks_246 rfl ?_
    refine sk_getf (pc' := 250) X 0 0 0 in_RX5 rfl rfl rfl (Nat.le_of_ble_eq_true rfl) fl_RX5_7 rfl dX5_ticks_247 rfl ?_
    refine sk_iconst (pc' := 251) X ic_5 dX5_ticks_250 rfl ?_
    refine sk_iald (pc' := 252) X 0 1 rfl rfl dX5_ticks_251 rfl ?_
    refine sk_icmp_ge (tgt := 299) (pc' := 255) X dX5_ticks_252 rfl rfl ?_ ?_
    · refine sk_iconst (pc' := 300) X ic_0 dX5_ticks_299 rfl ?_
      refine sk_istore_n (lv' := [some (.ref (u0 0)), some (.int (0 : Int32)), none]) (pc' := 301) X (Nat.le_of_ble_eq_true rfl) rfl rfl dX5_ticks_300 rfl ?_
      exact (h301 (s245.1, (0 : Int32)))
    · refine sk_iconst (pc' := 256) X ic_0 dX5_ticks_255 rfl ?_
      refine sk_istore_n (lv' := [some (.ref (u0 0)), some (.int s245.2), some (.int (0 : Int32))]) (pc' := 257) X (Nat.le_of_ble_eq_true rfl) rfl rfl dX5_ticks_256 rfl ?_
      exact (h257 (s245.1, s245.2, (0 : Int32)))
  have h180 : ∀ s180 : sk_M × Int32, sk_S Γ (sk_Φ Γ o_X5_ticks (w_X5_ticks G u0)) 0 0 (m_X5_ticks_180 s180) [(md_W G u0 s180.1)] [some (.ref (u0 0)), some (.int s180.2), none] 180 [] := by
    intro s180
    unfold m_X5_ticks_180
    refine sk_loop (bsf := fun s180 => [(md_W G u0 s180.1)]) (lvf := fun s180 => [some (.ref (u0 0)), some (.int s180.2), none]) ?_ sk_fuel s180
    intro k180 s180 ih180
    unfold m_X5_ticks_180_step
    refine sk_iload_n (pc' := 181) X rfl dX5_ticks_180 rfl ?_
    refine sk_aload_n (pc' := 182) X rfl dX5_ticks_181 rfl ?_
    refine sk_getf (pc' := 185) X 0 0 0 in_RX5 rfl rfl rfl (Nat.le_of_ble_eq_true rfl) fl_RX5_7 rfl dX5_ticks_182 rfl ?_
    refine sk_iconst (pc' := 186) X ic_5 dX5_ticks_185 rfl ?_
    refine sk_iald (pc' := 187) X 0 1 rfl rfl dX5_ticks_186 rfl ?_
    refine sk_icmp_ge (tgt := 243) (pc' := 190) X dX5_ticks_187 rfl rfl ?_ ?_
    · refine sk_iconst (pc' := 244) X ic_0 dX5_ticks_243 rfl ?_
      refine sk_istore_n (lv' := [some (.ref (u0 0)), some (.int (0 : Int32)), none]) (pc' := 245) X (Nat.le_of_ble_eq_true rfl) rfl rfl dX5_ticks_244 rfl ?_
      exact (h245 (s180.1, (0 : Int32)))
    · refine sk_aload_n (pc' := 191) X rfl dX5_ticks_190 rfl ?_
      refine sk_getf (pc' := 194) X 0 0 0 in_RX5 rfl rfl rfl (Nat.le_of_ble_eq_true rfl) fl_RX5_7 rfl dX5_ticks_191 rfl ?_
      refine sk_bipush (pc' := 196) X bp_28 dX5_ticks_194 rfl ?_
      refine sk_iload_n (pc' := 197) X rfl dX5_ticks_196 rfl ?_
      refine sk_iadd (pc' := 198) X dX5_ticks_197 rfl ?_
      refine sk_iald (pc' := 199) X 0 1 rfl rfl dX5_ticks_198 rfl ?_
      refine sk_iconst (pc' := 200) X ic_1 dX5_ticks_199 rfl ?_
      refine sk_icmp_ne (tgt := 237) (pc' := 203) X dX5_ticks_200 rfl rfl ?_ ?_
      · refine sk_iinc (lv' := [some (.ref (u0 0)), some (.int (s180.2 + (1 : Int32))), none]) (pc' := 240) X rfl ic_1 (Nat.le_of_ble_eq_true rfl) rfl rfl dX5_ticks_237 rfl ?_
        refine sk_goto (tgt := 180) X dX5_ticks_240 rfl ?_
        exact (ih180 (s180.1, (s180.2 + (1 : Int32))))
      · refine sk_aload_n (pc' := 204) X rfl dX5_ticks_203 rfl ?_
        refine sk_getf (pc' := 207) X 0 0 0 in_RX5 rfl rfl rfl (Nat.le_of_ble_eq_true rfl) fl_RX5_7 rfl dX5_ticks_204 rfl ?_
        refine sk_iconst (pc' := 208) X ic_4 dX5_ticks_207 rfl ?_
        refine sk_iald (pc' := 209) X 0 1 rfl rfl dX5_ticks_208 rfl ?_
        refine sk_aload_n (pc' := 210) X rfl dX5_ticks_209 rfl ?_
        refine sk_getf (pc' := 213) X 0 0 0 in_RX5 rfl rfl rfl (Nat.le_of_ble_eq_true rfl) fl_RX5_7 rfl dX5_ticks_210 rfl ?_
        refine sk_bipush (pc' := 215) X bp_48 dX5_ticks_213 rfl ?_
        refine sk_iload_n (pc' := 216) X rfl dX5_ticks_215 rfl ?_
        refine sk_iadd (pc' := 217) X dX5_ticks_216 rfl ?_
        refine sk_iald (pc' := 218) X 0 1 rfl rfl dX5_ticks_217 rfl ?_
        refine sk_iadd (pc' := 219) X dX5_ticks_218 rfl ?_
        refine sk_aload_n (pc' := 220) X rfl dX5_ticks_219 rfl ?_
        refine sk_getf (pc' := 223) X 0 0 0 in_RX5 rfl rfl rfl (Nat.le_of_ble_eq_true rfl) fl_RX5_7 rfl dX5_ticks_220 rfl ?_
        refine sk_bipush (pc' := 225) X bp_38 dX5_ticks_223 rfl ?_
        refine sk_iload_n (pc' := 226) X rfl dX5_ticks_225 rfl ?_
        refine sk_iadd (pc' := 227) X dX5_ticks_226 rfl ?_
        refine sk_iald (pc' := 228) X 0 1 rfl rfl dX5_ticks_227 rfl ?_
        refine sk_irem (pc' := 229) X dX5_ticks_228 rfl ?_
        refine sk_if_ne (tgt := 237) (pc' := 232) X dX5_ticks_229 rfl rfl ?_ ?_
        · refine sk_iinc (lv' := [some (.ref (u0 0)), some (.int (s180.2 + (1 : Int32))), none]) (pc' := 240) X rfl ic_1 (Nat.le_of_ble_eq_true rfl) rfl rfl dX5_ticks_237 rfl ?_
          refine sk_goto (tgt := 180) X dX5_ticks_240 rfl ?_
          exact (ih180 (s180.1, (s180.2 + (1 : Int32))))
        · refine sk_aload_n (pc' := 233) X rfl dX5_ticks_232 rfl ?_
          refine sk_iload_n (pc' := 234) X rfl dX5_ticks_233 rfl ?_
          refine sk_callV (bs2 := fun r234 => [(md_W G u0 r234)]) (st := []) (st2 := fun r234 => []) (As := [.int s180.2]) (pc' := 237) X (c_X5_fires l G u0 s180.1 s180.2) lk_RX5_130 [0] rfl (by decide) (fun _ => rfl) rfl rfl rfl ⟨(Nat.le_of_ble_eq_true rfl), (Nat.le_of_ble_eq_true rfl)⟩ ⟨rfl, rfl⟩ ⟨(Nat.le_of_ble_eq_true rfl), (Nat.le_of_ble_eq_true rfl)⟩ rfl (Nat.le_of_ble_eq_true rfl) rfl dX5_ticks_234 rfl (fun _ => rfl) (fun _ => rfl) (fun r234 => ?_)
          refine sk_iinc (lv' := [some (.ref (u0 0)), some (.int (s180.2 + (1 : Int32))), none]) (pc' := 240) X rfl ic_1 (Nat.le_of_ble_eq_true rfl) rfl rfl dX5_ticks_237 rfl ?_
          refine sk_goto (tgt := 180) X dX5_ticks_240 rfl ?_
          exact (ih180 (r234, (s180.2 + (1 : Int32))))
  have h127 : ∀ s127 : sk_M × Int32, sk_S Γ (sk_Φ Γ o_X5_ticks (w_X5_ticks G u0)) 0 0 (m_X5_ticks_127 s127) [(md_W G u0 s127.1)] [some (.ref (u0 0)), some (.int s127.2), none] 127 [] := by
    intro s127
    unfold m_X5_ticks_127
    refine sk_loop (bsf := fun s127 => [(md_W G u0 s127.1)]) (lvf := fun s127 => [some (.ref (u0 0)), some (.int s127.2), none]) ?_ sk_fuel s127
    intro k127 s127 ih127
    unfold m_X5_ticks_127_step
    refine sk_iload_n (pc' := 128) X rfl dX5_ticks_127 rfl ?_
    refine sk_aload_n (pc' := 129) X rfl dX5_ticks_128 rfl ?_
    refine sk_getf (pc' := 132) X 0 0 0 in_RX5 rfl rfl rfl (Nat.le_of_ble_eq_true rfl) fl_RX5_7 rfl dX5_ticks_129 rfl ?_
    refine sk_iconst (pc' := 133) X ic_5 dX5_ticks_132 rfl ?_
    refine sk_iald (pc' := 134) X 0 1 rfl rfl dX5_ticks_133 rfl ?_
    refine sk_icmp_ge (tgt := 178) (pc' := 137) X dX5_ticks_134 rfl rfl ?_ ?_
    · refine sk_iconst (pc' := 179) X ic_0 dX5_ticks_178 rfl ?_
      refine sk_istore_n (lv' := [some (.ref (u0 0)), some (.int (0 : Int32)), none]) (pc' := 180) X (Nat.le_of_ble_eq_true rfl) rfl rfl dX5_ticks_179 rfl ?_
      exact (h180 (s127.1, (0 : Int32)))
    · refine sk_aload_n (pc' := 138) X rfl dX5_ticks_137 rfl ?_
      refine sk_getf (pc' := 141) X 0 0 0 in_RX5 rfl rfl rfl (Nat.le_of_ble_eq_true rfl) fl_RX5_7 rfl dX5_ticks_138 rfl ?_
      refine sk_bipush (pc' := 143) X bp_28 dX5_ticks_141 rfl ?_
      refine sk_iload_n (pc' := 144) X rfl dX5_ticks_143 rfl ?_
      refine sk_iadd (pc' := 145) X dX5_ticks_144 rfl ?_
      refine sk_iald (pc' := 146) X 0 1 rfl rfl dX5_ticks_145 rfl ?_
      refine sk_if_ne (tgt := 172) (pc' := 149) X dX5_ticks_146 rfl rfl ?_ ?_
      · refine sk_iinc (lv' := [some (.ref (u0 0)), some (.int (s127.2 + (1 : Int32))), none]) (pc' := 175) X rfl ic_1 (Nat.le_of_ble_eq_true rfl) rfl rfl dX5_ticks_172 rfl ?_
        refine sk_goto (tgt := 127) X dX5_ticks_175 rfl ?_
        exact (ih127 (s127.1, (s127.2 + (1 : Int32))))
      · refine sk_aload_n (pc' := 150) X rfl dX5_ticks_149 rfl ?_
        refine sk_getf (pc' := 153) X 0 0 0 in_RX5 rfl rfl rfl (Nat.le_of_ble_eq_true rfl) fl_RX5_7 rfl dX5_ticks_150 rfl ?_
        refine sk_bipush (pc' := 155) X bp_8 dX5_ticks_153 rfl ?_
        refine sk_iload_n (pc' := 156) X rfl dX5_ticks_155 rfl ?_
        refine sk_iadd (pc' := 157) X dX5_ticks_156 rfl ?_
        refine sk_iald (pc' := 158) X 0 1 rfl rfl dX5_ticks_157 rfl ?_
        refine sk_aload_n (pc' := 159) X rfl dX5_ticks_158 rfl ?_
        refine sk_getf (pc' := 162) X 0 0 0 in_RX5 rfl rfl rfl (Nat.le_of_ble_eq_true rfl) fl_RX5_7 rfl dX5_ticks_159 rfl ?_
        refine sk_iconst (pc' := 163) X ic_0 dX5_ticks_162 rfl ?_
        refine sk_iald (pc' := 164) X 0 1 rfl rfl dX5_ticks_163 rfl ?_
        refine sk_icmp_lt (tgt := 172) (pc' := 167) X dX5_ticks_164 rfl rfl ?_ ?_
        · refine sk_iinc (lv' := [some (.ref (u0 0)), some (.int (s127.2 + (1 : Int32))), none]) (pc' := 175) X rfl ic_1 (Nat.le_of_ble_eq_true rfl) rfl rfl dX5_ticks_172 rfl ?_
          refine sk_goto (tgt := 127) X dX5_ticks_175 rfl ?_
          exact (ih127 (s127.1, (s127.2 + (1 : Int32))))
        · refine sk_aload_n (pc' := 168) X rfl dX5_ticks_167 rfl ?_
          refine sk_iload_n (pc' := 169) X rfl dX5_ticks_168 rfl ?_
          refine sk_callV (bs2 := fun r169 => [(md_W G u0 r169)]) (st := []) (st2 := fun r169 => []) (As := [.int s127.2]) (pc' := 172) X (c_X5_fires l G u0 s127.1 s127.2) lk_RX5_130 [0] rfl (by decide) (fun _ => rfl) rfl rfl rfl ⟨(Nat.le_of_ble_eq_true rfl), (Nat.le_of_ble_eq_true rfl)⟩ ⟨rfl, rfl⟩ ⟨(Nat.le_of_ble_eq_true rfl), (Nat.le_of_ble_eq_true rfl)⟩ rfl (Nat.le_of_ble_eq_true rfl) rfl dX5_ticks_169 rfl (fun _ => rfl) (fun _ => rfl) (fun r169 => ?_)
          refine sk_iinc (lv' := [some (.ref (u0 0)), some (.int (s127.2 + (1 : Int32))), none]) (pc' := 175) X rfl ic_1 (Nat.le_of_ble_eq_true rfl) rfl rfl dX5_ticks_172 rfl ?_
          refine sk_goto (tgt := 127) X dX5_ticks_175 rfl ?_
          exact (ih127 (r169, (s127.2 + (1 : Int32))))
  have h75 : ∀ s75 : sk_M × Int32, sk_S Γ (sk_Φ Γ o_X5_ticks (w_X5_ticks G u0)) 0 0 (m_X5_ticks_75 s75) [(md_W G u0 s75.1)] [some (.ref (u0 0)), some (.int s75.2), none] 75 [] := by
    intro s75
    unfold m_X5_ticks_75
    refine sk_loop (bsf := fun s75 => [(md_W G u0 s75.1)]) (lvf := fun s75 => [some (.ref (u0 0)), some (.int s75.2), none]) ?_ sk_fuel s75
    intro k75 s75 ih75
    have h117 : ∀ s117 : sk_M × Int32 × Int32 × Int32 × Int32, sk_S Γ (sk_Φ Γ o_X5_ticks (w_X5_ticks G u0)) 0 0 (m_X5_ticks_117 k75 s117) [(md_W G u0 s117.1)] [some (.ref (u0 0)), some (.int s117.2.1), none] 117 [.int s117.2.2.2.2, .int s117.2.2.2.1, .int s117.2.2.1, .ref (u0 1)] := by
      intro s117
      unfold m_X5_ticks_117
      refine sk_iadd (pc' := 118) X dX5_ticks_117 rfl ?_
      refine sk_iast (bs' := [(md_W G u0 (md_up s117.1 1 (s117.2.2.1).toNatClampNeg (s117.2.2.2.1 + s117.2.2.2.2)))]) (pc' := 119) X 0 1 rfl rfl (sk_st 0 (md_st_1 ..) rfl) dX5_ticks_118 rfl ?_
      refine sk_lt (bsf := fun z => [(md_W G u0 z)]) (lvf := fun _ => [some (.ref (u0 0)), some (.int s117.2.1), none]) (stf := fun _ => []) (fun N118 => ?_)
      refine sk_iinc (lv' := [some (.ref (u0 0)), some (.int (s117.2.1 + (1 : Int32))), none]) (pc' := 122) X rfl ic_1 (Nat.le_of_ble_eq_true rfl) rfl rfl dX5_ticks_119 rfl ?_
      refine sk_goto (tgt := 75) X dX5_ticks_122 rfl ?_
      exact (ih75 (N118, (s117.2.1 + (1 : Int32))))
    unfold m_X5_ticks_75_step
    refine sk_iload_n (pc' := 76) X rfl dX5_ticks_75 rfl ?_
    refine sk_aload_n (pc' := 77) X rfl dX5_ticks_76 rfl ?_
    refine sk_getf (pc' := 80) X 0 0 0 in_RX5 rfl rfl rfl (Nat.le_of_ble_eq_true rfl) fl_RX5_7 rfl dX5_ticks_77 rfl ?_
    refine sk_iconst (pc' := 81) X ic_5 dX5_ticks_80 rfl ?_
    refine sk_iald (pc' := 82) X 0 1 rfl rfl dX5_ticks_81 rfl ?_
    refine sk_icmp_ge (tgt := 125) (pc' := 85) X dX5_ticks_82 rfl rfl ?_ ?_
    · refine sk_iconst (pc' := 126) X ic_0 dX5_ticks_125 rfl ?_
      refine sk_istore_n (lv' := [some (.ref (u0 0)), some (.int (0 : Int32)), none]) (pc' := 127) X (Nat.le_of_ble_eq_true rfl) rfl rfl dX5_ticks_126 rfl ?_
      exact (h127 (s75.1, (0 : Int32)))
    · refine sk_aload_n (pc' := 86) X rfl dX5_ticks_85 rfl ?_
      refine sk_getf (pc' := 89) X 0 0 0 in_RX5 rfl rfl rfl (Nat.le_of_ble_eq_true rfl) fl_RX5_7 rfl dX5_ticks_86 rfl ?_
      refine sk_bipush (pc' := 91) X bp_8 dX5_ticks_89 rfl ?_
      refine sk_iload_n (pc' := 92) X rfl dX5_ticks_91 rfl ?_
      refine sk_iadd (pc' := 93) X dX5_ticks_92 rfl ?_
      refine sk_dup2 (pc' := 94) X rfl rfl dX5_ticks_93 rfl ?_
      refine sk_iald (pc' := 95) X 0 1 rfl rfl dX5_ticks_94 rfl ?_
      refine sk_aload_n (pc' := 96) X rfl dX5_ticks_95 rfl ?_
      refine sk_getf (pc' := 99) X 0 0 0 in_RX5 rfl rfl rfl (Nat.le_of_ble_eq_true rfl) fl_RX5_7 rfl dX5_ticks_96 rfl ?_
      refine sk_bipush (pc' := 101) X bp_28 dX5_ticks_99 rfl ?_
      refine sk_iload_n (pc' := 102) X rfl dX5_ticks_101 rfl ?_
      refine sk_iadd (pc' := 103) X dX5_ticks_102 rfl ?_
      refine sk_iald (pc' := 104) X 0 1 rfl rfl dX5_ticks_103 rfl ?_
      refine sk_iconst (pc' := 105) X ic_1 dX5_ticks_104 rfl ?_
      refine sk_icmp_ne (tgt := 112) (pc' := 108) X dX5_ticks_105 rfl rfl ?_ ?_
      · refine sk_aload_n (pc' := 113) X rfl dX5_ticks_112 rfl ?_
        refine sk_iload_n (pc' := 114) X rfl dX5_ticks_113 rfl ?_
        refine sk_callV (bs2 := fun r114 => [(md_W G u0 s75.1)]) (st := [.int ((s75.1.1 1) (((8 : Int32) + s75.2)).toNatClampNeg), .int ((8 : Int32) + s75.2), .ref (u0 1)]) (st2 := fun r114 => [.int r114, .int ((s75.1.1 1) (((8 : Int32) + s75.2)).toNatClampNeg), .int ((8 : Int32) + s75.2), .ref (u0 1)]) (As := [.int s75.2]) (pc' := 117) X (c_X5_stepOf l G u0 s75.1 s75.2) lk_RX5_133 [0] rfl (by decide) (fun _ => rfl) rfl rfl rfl ⟨(Nat.le_of_ble_eq_true rfl), (Nat.le_of_ble_eq_true rfl)⟩ ⟨rfl, rfl⟩ ⟨(Nat.le_of_ble_eq_true rfl), (Nat.le_of_ble_eq_true rfl)⟩ rfl (Nat.le_of_ble_eq_true rfl) rfl dX5_ticks_114 rfl (fun _ => rfl) (fun _ => rfl) (fun r114 => ?_)
        exact (h117 (s75.1, s75.2, ((8 : Int32) + s75.2), ((s75.1.1 1) (((8 : Int32) + s75.2)).toNatClampNeg), r114))
      · refine sk_iconst (pc' := 109) X ic_0 dX5_ticks_108 rfl ?_
        refine sk_goto (tgt := 117) X dX5_ticks_109 rfl ?_
        exact (h117 (s75.1, s75.2, ((8 : Int32) + s75.2), ((s75.1.1 1) (((8 : Int32) + s75.2)).toNatClampNeg), (0 : Int32)))
  have h25 : ∀ s25 : sk_M × Int32, sk_S Γ (sk_Φ Γ o_X5_ticks (w_X5_ticks G u0)) 0 0 (m_X5_ticks_25 s25) [(md_W G u0 s25.1)] [some (.ref (u0 0)), some (.int s25.2), none] 25 [] := by
    intro s25
    unfold m_X5_ticks_25
    refine sk_loop (bsf := fun s25 => [(md_W G u0 s25.1)]) (lvf := fun s25 => [some (.ref (u0 0)), some (.int s25.2), none]) ?_ sk_fuel s25
    intro k25 s25 ih25
    unfold m_X5_ticks_25_step
    refine sk_iload_n (pc' := 26) X rfl dX5_ticks_25 rfl ?_
    refine sk_bipush (pc' := 28) X bp_100 dX5_ticks_26 rfl ?_
    refine sk_icmp_ge (tgt := 73) (pc' := 31) X dX5_ticks_28 rfl rfl ?_ ?_
    · refine sk_iconst (pc' := 74) X ic_0 dX5_ticks_73 rfl ?_
      refine sk_istore_n (lv' := [some (.ref (u0 0)), some (.int (0 : Int32)), none]) (pc' := 75) X (Nat.le_of_ble_eq_true rfl) rfl rfl dX5_ticks_74 rfl ?_
      exact (h75 (s25.1, (0 : Int32)))
    · refine sk_aload_n (pc' := 32) X rfl dX5_ticks_31 rfl ?_
      refine sk_getf (pc' := 35) X 0 0 0 in_RX5 rfl rfl rfl (Nat.le_of_ble_eq_true rfl) fl_RX5_7 rfl dX5_ticks_32 rfl ?_
      refine sk_sipush (pc' := 38) X sp_158 dX5_ticks_35 rfl ?_
      refine sk_iload_n (pc' := 39) X rfl dX5_ticks_38 rfl ?_
      refine sk_iadd (pc' := 40) X dX5_ticks_39 rfl ?_
      refine sk_iald (pc' := 41) X 0 1 rfl rfl dX5_ticks_40 rfl ?_
      refine sk_iconst (pc' := 42) X ic_1 dX5_ticks_41 rfl ?_
      refine sk_ishr (pc' := 43) X dX5_ticks_42 rfl ?_
      refine sk_istore_n (lv' := [some (.ref (u0 0)), some (.int s25.2), some (.int (sk_shr ((s25.1.1 1) (((158 : Int32) + s25.2)).toNatClampNeg) (1 : Int32)))]) (pc' := 44) X (Nat.le_of_ble_eq_true rfl) rfl rfl dX5_ticks_43 rfl ?_
      refine sk_lt (bsf := fun _ => [(md_W G u0 s25.1)]) (lvf := fun z => [some (.ref (u0 0)), some (.int s25.2), some (.int z)]) (stf := fun _ => []) (fun x43 => ?_)
      refine sk_aload_n (pc' := 45) X rfl dX5_ticks_44 rfl ?_
      refine sk_getf (pc' := 48) X 0 0 9 in_RX5 rfl rfl rfl (Nat.le_of_ble_eq_true rfl) fl_RX5_25 rfl dX5_ticks_45 rfl ?_
      refine sk_iload_n (pc' := 49) X rfl dX5_ticks_48 rfl ?_
      refine sk_iload_n (pc' := 50) X rfl dX5_ticks_49 rfl ?_
      refine sk_iconst (pc' := 51) X ic_1 dX5_ticks_50 rfl ?_
      refine sk_iand (pc' := 52) X dX5_ticks_51 rfl ?_
      refine sk_iast (bs' := [(md_W G u0 (md_up s25.1 6 (s25.2).toNatClampNeg (x43 &&& (1 : Int32))))]) (pc' := 53) X 0 6 rfl rfl (sk_st 0 (md_st_6 ..) rfl) dX5_ticks_52 rfl ?_
      refine sk_lt (bsf := fun z => [(md_W G u0 z)]) (lvf := fun _ => [some (.ref (u0 0)), some (.int s25.2), some (.int x43)]) (stf := fun _ => []) (fun N52 => ?_)
      refine sk_aload_n (pc' := 54) X rfl dX5_ticks_53 rfl ?_
      refine sk_getf (pc' := 57) X 0 0 0 in_RX5 rfl rfl rfl (Nat.le_of_ble_eq_true rfl) fl_RX5_7 rfl dX5_ticks_54 rfl ?_
      refine sk_sipush (pc' := 60) X sp_158 dX5_ticks_57 rfl ?_
      refine sk_iload_n (pc' := 61) X rfl dX5_ticks_60 rfl ?_
      refine sk_iadd (pc' := 62) X dX5_ticks_61 rfl ?_
      refine sk_iload_n (pc' := 63) X rfl dX5_ticks_62 rfl ?_
      refine sk_bipush (pc' := 65) X bp_m2 dX5_ticks_63 rfl ?_
      refine sk_iand (pc' := 66) X dX5_ticks_65 rfl ?_
      refine sk_iast (bs' := [(md_W G u0 (md_up N52 1 (((158 : Int32) + s25.2)).toNatClampNeg (x43 &&& (-2 : Int32))))]) (pc' := 67) X 0 1 rfl rfl (sk_st 0 (md_st_1 ..) rfl) dX5_ticks_66 rfl ?_
      refine sk_lt (bsf := fun z => [(md_W G u0 z)]) (lvf := fun _ => [some (.ref (u0 0)), some (.int s25.2), some (.int x43)]) (stf := fun _ => []) (fun N66 => ?_)
      refine sk_iinc (lv' := [some (.ref (u0 0)), some (.int (s25.2 + (1 : Int32))), some (.int x43)]) (pc' := 70) X rfl ic_1 (Nat.le_of_ble_eq_true rfl) rfl rfl dX5_ticks_67 rfl ?_
      refine sk_goto (tgt := 25) X dX5_ticks_70 rfl ?_
      exact (sk_kill 2 (ih25 (N66, (s25.2 + (1 : Int32)))))
  unfold m_X5_ticks
  refine sk_aload_n (pc' := 1) X rfl dX5_ticks_0 rfl ?_
  refine sk_getf (pc' := 4) X 0 0 0 in_RX5 rfl rfl rfl (Nat.le_of_ble_eq_true rfl) fl_RX5_7 rfl dX5_ticks_1 rfl ?_
  refine sk_iconst (pc' := 5) X ic_4 dX5_ticks_4 rfl ?_
  refine sk_dup2 (pc' := 6) X rfl rfl dX5_ticks_5 rfl ?_
  refine sk_iald (pc' := 7) X 0 1 rfl rfl dX5_ticks_6 rfl ?_
  refine sk_iconst (pc' := 8) X ic_1 dX5_ticks_7 rfl ?_
  refine sk_iadd (pc' := 9) X dX5_ticks_8 rfl ?_
  refine sk_iast (bs' := [(md_W G u0 (md_up S0 1 ((4 : Int32)).toNatClampNeg (((S0.1 1) ((4 : Int32)).toNatClampNeg) + (1 : Int32))))]) (pc' := 10) X 0 1 rfl rfl (sk_st 0 (md_st_1 ..) rfl) dX5_ticks_9 rfl ?_
  refine sk_lt (bsf := fun z => [(md_W G u0 z)]) (lvf := fun _ => [some (.ref (u0 0)), none, none]) (stf := fun _ => []) (fun N9 => ?_)
  refine sk_aload_n (pc' := 11) X rfl dX5_ticks_10 rfl ?_
  refine sk_getf (pc' := 14) X 0 0 0 in_RX5 rfl rfl rfl (Nat.le_of_ble_eq_true rfl) fl_RX5_7 rfl dX5_ticks_11 rfl ?_
  refine sk_bipush (pc' := 16) X bp_6 dX5_ticks_14 rfl ?_
  refine sk_iconst (pc' := 17) X ic_0 dX5_ticks_16 rfl ?_
  refine sk_iast (bs' := [(md_W G u0 (md_up N9 1 ((6 : Int32)).toNatClampNeg (0 : Int32)))]) (pc' := 18) X 0 1 rfl rfl (sk_st 0 (md_st_1 ..) rfl) dX5_ticks_17 rfl ?_
  refine sk_lt (bsf := fun z => [(md_W G u0 z)]) (lvf := fun _ => [some (.ref (u0 0)), none, none]) (stf := fun _ => []) (fun N17 => ?_)
  refine sk_aload_n (pc' := 19) X rfl dX5_ticks_18 rfl ?_
  refine sk_iconst (pc' := 20) X ic_0 dX5_ticks_19 rfl ?_
  refine sk_putf (bs' := [(md_W G u0 (md_up N17 0 8 (0 : Int32)))]) (pc' := 23) X 0 0 8 in_RX5 tyX5 tyX5_ok nmX5 rfl rfl rfl (Nat.le_of_ble_eq_true rfl) fl_RX5_123 rfl (tyX5_ok 8 (Nat.le_of_ble_eq_true rfl)) rfl rfl (Nat.le_of_ble_eq_true rfl) (sk_st 0 (md_pf_8 ..) rfl) dX5_ticks_20 rfl ?_
  refine sk_lt (bsf := fun z => [(md_W G u0 z)]) (lvf := fun _ => [some (.ref (u0 0)), none, none]) (stf := fun _ => []) (fun N20 => ?_)
  refine sk_iconst (pc' := 24) X ic_0 dX5_ticks_23 rfl ?_
  refine sk_istore_n (lv' := [some (.ref (u0 0)), some (.int (0 : Int32)), none]) (pc' := 25) X (Nat.le_of_ble_eq_true rfl) rfl rfl dX5_ticks_24 rfl ?_
  exact (h25 (N20, (0 : Int32)))
