def lw_s0 : lw_σ := (nt_S nt_D, z0, nt_S nt_D, z0, nt_S nt_D, z0, z0, nt_S nt_D, z0, nt_S nt_D, z0, nt_S nt_D, z0, nt_S nt_D, z0, z0, md_S (md_D 100), (fun _ => 0), 0)
set_option maxRecDepth 100000 in
theorem lw_env {s : State} {b : Nat} (hts : ∀ w ∈ lw_tbl, w.before #[Value.ref b] s = true) (hgv : (Jvm.Cond.and given_1 narrow_1).before #[Value.ref b] s = true) :
    ∃ (G : sk_G) (t : Nat), va_K G.1 sk_C (sk_T G) s ∧ xe_V s ∧ (∀ A : Nat → Prop, (∀ a : Nat, a < s.heap.size → ¬ A a) → xe_H A t s s.heap) ∧ xe_N s ∧ xk_V s := by
  have hg : ∀ w ∈ lw_g, w.before #[Value.ref b] s = true := fun w hw => hts w (lw_g_in w hw)
  obtain ⟨c0, iS0, hK0⟩ := u_known (C := RX0) (T := TX0) (N := 4) (n := 4) hg in_RX0 (hg _ q_108)
  obtain ⟨c1, iS1, hK1⟩ := u_known (C := RX1) (T := TX1) (N := 14) (n := 14) hg in_RX1 (hg _ q_102)
  obtain ⟨c2, iS2, hK2⟩ := u_known (C := RX2) (T := TX2) (N := 3) (n := 3) hg in_RX2 (hg _ q_180)
  obtain ⟨c3, iS3, hK3⟩ := u_known (C := RX3) (T := TX3) (N := 6) (n := 6) hg in_RX3 (hg _ q_200)
  obtain ⟨c4, iS4, hK4⟩ := u_known (C := RX4) (T := TX4) (N := 5) (n := 5) hg in_RX4 (hg _ q_94)
  obtain ⟨c5, iS5, hK5⟩ := u_known (C := RX5) (T := TX5) (N := 16) (n := 16) hg in_RX5 (hg _ q_939)
  obtain ⟨a0, ka0, co0, f0a, f0b, f0c⟩ := Cond.arrayClass_spec (hg _ q_129)
  obtain ⟨a1, ka1, co1, f1a, f1b, f1c⟩ := Cond.arrayClass_spec (hg _ q_1331)
  obtain ⟨a2, ka2, co2, f2a, f2b, f2c⟩ := Cond.arrayClass_spec (hg _ q_227)
  obtain ⟨co3, a3, ka3, f3d, -, f3b, f3c, f3a⟩ := Cond.arrayOver_spec (hts _ q_186)
  have hcur : s.vm.findClass RX4 = some c4 := hK4.2.1
  have hf := flat_of_before _ hgv
  have harr : (Cond.arrayOf (.static "PulseClocks" "MOST_RESPONSE" "[I") .int).before #[Value.ref b] s = true := hf _ (by decide +kernel)
  have hlen : (Term.length (.static "PulseClocks" "MOST_RESPONSE" "[I")).eval #[Value.ref b] s none [] s = some (.int 3) := va_eqt (hf (.eq (.length (.static "PulseClocks" "MOST_RESPONSE" "[I")) (.int 3)) (by decide +kernel))
  have he0 : (Term.elem (.static "PulseClocks" "MOST_RESPONSE" "[I") (.int 0)).eval #[Value.ref b] s none [] s = some (.int 99) := va_eqt (hf (.eq (.elem (.static "PulseClocks" "MOST_RESPONSE" "[I") (.int 0)) (.int 99)) (by decide +kernel))
  have he1 : (Term.elem (.static "PulseClocks" "MOST_RESPONSE" "[I") (.int 1)).eval #[Value.ref b] s none [] s = some (.int 32) := va_eqt (hf (.eq (.elem (.static "PulseClocks" "MOST_RESPONSE" "[I") (.int 1)) (.int 32)) (by decide +kernel))
  have he2 : (Term.elem (.static "PulseClocks" "MOST_RESPONSE" "[I") (.int 2)).eval #[Value.ref b] s none [] s = some (.int 2) := va_eqt (hf (.eq (.elem (.static "PulseClocks" "MOST_RESPONSE" "[I") (.int 2)) (.int 2)) (by decide +kernel))
  have hU : (Cond.isRef (.static Bundle.tN "UNASSIGNED_STACK" Bundle.steD)).before #[Value.ref b] s = true := hf _ (by decide +kernel)
  have hSu : (Cond.isRef (.static Bundle.tN "SUPPRESSED_SENTINEL" Bundle.listD)).before #[Value.ref b] s = true := hf _ (by decide +kernel)
  have n12 : va_Nc (xe_n 1) (xe_n 2) s := va_Nc.of (hf (.not (.castable "java/lang/IllegalArgumentException" "java/lang/IllegalStateException")) (by decide +kernel))
  have n13 : va_Nc (xe_n 1) (xe_n 3) s := va_Nc.of (hf (.not (.castable "java/lang/IllegalArgumentException" "java/lang/IndexOutOfBoundsException")) (by decide +kernel))
  have n21 : va_Nc (xe_n 2) (xe_n 1) s := va_Nc.of (hf (.not (.castable "java/lang/IllegalStateException" "java/lang/IllegalArgumentException")) (by decide +kernel))
  have n23 : va_Nc (xe_n 2) (xe_n 3) s := va_Nc.of (hf (.not (.castable "java/lang/IllegalStateException" "java/lang/IndexOutOfBoundsException")) (by decide +kernel))
  have n31 : va_Nc (xe_n 3) (xe_n 1) s := va_Nc.of (hf (.not (.castable "java/lang/IndexOutOfBoundsException" "java/lang/IllegalArgumentException")) (by decide +kernel))
  have n32 : va_Nc (xe_n 3) (xe_n 2) s := va_Nc.of (hf (.not (.castable "java/lang/IndexOutOfBoundsException" "java/lang/IllegalStateException")) (by decide +kernel))
  have hel : ∀ j : Nat, j < 3 → (Term.elem (.static "PulseClocks" "MOST_RESPONSE" "[I") (.int (Int32.ofNat j))).eval #[Value.ref b] s none [] s = some (Value.int (xe_mr j)) := by
    intro j hj
    match j, hj with
    | 0, _ => exact he0
    | 1, _ => exact he1
    | 2, _ => exact he2
    | j + 3, hj => exact absurd hj (by omega)
  obtain ⟨t, ht, hT0⟩ := va_Tof (f := fun k => .int (xe_mr k)) (A := fun q => s.heap.size ≤ q) (by decide) harr hlen hel (fun a h1 h2 => absurd h1 (Nat.not_lt.mpr h2))
  refine ⟨((fun k => if k = 0 then c0 else if k = 1 then c1 else if k = 2 then c2 else if k = 3 then c3 else if k = 4 then c4 else c5, fun k => if k = 0 then iS0 else if k = 1 then iS1 else if k = 2 then iS2 else if k = 3 then iS3 else if k = 4 then iS4 else iS5), fun k => if k = 0 then a0 else if k = 1 then a1 else if k = 2 then a2 else a3), t, ⟨?_, ?_⟩, ⟨?_, ?_⟩, ?_, ?_, ?_⟩
  · intro k q hq
    match k, hq with
    | 0, hq => cases hq; exact hK0
    | 1, hq => cases hq; exact hK1
    | 2, hq => cases hq; exact hK2
    | 3, hq => cases hq; exact hK3
    | 4, hq => cases hq; exact hK4
    | 5, hq => cases hq; exact hK5
    | k + 6, hq => simp [sk_C] at hq
  · intro k q hq
    match k, hq with
    | 0, hq => cases hq; exact ⟨fun N z => ⟨(fun k h => by cases h), ka0, f0b, co0, f0c⟩, f0a⟩
    | 1, hq => cases hq; exact ⟨fun N z => ⟨(fun k h => by cases h), ka1, f1b, co1, f1c⟩, f1a⟩
    | 2, hq => cases hq; exact ⟨fun N z => ⟨(fun k h => by cases h), ka2, f2b, co2, f2c⟩, f2a⟩
    | 3, hq => cases hq; exact ⟨fun N z => ⟨(fun k h => by cases h), ka3, f3b, co3, f3c⟩, ka3, co3, f3b, f3c, f3d, f3a⟩
    | k + 4, hq => simp [sk_T] at hq
  · intro w hw
    exact va_Nw.of (xe_bad_on w hw) (hts w (xe_bad_in w hw))
  · intro q hq
    have h1 := hts _ (xe_str_in q hq)
    obtain ⟨k, cf, i, a, -, -, -, -, -, he⟩ := Cond.stringRef_spec hcur h1
    refine ⟨a, vk_R.of (A := #[]) ?_ ?_⟩
    · first
        | exact va_tabs rfl rfl h1
        | (simp only [Cond.before, Cond.holds, Cond.value] at h1 ⊢; exact h1)
    · rw [Term.string_eval_of_vm (args := #[]) rfl] at he
      exact he
  · intro A hA
    refine ⟨vx_Zqof (hts _ q_589) (hg _ q_84) hU hA, vx_Zqof (hts _ q_591) (hg _ q_84) hSu hA, va_Zof (hts _ q_750) (hg _ q_78) ht hA, ?_⟩
    obtain ⟨cell, g1, g2, g3, g4, g5, g6, -⟩ := hT0
    exact ⟨cell, g1, g2, g3, g4, g5, g6, hA t (Array.getElem?_eq_some_iff.mp g1).1⟩
  · intro e1 h1 e2 h2 hne
    simp only [List.mem_cons, List.not_mem_nil, or_false] at h1 h2
    rcases h1 with rfl | rfl | rfl <;> rcases h2 with rfl | rfl | rfl <;> first | exact absurd rfl hne | assumption
  · exact ⟨va_Nw.of rfl (hts _ q_109), va_Nw.of rfl (hts _ q_201), va_AO.of (by first | exact hts _ q_186 | exact va_tabs rfl rfl (hts _ q_186))⟩
set_option maxHeartbeats 4000000 in
set_option maxRecDepth 100000 in
theorem whole_from (hpure : ∀ (L : Nat) (xs : Nat → Int32), L ≤ 2048 → m_L_loop L xs lw_s0 = some 1) {p : Program} {e : Env} {s : State} {m : MethodId} {below : List Frame} {meth : Method} {c : Code} (l : Launch) (hflags : l.flags = flags0) {b L : Nat} {xs : Nat → Int32} (hL : L ≤ 2048) (C0 : lw_At p s m meth c b L xs) : W p l e room_1 s m #[Value.ref b] below meth c s.heap [] 0 0 (lw_Z below #[Value.ref b] s) (entryFrame m ([Value.ref b] : List Value).toArray 7) := by
  obtain ⟨hx, hb, hr, hml, hown, hts, hX, hbl, hlocks, hgv⟩ := C0
  have hl0 : l.stackTraces = false := by unfold Launch.stackTraces; rw [hflags]; decide +kernel
  obtain ⟨G, t, hK, hV, hH, hN, hKV⟩ := lw_env hts hgv
  have key : ∀ Γ : sk_K, sk_X Γ l G room_1 7 RL code ret → sk_AA Γ → sk_EK Γ → sk_EL Γ t b L xs → (∀ q, Γ.2.2.2.2.2.2.2.2.2.2.2.2 q → Γ.2.2.2.2.1.heap.size ≤ q) → Γ.2.2.2.2.2.2.1 = #[Value.ref b] → sk_S Γ (lw_Φ Γ b) 0 0 (m_L_loop L xs lw_s0) [] [some (.ref b), none, none, none, none, none, none] 0 [] := by
    intro Γ X AA EK E hA hav
    refine sk_new (bs2 := fun q43 => [[(q43, .inr (4, [.null, .null, .null, .null, .null]))]]) (pc' := 3) X AA 4 in_RX4 tyX4 tyX4_ok rfl q_93 q_94 q_78 df_X4 (fun _ => rfl) (Nat.le_of_ble_eq_true rfl) (Nat.le_of_ble_eq_true rfl) dL_law_0 rfl (fun q43 => ?_)
    refine sk_dup (pc' := 4) X rfl dL_law_3 rfl ?_
    refine sk_callI (bs2 := fun x44 => [(pc_W (va_up (x44 0) 0 q43) (x44 1 0) (x44 3 0) (x44 5 0) (x44 7 0) (x44 16 0)), (nt_W G (x44 1) (x44 2 0) (nt_S nt_D)), (lg_W G (x44 2) z0), (nt_W G (x44 3) (x44 4 0) (nt_S nt_D)), (lg_W G (x44 4) z0), (nt_W G (x44 5) (x44 6 0) (nt_S nt_D)), (lg_W G (x44 6) z0), (sv_W G (x44 7) (x44 8 0) (x44 10 0) (x44 12 0) (x44 14 0) z0), (nt_W G (x44 8) (x44 9 0) (nt_S nt_D)), (lg_W G (x44 9) z0), (nt_W G (x44 10) (x44 11 0) (nt_S nt_D)), (lg_W G (x44 11) z0), (nt_W G (x44 12) (x44 13 0) (nt_S nt_D)), (lg_W G (x44 13) z0), (nt_W G (x44 14) (x44 15 0) (nt_S nt_D)), (lg_W G (x44 15) z0), (sc_W G (x44 16) z0)]) (bs0 := []) (pc' := 7) X AA EK (k_X4 l G q43) ki_RL_99 rfl rfl ⟨(Nat.le_of_ble_eq_true rfl), (Nat.le_of_ble_eq_true rfl)⟩ ⟨rfl, rfl⟩ ⟨(Nat.le_of_ble_eq_true rfl), (Nat.le_of_ble_eq_true rfl)⟩ (Nat.le_of_ble_eq_true rfl) dL_law_4 rfl (fun _ => rfl) (fun x44 => ?_)
    refine sk_astore_n (lv' := [some (.ref b), some (.ref q43), none, none, none, none, none]) (pc' := 8) X (Nat.le_of_ble_eq_true rfl) rfl rfl dL_law_7 rfl ?_
    refine sk_new (bs2 := fun q45 => [(pc_W (va_up (x44 0) 0 q43) (x44 1 0) (x44 3 0) (x44 5 0) (x44 7 0) (x44 16 0)), (nt_W G (x44 1) (x44 2 0) (nt_S nt_D)), (lg_W G (x44 2) z0), (nt_W G (x44 3) (x44 4 0) (nt_S nt_D)), (lg_W G (x44 4) z0), (nt_W G (x44 5) (x44 6 0) (nt_S nt_D)), (lg_W G (x44 6) z0), (sv_W G (x44 7) (x44 8 0) (x44 10 0) (x44 12 0) (x44 14 0) z0), (nt_W G (x44 8) (x44 9 0) (nt_S nt_D)), (lg_W G (x44 9) z0), (nt_W G (x44 10) (x44 11 0) (nt_S nt_D)), (lg_W G (x44 11) z0), (nt_W G (x44 12) (x44 13 0) (nt_S nt_D)), (lg_W G (x44 13) z0), (nt_W G (x44 14) (x44 15 0) (nt_S nt_D)), (lg_W G (x44 15) z0), (sc_W G (x44 16) z0), [(q45, .inr (5, [.null, .null, .null, .int 0, .int 0, .null, .int 0, .null, .int 0, .null, .int 0, .null, .null, .int 0, .int 0, .long 0]))]]) (pc' := 11) X AA 5 in_RX5 tyX5 tyX5_ok rfl q_938 q_939 q_83 df_X5 (fun _ => rfl) (Nat.le_of_ble_eq_true rfl) (Nat.le_of_ble_eq_true rfl) dL_law_8 rfl (fun q45 => ?_)
    refine sk_dup (pc' := 12) X rfl dL_law_11 rfl ?_
    refine sk_callI (bs2 := fun x46 => [(pc_W (va_up (x44 0) 0 q43) (x44 1 0) (x44 3 0) (x44 5 0) (x44 7 0) (x44 16 0)), (nt_W G (x44 1) (x44 2 0) (nt_S nt_D)), (lg_W G (x44 2) z0), (nt_W G (x44 3) (x44 4 0) (nt_S nt_D)), (lg_W G (x44 4) z0), (nt_W G (x44 5) (x44 6 0) (nt_S nt_D)), (lg_W G (x44 6) z0), (sv_W G (x44 7) (x44 8 0) (x44 10 0) (x44 12 0) (x44 14 0) z0), (nt_W G (x44 8) (x44 9 0) (nt_S nt_D)), (lg_W G (x44 9) z0), (nt_W G (x44 10) (x44 11 0) (nt_S nt_D)), (lg_W G (x44 11) z0), (nt_W G (x44 12) (x44 13 0) (nt_S nt_D)), (lg_W G (x44 13) z0), (nt_W G (x44 14) (x44 15 0) (nt_S nt_D)), (lg_W G (x44 15) z0), (sc_W G (x44 16) z0), (md_W G (va_up x46 0 q45) (md_S (md_D 100)))]) (bs0 := [(pc_W (va_up (x44 0) 0 q43) (x44 1 0) (x44 3 0) (x44 5 0) (x44 7 0) (x44 16 0)), (nt_W G (x44 1) (x44 2 0) (nt_S nt_D)), (lg_W G (x44 2) z0), (nt_W G (x44 3) (x44 4 0) (nt_S nt_D)), (lg_W G (x44 4) z0), (nt_W G (x44 5) (x44 6 0) (nt_S nt_D)), (lg_W G (x44 6) z0), (sv_W G (x44 7) (x44 8 0) (x44 10 0) (x44 12 0) (x44 14 0) z0), (nt_W G (x44 8) (x44 9 0) (nt_S nt_D)), (lg_W G (x44 9) z0), (nt_W G (x44 10) (x44 11 0) (nt_S nt_D)), (lg_W G (x44 11) z0), (nt_W G (x44 12) (x44 13 0) (nt_S nt_D)), (lg_W G (x44 13) z0), (nt_W G (x44 14) (x44 15 0) (nt_S nt_D)), (lg_W G (x44 15) z0), (sc_W G (x44 16) z0)]) (pc' := 15) X AA EK (k_X5 l G q45) ki_RL_102 rfl rfl ⟨(Nat.le_of_ble_eq_true rfl), (Nat.le_of_ble_eq_true rfl)⟩ ⟨rfl, rfl⟩ ⟨(Nat.le_of_ble_eq_true rfl), (Nat.le_of_ble_eq_true rfl)⟩ (Nat.le_of_ble_eq_true rfl) dL_law_12 rfl (fun _ => rfl) (fun x46 => ?_)
    refine sk_astore_n (lv' := [some (.ref b), some (.ref q43), some (.ref q45), none, none, none, none]) (pc' := 16) X (Nat.le_of_ble_eq_true rfl) rfl rfl dL_law_15 rfl ?_
    refine sk_iconst (v := 1) (pc' := 17) X (by decide) dL_law_16 rfl ?_
    refine sk_newa_long (N := 1) (bs2 := fun q47 => [(pc_W (va_up (x44 0) 0 q43) (x44 1 0) (x44 3 0) (x44 5 0) (x44 7 0) (x44 16 0)), (nt_W G (x44 1) (x44 2 0) (nt_S nt_D)), (lg_W G (x44 2) z0), (nt_W G (x44 3) (x44 4 0) (nt_S nt_D)), (lg_W G (x44 4) z0), (nt_W G (x44 5) (x44 6 0) (nt_S nt_D)), (lg_W G (x44 6) z0), (sv_W G (x44 7) (x44 8 0) (x44 10 0) (x44 12 0) (x44 14 0) z0), (nt_W G (x44 8) (x44 9 0) (nt_S nt_D)), (lg_W G (x44 9) z0), (nt_W G (x44 10) (x44 11 0) (nt_S nt_D)), (lg_W G (x44 11) z0), (nt_W G (x44 12) (x44 13 0) (nt_S nt_D)), (lg_W G (x44 13) z0), (nt_W G (x44 14) (x44 15 0) (nt_S nt_D)), (lg_W G (x44 15) z0), (sc_W G (x44 16) z0), (md_W G (va_up x46 0 q45) (md_S (md_D 100))), [(q47, .inl (G.2 1, 1, .inr (.inl (fun _ => 0))))]]) (pc' := 19) X AA (by decide) (by decide) (Nat.le_of_ble_eq_true rfl) (fun _ => rfl) (Nat.le_of_ble_eq_true rfl) (Nat.le_of_ble_eq_true rfl) dL_law_17 rfl (fun q47 => ?_)
    refine sk_astore_n (lv' := [some (.ref b), some (.ref q43), some (.ref q45), some (.ref q47), none, none, none]) (pc' := 20) X (Nat.le_of_ble_eq_true rfl) rfl rfl dL_law_19 rfl ?_
    refine sk_iconst (v := 0) (pc' := 21) X (by decide) dL_law_20 rfl ?_
    refine sk_istore (lv' := [some (.ref b), some (.ref q43), some (.ref q45), some (.ref q47), some (.int (0 : Int32)), none, none]) (pc' := 23) X (Nat.le_of_ble_eq_true rfl) rfl rfl dL_law_21 rfl ?_
    exact sk_widen (k2 := kl 0) (n2 := nl 0) (Nat.le_of_ble_eq_true rfl) (Nat.le_of_ble_eq_true rfl) (lw_loop hl0 X E hA hav (va_up (x44 0) 0 q43) (x44 1) (x44 2) (x44 3) (x44 4) (x44 5) (x44 6) (x44 7) (x44 8) (x44 9) (x44 10) (x44 11) (x44 12) (x44 13) (x44 14) (x44 15) (x44 16) (va_up x46 0 q45) (fun _ => q47) lw_s0)
  have hl := lv_entry [Value.ref b] (n := 7) (Nat.le_of_ble_eq_true rfl)
  have hl2 : lv_has _ 7 (lo_prs 0 [some (.ref b), none, none, none, none, none, none]) := hl
  rw [lg_entry_eq]
  have W0 := key (p, l, e, room_1, s, m, #[Value.ref b], below, meth, c, G, 7, fun q => s.heap.size ≤ q) ⟨rfl, rfl, rfl, rfl, hx, hb, hml, hown, fun w hw => hts w (lw_g_in w hw), hK, hlocks, hr⟩ (fun _ h => h) hKV ⟨hV, hH _ (fun a h1 h2 => absurd h1 (Nat.not_lt.mpr h2)), hN, hX, hbl, Nat.not_le.mpr hbl⟩ (fun _ h => h) rfl
  have W1 := W0 1 (hpure L xs hL) s.heap [] _ (fun k q h => by simp at h) ⟨fun i j p q h => by simp at h, fun k q h => by simp at h⟩ va_S.rf hl2
  intro T hT X
  obtain ⟨t2, a1, b1⟩ := W1 T hT X
  exact ⟨t2, a1, b1 rfl⟩
