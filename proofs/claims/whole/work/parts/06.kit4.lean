/-! throws: what a throwing method needs of its start -/
def xe_bad : List Cond := [(Cond.castable "java/lang/IllegalArgumentException" "java/lang/IllegalArgumentException"), (Cond.declares ({ cls := "java/lang/RuntimeException", name := "<init>", desc := "()V" } : Jvm.MethodName)), (Cond.declares ({ cls := "java/lang/RuntimeException", name := "<init>", desc := "(Ljava/lang/String;)V" } : Jvm.MethodName)), (Cond.declares ({ cls := "java/lang/Exception", name := "<init>", desc := "()V" } : Jvm.MethodName)), (Cond.declares ({ cls := "java/lang/Exception", name := "<init>", desc := "(Ljava/lang/String;)V" } : Jvm.MethodName)), (Cond.declares ({ cls := "java/lang/Throwable", name := "<init>", desc := "()V" } : Jvm.MethodName)), (Cond.declares ({ cls := "java/lang/Throwable", name := "<init>", desc := "(Ljava/lang/String;)V" } : Jvm.MethodName)), (Cond.castable "java/lang/IllegalStateException" "java/lang/IllegalStateException"), (Cond.castable "java/lang/IndexOutOfBoundsException" "java/lang/IndexOutOfBoundsException")]
theorem xe_bad_in : ∀ w ∈ xe_bad, w ∈ lw_tbl := by
  intro w hw
  simp only [xe_bad, List.mem_cons, List.not_mem_nil, or_false] at hw
  rcases hw with rfl | rfl | rfl | rfl | rfl | rfl | rfl | rfl | rfl
  · exact q_564
  · exact q_565
  · exact q_566
  · exact q_567
  · exact q_568
  · exact q_569
  · exact q_570
  · exact q_631
  · exact q_659
theorem xe_bad_on : ∀ w ∈ xe_bad, w.onTables = true := by decide +kernel
def xe_str : List (Nat × String) := [(283, "phase is not 0 to P - 1"), (46, "there are 10 clocks"), (278, "there is no such clock"), (68, "drift is not -9 to 9"), (78, "rhythm is not 1 to 99, or offset not 0 to 98"), (92, "the clock is good"), (100, "both clocks are the same, or delay is not 0 to 9"), (109, "there is no link between the clocks"), (114, "period is not 10 to 100"), (123, "what or value is out of range"), (132, "what is not 0 to 6"), (149, "n is not 1 to 99"), (186, "there is no such group"), (198, "groups is not 0 to 10"), (285, "the number of ticks is not 1 to 400"), (225, "value is not 0 to 127"), (228, "the text has 100 bytes"), (251, "no state is saved")]
theorem xe_str_in : ∀ q ∈ xe_str, Cond.stringRef RX4 q.1 q.2 ∈ lw_tbl := by
  intro q hq
  simp only [xe_str, List.mem_cons, List.not_mem_nil, or_false] at hq
  rcases hq with rfl | rfl | rfl | rfl | rfl | rfl | rfl | rfl | rfl | rfl | rfl | rfl | rfl | rfl | rfl | rfl | rfl | rfl
  · exact q_603
  · exact q_638
  · exact q_666
  · exact q_680
  · exact q_692
  · exact q_705
  · exact q_717
  · exact q_725
  · exact q_737
  · exact q_751
  · exact q_763
  · exact q_796
  · exact q_809
  · exact q_828
  · exact q_832
  · exact q_916
  · exact q_921
  · exact q_933
def xe_V (U : State) : Prop := (∀ w ∈ xe_bad, va_Nw w U) ∧ ∀ q ∈ xe_str, ∃ a, vk_R RX4 q.1 q.2 a U
theorem xe_V.warm {s U : State} (hW : s.WarmedH U.vm) (h : xe_V s) : xe_V U := by
  refine ⟨fun w hw => ?_, fun q hq => ?_⟩
  · have h1 := h.1 w hw
    simp only [xe_bad, List.mem_cons, List.not_mem_nil, or_false] at hw
    rcases hw with rfl | rfl | rfl | rfl | rfl | rfl | rfl | rfl | rfl <;> first | exact va_Nw.warmC hW h1 | exact va_Nw.warmD hW h1
  · obtain ⟨a, ha⟩ := h.2 q hq
    exact ⟨a, vk_R.warm hW ha⟩
theorem xe_V.same {s U : State} (hv : U.vm = s.vm) (h : xe_V s) : xe_V U := by
  refine ⟨fun w hw => va_Nw.same (xe_bad_on w hw) hv.symm (h.1 w hw), fun q hq => ?_⟩
  obtain ⟨a, ha⟩ := h.2 q hq
  exact ⟨a, vk_R.same hv ha⟩
def xe_mr : Nat → Int32 := fun k => if k = 0 then 99 else if k = 1 then 32 else 2
def xe_H (A : Nat → Prop) (t : Nat) (U : State) (H : Heap) : Prop := vx_Zq Bundle.tN "UNASSIGNED_STACK" Bundle.steD A U H ∧ vx_Zq Bundle.tN "SUPPRESSED_SENTINEL" Bundle.listD A U H ∧ va_Z RX4 "MOST_RESPONSE" "[I" (.ref t) A U H ∧ va_T .int t 3 (fun k => .int (xe_mr k)) A U H
theorem xe_H.moved {A : Nat → Prop} {t : Nat} {u U : State} {H : Heap} (hvm : u.vm.Alike U.vm) (h : xe_H A t u H) : xe_H A t U H := ⟨h.1.moved hvm, h.2.1.moved hvm, h.2.2.1.moved hvm, h.2.2.2.moved hvm⟩
theorem xe_H.kept {A : Nat → Prop} {t : Nat} {U : State} {H H1 : Heap} (h : xe_H A t U H) (hq : ∀ a : Nat, a < H.size → ¬ A a → H1[a]? = H[a]?) : xe_H A t U H1 := ⟨h.1.kept hq, h.2.1.kept hq, h.2.2.1.kept hq, h.2.2.2.kept hq⟩
theorem xe_H.narrow {A B : Nat → Prop} {t : Nat} {U : State} {H : Heap} (h : xe_H A t U H) (hAB : ∀ q, B q → A q) : xe_H B t U H := ⟨h.1.narrow hAB, h.2.1.narrow hAB, h.2.2.1.narrow hAB, h.2.2.2.narrow hAB⟩
def xe_n : Nat → String := fun e => if e = 1 then "java/lang/IllegalArgumentException" else if e = 2 then "java/lang/IllegalStateException" else "java/lang/IndexOutOfBoundsException"
def sk_Pcx (G : sk_G) (t : Nat) (av : List Value) (bs : sk_B) : Array Value → State → Prop := fun v U => sk_Pc G av bs v U ∧ xe_V U ∧ xe_H (sk_adr bs) t U U.heap
theorem sk_blindx {G : sk_G} {t : Nat} {av : List Value} {bs : sk_B} : FrameBlind (sk_Pcx G t av bs) := fun a U g mk q => ⟨sk_blind a U g mk q.1, xe_V.same (s := U) (U := U.calling g mk a) rfl q.2.1, xe_H.moved (u := U) (U := U.calling g mk a) (Vm.Alike.refl U.vm) q.2.2⟩
def sk_Qx {ρ : Type} (G : sk_G) (A : Nat → Prop) (ov : ρ → Option Value) (bsf : ρ → sk_B) (r : ρ ⊕ Nat) : Array Value → State → Outcome → State → Prop := match r with
  | .inl x => sk_Qc G A (ov x) (bsf x)
  | .inr _ => fun _ _ _ _ => False
def sk_XC {ρ : Type} (G : sk_G) (A : Nat → Prop) (bs : sk_B) (r : ρ ⊕ Nat) : String → State → State → Prop := match r with
  | .inl _ => fun _ _ _ => False
  | .inr e => fun E st t => E = xe_n e ∧ va_P G.1 sk_C bs.flatten t.heap ∧ va_F A st t
def sk_xtr {ρ : Type} (l : Launch) (G : sk_G) (t : Nat) (y : MethodName) (b : ByteArray) (nL : Nat) (ret : Option FieldType) (rm : Room) (mc ms : Nat) (av : List Value) (bs : sk_B) (f : Option (ρ ⊕ Nat)) (ov : ρ → Option Value) (bsf : ρ → sk_B) : Prop :=
  ∀ r, f = some r → vx_Met l y (.code y b nL ret :: lw_g) rm (sk_Pcx G t av bs) (sk_Qx G (sk_adr bs) ov bsf r) (sk_XC G (sk_adr bs) bs r) mc ms (sk_adr bs)
def sk_Φx {ρ : Type} (Γ : sk_K) (ov : ρ → Option Value) (bsf : ρ → sk_B) (bs : sk_B) (mc ms : Nat) : (ρ ⊕ Nat) → State → Prop := fun r => match Γ with
  | (_, _, _, _, s, _, args, below, _, _, G, _, A) => vx_MQ below (sk_Qx G A ov bsf r) (sk_XC G A bs r) args s mc ms A
def sk_E (Γ : sk_K) (t : Nat) : Prop := match Γ with
  | (_, l, _, _, s, _, _, _, _, c, _, _, A) => l.stackTraces = false ∧ (∀ x ∈ c.exceptionTable.toList, False) ∧ xe_V s ∧ xe_H A t s s.heap
def sk_xb {ρ ρ' : Type} (g : Option (ρ' ⊕ Nat)) (F : ρ' → Option (ρ ⊕ Nat)) : Option (ρ ⊕ Nat) := g.bind fun r => match r with
  | .inl x => F x
  | .inr e => some (.inr e)
theorem sk_xentry {ρ : Type} {l : Launch} (hl0 : l.stackTraces = false) {G : sk_G} {t : Nat} {y : MethodName} {b : ByteArray} {nL : Nat} {ret : Option FieldType} {rm : Room} {mc ms : Nat} {av : List Value} {bs : sk_B} {f : Option (ρ ⊕ Nat)} {ov : ρ → Option Value} {bsf : ρ → sk_B} {own : String} (hy : plainName y.cls = true) (ho : y.cls = own) {lv0 : List (Option Value)} (hlv : lo_prs 0 lv0 = lv_args 0 av) (hlen : (lg_sl av).length ≤ nL)
    (body : ∀ Γ : sk_K, sk_X Γ l G rm nL own b ret → sk_E Γ t → sk_S Γ (sk_Φx Γ ov bsf bs mc ms) 0 0 f bs lv0 0 []) : sk_xtr l G t y b nL ret rm mc ms av bs f ov bsf := by
  intro r hr
  refine vx_ofW (cc := b) (maxL := nL) (ret := ret) hy rfl ?_
  intro p e s m args below meth c s₁ B hml htab hv
  obtain ⟨⟨rfl, hP, hK, hD0⟩, hV, hH⟩ := hv
  have hts0 := atoms_spec (ws := .code y b nL ret :: lw_g) B.pre
  have hts : ∀ w ∈ lw_g, w.before av.toArray s = true := fun w hw => hts0 w (List.mem_cons_of_mem _ hw)
  have hown : s.vm.findClass own = some m.cls := by rw [← ho]; exact findClass_of_methodNamed B.named
  have hD : va_D (sk_adr bs) bs.flatten := ⟨hD0.1, fun k q hk => ⟨q, List.mem_of_getElem? hk, rfl⟩⟩
  have hl := lv_entry av (n := nL) hlen
  rw [← hlv] at hl
  rw [lg_entry_eq]
  exact body (p, l, e, rm, s, m, av.toArray, below, meth, c, G, nL, sk_adr bs) ⟨rfl, rfl, rfl, rfl, B.exec, B.bytes, hml, hown, hts, hK, B.notSynchronized, B.returns⟩ ⟨hl0, htab, hV, hH⟩ r hr s.heap [] _ hP hD va_S.rf hl
section SK5
variable {ρ : Type} {Γ : sk_K} {k n mc ms : Nat} {bs bs0 : sk_B} {lv : List (Option Value)} {pc pc' : Nat} {st : List Value} {l : Launch} {G : sk_G} {rm : Room} {nL : Nat} {own : String} {cc : ByteArray} {ret : Option FieldType} {ov : ρ → Option Value} {bsf : ρ → sk_B} {t : Nat}
theorem sk_xiret (X : sk_X Γ l G rm nL own cc (some .int)) {r : ρ} {v : Int32} (hk : k ≤ mc) (hn : n ≤ ms) (ho : ov r = some (.int v)) (hbs : bsf r = bs) (hd : decode cc pc = .ok (.ireturn, 1)) : sk_S Γ (sk_Φx Γ ov bsf bs0 mc ms) k n (some (.inl r)) bs lv pc [.int v] := by
  obtain ⟨p, l', e, R, s, m, args, below, meth, c, G', nL', A⟩ := Γ
  obtain ⟨rfl, rfl, rfl, rfl, hx, hb, hml, hown, hts, hK, hlocks, hret⟩ := X
  intro r' hf H locs ls hP hD hS hl
  cases hf
  exact W.widen hk hn (vx_ret (W.iret hx hb hret (fun t ht hW => ⟨by rw [ho], by rw [hbs, ht]; exact hP, hS.F ht⟩) hS.2.2 hd))
theorem sk_xzret (X : sk_X Γ l G rm nL own cc (some .boolean)) {r : ρ} {v : Int32} (hnr : narrow .boolean (.int v) = .int v) (hk : k ≤ mc) (hn : n ≤ ms) (ho : ov r = some (.int v)) (hbs : bsf r = bs) (hd : decode cc pc = .ok (.ireturn, 1)) : sk_S Γ (sk_Φx Γ ov bsf bs0 mc ms) k n (some (.inl r)) bs lv pc [.int v] := by
  obtain ⟨p, l', e, R, s, m, args, below, meth, c, G', nL', A⟩ := Γ
  obtain ⟨rfl, rfl, rfl, rfl, hx, hb, hml, hown, hts, hK, hlocks, hret⟩ := X
  intro r' hf H locs ls hP hD hS hl
  cases hf
  exact W.widen hk hn (vx_ret (W.zret hx hb hret hnr (fun t ht hW => ⟨by rw [ho], by rw [hbs, ht]; exact hP, hS.F ht⟩) hS.2.2 hd))
theorem sk_xvret (X : sk_X Γ l G rm nL own cc none) {r : ρ} (hk : k ≤ mc) (hn : n ≤ ms) (ho : ov r = none) (hbs : bsf r = bs) (hd : decode cc pc = .ok (.return_, 1)) : sk_S Γ (sk_Φx Γ ov bsf bs0 mc ms) k n (some (.inl r)) bs lv pc [] := by
  obtain ⟨p, l', e, R, s, m, args, below, meth, c, G', nL', A⟩ := Γ
  obtain ⟨rfl, rfl, rfl, rfl, hx, hb, hml, hown, hts, hK, hlocks, hret⟩ := X
  intro r' hf H locs ls hP hD hS hl
  cases hf
  exact W.widen hk hn (vx_ret (W.vret hx hb hret (fun t ht hW => ⟨by rw [ho], by rw [hbs, ht]; exact hP, hS.F ht⟩) hS.2.2 hd))
/-- the words of 'throw new cls("..")' in PulseClocks -/
def sk_tw (ik ic : Nat) (cls : String) : Prop := Cond.classLink RX4 ik cls ∈ lw_g ∧ Cond.initialized cls ∈ lw_g ∧ Bundle.fit cls = true ∧ (∀ w ∈ vx_atS RX4 ic cls ["java/lang/RuntimeException", "java/lang/Exception"], w ∈ lw_tbl ∧ (goodWord w = true ∨ w ∈ xe_bad)) ∧ ∀ w ∈ Cond.classLink RX4 ik cls :: Cond.initialized cls :: vx_atS RX4 ic cls ["java/lang/RuntimeException", "java/lang/Exception"], vx_ot w = true
theorem sk_xthrow (X : sk_X Γ l G rm nL RX4 cc ret) (E : sk_E Γ t) {cls text : String} {ik is ic : Nat} (e : Nat) (T : sk_tw ik ic cls) (hstr : (is, text) ∈ xe_str) (he : cls = xe_n e) (hfr : 5 < rm.frames) (hlo : (st.map fun v => v.category).sum + 82 ≤ rm.locals) (hk : k + 1 ≤ mc) (hn : n + 6 ≤ ms) (hrc : mc ≤ rm.cells ∧ ms ≤ rm.slots)
    (d0 : decode cc pc = .ok (.new ik, 3)) (d3 : decode cc (pc + 3) = .ok (.dup, 1)) (d4 : decode cc (pc + 4) = .ok (.ldc is, 2)) (d6 : decode cc (pc + 6) = .ok (.invokespecial ic, 3)) (d9 : decode cc (pc + 9) = .ok (.athrow, 1)) : sk_S Γ (sk_Φx Γ ov bsf bs mc ms) k n (some (.inr e)) bs lv pc st := by
  obtain ⟨p, l', en, R, s, m, args, below, meth, c, G', nL', A⟩ := Γ
  obtain ⟨rfl, rfl, rfl, rfl, hx, hb, hml, hown, hts, hK, hlocks, hret⟩ := X
  obtain ⟨hl0, htab, hV, hH⟩ := E
  intro r' hf H locs ls hP hD hS hl
  cases hf
  subst he
  obtain ⟨t1, t2, t3, t4, t5⟩ := T
  obtain ⟨sa, hsa⟩ := hV.2 _ hstr
  refine vx_throwS (names := ["java/lang/RuntimeException", "java/lang/Exception"]) (sa := sa) hx hb hl0 hown t3 (by decide) (hts _ t1) (hts _ t2) hsa (fun w hw => ?_) t5 hH.1 hH.2.1 hS (hl.1.trans hml.symm) d0 d3 d4 d6 d9 (fun x hx => (htab x hx).elim) hfr hlo (Nat.le_trans hk hrc.1) (Nat.le_trans hn hrc.2) hlocks (fun t' ha hz hq => ?_) hS.2.2 hk hn
  · rcases (t4 w hw).2 with h | h
    · exact hts w (List.mem_filter.mpr ⟨(t4 w hw).1, h⟩)
    · exact va_Nw.use (xe_bad_on w h) (hV.1 w h)
  · refine ⟨rfl, ?_, Nat.le_trans hS.1 hz, fun q h1 h2 => ?_⟩
    · exact va_P.kept hP (fun k q hk => hq q.1 (hP k q hk).lt)
    · rw [hq q (Nat.lt_of_lt_of_le h1 hS.1)]; exact hS.2.1 q h1 h2
theorem sk_xthrowW (X : sk_X Γ l G rm nL RX4 cc ret) (E : sk_E Γ t) {cls text : String} {ik is ic : Nat} (e : Nat) (T : sk_tw ik ic cls) (hstr : (is, text) ∈ xe_str) (he : cls = xe_n e) (hfr : 5 < rm.frames) (hlo : (st.map fun v => v.category).sum + 82 ≤ rm.locals) (hk : k + 1 ≤ mc) (hn : n + 6 ≤ ms) (hrc : mc ≤ rm.cells ∧ ms ≤ rm.slots)
    (d0 : decode cc pc = .ok (.new ik, 3)) (d3 : decode cc (pc + 3) = .ok (.dup, 1)) (d4 : decode cc (pc + 4) = .ok (.ldc_w is, 3)) (d6 : decode cc (pc + 7) = .ok (.invokespecial ic, 3)) (d9 : decode cc (pc + 10) = .ok (.athrow, 1)) : sk_S Γ (sk_Φx Γ ov bsf bs mc ms) k n (some (.inr e)) bs lv pc st := by
  obtain ⟨p, l', en, R, s, m, args, below, meth, c, G', nL', A⟩ := Γ
  obtain ⟨rfl, rfl, rfl, rfl, hx, hb, hml, hown, hts, hK, hlocks, hret⟩ := X
  obtain ⟨hl0, htab, hV, hH⟩ := E
  intro r' hf H locs ls hP hD hS hl
  cases hf
  subst he
  obtain ⟨t1, t2, t3, t4, t5⟩ := T
  obtain ⟨sa, hsa⟩ := hV.2 _ hstr
  refine vx_throwSW (names := ["java/lang/RuntimeException", "java/lang/Exception"]) (sa := sa) hx hb hl0 hown t3 (by decide) (hts _ t1) (hts _ t2) hsa (fun w hw => ?_) t5 hH.1 hH.2.1 hS (hl.1.trans hml.symm) d0 d3 d4 d6 d9 (fun x hx => (htab x hx).elim) hfr hlo (Nat.le_trans hk hrc.1) (Nat.le_trans hn hrc.2) hlocks (fun t' ha hz hq => ?_) hS.2.2 hk hn
  · rcases (t4 w hw).2 with h | h
    · exact hts w (List.mem_filter.mpr ⟨(t4 w hw).1, h⟩)
    · exact va_Nw.use (xe_bad_on w h) (hV.1 w h)
  · refine ⟨rfl, ?_, Nat.le_trans hS.1 hz, fun q h1 h2 => ?_⟩
    · exact va_P.kept hP (fun k q hk => hq q.1 (hP k q hk).lt)
    · rw [hq q (Nat.lt_of_lt_of_le h1 hS.1)]; exact hS.2.1 q h1 h2
end SK5
theorem sk_callVX {ρ ρ' : Type} {Γ : sk_K} {k n mc ms : Nat} {g : Option (ρ' ⊕ Nat)} {F : ρ' → Option (ρ ⊕ Nat)} {bs : sk_B} {lv : List (Option Value)} {pc pc' : Nat} {st stk : List Value} {l : Launch} {G : sk_G} {rm : Room} {nL : Nat} {own : String} {cc : ByteArray} {ret : Option FieldType} {ov0 : ρ → Option Value} {bsf0 : ρ → sk_B} {t : Nat}
  {y : MethodName} {b' : ByteArray} {nL' ix na : Nat} {ret' : Option FieldType} {rmc : Room} {mc' ms' : Nat} {cbs : sk_B} {ov : ρ' → Option Value} {cbsf : ρ' → sk_B} {bs2 : ρ' → sk_B} {st2 : ρ' → List Value}
    (X : sk_X Γ l G rm nL own cc ret) (E : sk_E Γ t) {a : Nat} {As : List Value} (C : sk_xtr l G t y b' nL' ret' rmc mc' ms' (.ref a :: As) cbs g ov cbsf) (L : sk_lkV own ix y b' nL' ret' na) (is : List Nat) (his : is.map (fun i => bs[i]?) = cbs.map some) (hnd : va_nd is = true) (hsame : ∀ r, (cbsf r).map sk_ad = cbs.map sk_ad)
    {w0 : va_W} {ci : Nat} {fs : List Value} {T : u_T} {N : Nat} (hw : cbs[0]? = some w0) (ha : w0[0]? = some (a, .inr (ci, fs))) (hc : sk_C[ci]? = some (y.cls, T, N))
    (hR : rmc.frames + 1 ≤ rm.frames ∧ 8 + (nL' + 11) + rmc.locals ≤ rm.locals) (hrc : rmc.cells = mc' ∧ rmc.slots = ms') (hkn : k + mc' ≤ mc ∧ n + ms' ≤ ms) (hrm : mc ≤ rm.cells ∧ ms ≤ rm.slots) (hna : As.length = na) (hW : (st.map fun v => v.category).sum ≤ 8) (hst : stk = As.reverse ++ .ref a :: st) (hd : decode cc pc = .ok (.invokevirtual ix, 3)) (hp : pc + 3 = pc')
    (hbs : ∀ r, sk_setL bs is (cbsf r) = bs2 r) (hself : sk_setL bs is cbs = bs) (hst2 : ∀ r, (ov r).toList ++ st = st2 r) (kk : ∀ r, sk_S Γ (sk_Φx Γ ov0 bsf0 bs mc ms) (k + mc') (n + ms') (F r) (bs2 r) lv pc' (st2 r)) : sk_S Γ (sk_Φx Γ ov0 bsf0 bs mc ms) k n (sk_xb g F) bs lv pc stk := by
  obtain ⟨p, l', e9_, R, s, m, args, below, meth, c, G', nL9, A⟩ := Γ
  obtain ⟨rfl, rfl, rfl, rfl, hx, hb, hml, hown, hts, hK, hlocks, hret⟩ := X
  obtain ⟨hl0, htab, hV, hH⟩ := E
  intro r hf H locs ls hP hD hS hl
  obtain ⟨x, hg, hF⟩ := Option.bind_eq_some_iff.mp hf
  have M := C x hg
  obtain ⟨hPc, hDc, hFc, at'⟩ := sk_sub is his hnd hP hD
  obtain ⟨L1, L2, L3, L4, L5, L6, L7, L8⟩ := L
  subst hst; subst hp
  obtain ⟨n0, h0, -⟩ := sk_flat hw ha
  have hws : ∀ w ∈ wsV own ix y.cls y (.code y b' nL' ret' :: lw_g), w ∈ lw_g := by
    intro w hw
    simp only [wsV, List.mem_append, List.mem_cons, List.not_mem_nil, or_false] at hw
    rcases hw with (rfl | rfl | rfl | rfl) | rfl | hw <;> assumption
  have run := vx_runV (p := p) (l := l') (e := e9_) (R := R) (s := s) (m := m) (args := args) (below := below) (meth := meth) (c := c) (H := H) (locs := locs) (cells := k) (slots := n) (As := As) (rest := st) (g := F0 m pc ls (As.reverse ++ .ref a :: st)) (Ts := lw_g) (own := own) (b := a)
    ⟨hx, hb, hml, hown, hts⟩ M (cwV na hts (sk_good hws) rfl hrc.1 hrc.2 ⟨rfl, L6, L7, L8⟩ hR) ⟨sk_blindx, va_recv hK hPc hc h0, fun U hU hW => ⟨⟨rfl, by rw [hU]; exact hPc, va_K.moved hW.alike hK, hDc⟩, hV.warm hW, by rw [hU]; exact ((hH.kept hS.2.1).narrow hFc).moved hW.alike⟩⟩ rfl hna hl.1 rfl (lv_room hW) hd ⟨Nat.le_trans hkn.1 hrm.1, Nat.le_trans hkn.2 hrm.2⟩
  have hSn : ∀ (T' t0 st₀ : State) (L0 : List Loc), st₀.heap = H → T'.heap = t0.heap → (∀ q ∈ L0, sk_adr cbs q.base) → va_F (sk_adr cbs) st₀ t0 → va_S A s.heap T'.heap (locs ++ L0) := by
    intro T' t0 st₀ L0 e0 e1 hL hF0
    obtain ⟨hz, hk⟩ := hF0
    rw [e0] at hz hk
    exact ⟨Nat.le_trans hS.1 (by rw [e1]; exact hz), fun q h1 h2 => by rw [e1, hk q (Nat.lt_of_lt_of_le h1 hS.1) (fun z => h2 (hFc q z))]; exact hS.2.1 q h1 h2, fun q hq => by
      rcases List.mem_append.mp hq with h | h
      · exact hS.2.2 q h
      · exact hFc _ (hL q h)⟩
  intro T0 hT X0
  rcases run T0 hT X0 with ⟨v, st₀, t0, T', L0, e0, X', hL, e1, e2, hQ, steps⟩ | ⟨q, st₀, t0, T', L0, E, ce, e0, X', hL, e1, e2, hXC, hce, hcv, hcl, steps⟩
  · cases x with
    | inr e => exact hQ.elim
    | inl x =>
      obtain ⟨hv, hP1, hF1⟩ := hQ
      cases hv
      have hS2 := hSn T' t0 st₀ L0 e0 e1 hL hF1
      obtain ⟨hPn, hDn⟩ := sk_back is his hnd hP hD (hsame x) (H1 := T'.heap) (by rw [e1]; exact hP1) (fun q h1 h2 => by rw [e1]; exact (by have := hF1.2; rw [e0] at this; exact this q h1 h2))
      rw [hbs x] at hPn hDn
      obtain ⟨t2, a1, b1⟩ := kk x r hF T'.heap (locs ++ L0) ls hPn hDn hS2 hl T' rfl X'
      rw [← hst2 x] at a1
      exact ⟨t2, steps t2 a1, b1⟩
  · cases x with
    | inl x => exact hXC.elim
    | inr e =>
      obtain ⟨hE, hP1, hF1⟩ := hXC
      cases hF
      have hS2 := hSn T' t0 st₀ L0 e0 e1 hL hF1
      obtain ⟨hPn, -⟩ := sk_back is his hnd hP hD rfl (H1 := T'.heap) (by rw [e1]; exact hP1) (fun q h1 h2 => by rw [e1]; exact (by have := hF1.2; rw [e0] at this; exact this q h1 h2))
      rw [hself] at hPn
      have out := vx_out (p := p) (l := l') (e := e9_) (R := R) (s := s) (m := m) (args := args) (below := below) (meth := meth) (c := c) (H := T'.heap) (locs := locs ++ L0) (cells := k + mc') (slots := n + ms') (free := A) (ls := ls) (rest := st) (Qc := sk_Qx G' A ov0 bsf0 (.inr e)) (XC := sk_XC G' A bs (.inr e : ρ ⊕ Nat)) (pc := pc) (E := E) (ce := ce) (q := q) (mc := mc) (ms := ms)
        (fun x hx => (htab x hx).elim) hlocks (by rw [e1]; exact hce) hcv hcl (fun t1 ht1 _ => ⟨hE, by rw [ht1]; exact hPn, hS2.F ht1⟩) hS2.2.2 hkn.1 hkn.2
      obtain ⟨t2, a1, b1⟩ := out T' rfl X'
      exact ⟨t2, steps.trans a1, b1⟩
theorem sk_callSX {ρ ρ' : Type} {Γ : sk_K} {k n mc ms : Nat} {g : Option (ρ' ⊕ Nat)} {F : ρ' → Option (ρ ⊕ Nat)} {bs : sk_B} {lv : List (Option Value)} {pc pc' : Nat} {st stk : List Value} {l : Launch} {G : sk_G} {rm : Room} {nL : Nat} {own : String} {cc : ByteArray} {ret : Option FieldType} {ov0 : ρ → Option Value} {bsf0 : ρ → sk_B} {t : Nat}
  {y : MethodName} {b' : ByteArray} {nL' ix na : Nat} {ret' : Option FieldType} {rmc : Room} {mc' ms' : Nat} {cbs : sk_B} {ov : ρ' → Option Value} {cbsf : ρ' → sk_B} {bs2 : ρ' → sk_B} {st2 : ρ' → List Value}
    (X : sk_X Γ l G rm nL own cc ret) (E : sk_E Γ t) {As : List Value} (C : sk_xtr l G t y b' nL' ret' rmc mc' ms' As cbs g ov cbsf) (L : sk_lkS own ix y b' nL' ret' na) (is : List Nat) (his : is.map (fun i => bs[i]?) = cbs.map some) (hnd : va_nd is = true) (hsame : ∀ r, (cbsf r).map sk_ad = cbs.map sk_ad)
    (hR : rmc.frames + 1 ≤ rm.frames ∧ 8 + (nL' + 11) + rmc.locals ≤ rm.locals) (hrc : rmc.cells = mc' ∧ rmc.slots = ms') (hkn : k + mc' ≤ mc ∧ n + ms' ≤ ms) (hrm : mc ≤ rm.cells ∧ ms ≤ rm.slots) (hna : As.length = na) (hW : (st.map fun v => v.category).sum ≤ 8) (hst : stk = As.reverse ++ st) (hd : decode cc pc = .ok (.invokestatic ix, 3)) (hp : pc + 3 = pc')
    (hbs : ∀ r, sk_setL bs is (cbsf r) = bs2 r) (hself : sk_setL bs is cbs = bs) (hst2 : ∀ r, (ov r).toList ++ st = st2 r) (kk : ∀ r, sk_S Γ (sk_Φx Γ ov0 bsf0 bs mc ms) (k + mc') (n + ms') (F r) (bs2 r) lv pc' (st2 r)) : sk_S Γ (sk_Φx Γ ov0 bsf0 bs mc ms) k n (sk_xb g F) bs lv pc stk := by
  obtain ⟨p, l', e9_, R, s, m, args, below, meth, c, G', nL9, A⟩ := Γ
  obtain ⟨rfl, rfl, rfl, rfl, hx, hb, hml, hown, hts, hK, hlocks, hret⟩ := X
  obtain ⟨hl0, htab, hV, hH⟩ := E
  intro r hf H locs ls hP hD hS hl
  obtain ⟨x, hg, hF⟩ := Option.bind_eq_some_iff.mp hf
  have M := C x hg
  obtain ⟨hPc, hDc, hFc, at'⟩ := sk_sub is his hnd hP hD
  obtain ⟨L1, L2, L4, L5, L6, L7, L8⟩ := L
  subst hst; subst hp
  have hws : ∀ w ∈ (.code y b' nL' ret' :: lw_g : List Cond), w ∈ lw_g := by
    intro w hw
    rcases List.mem_cons.mp hw with rfl | hw <;> assumption
  have run := vx_runS (p := p) (l := l') (e := e9_) (R := R) (s := s) (m := m) (args := args) (below := below) (meth := meth) (c := c) (H := H) (locs := locs) (cells := k) (slots := n) (As := As) (rest := st) (g := F0 m pc ls (As.reverse ++ st)) (Ts := lw_g) (own := own)
    ⟨hx, hb, hml, hown, hts⟩ M ⟨callB_of na hts (sk_good hws) rfl hrc.1 hrc.2 (hts _ L4) (hts _ L1) ⟨L6, L7, L8⟩ hR, hts _ L2⟩ ⟨sk_blindx, fun U hU hW => ⟨⟨rfl, by rw [hU]; exact hPc, va_K.moved hW.alike hK, hDc⟩, hV.warm hW, by rw [hU]; exact ((hH.kept hS.2.1).narrow hFc).moved hW.alike⟩⟩ rfl hna hl.1 rfl (lv_room hW) hd ⟨Nat.le_trans hkn.1 hrm.1, Nat.le_trans hkn.2 hrm.2⟩
  have hSn : ∀ (T' t0 st₀ : State) (L0 : List Loc), st₀.heap = H → T'.heap = t0.heap → (∀ q ∈ L0, sk_adr cbs q.base) → va_F (sk_adr cbs) st₀ t0 → va_S A s.heap T'.heap (locs ++ L0) := by
    intro T' t0 st₀ L0 e0 e1 hL hF0
    obtain ⟨hz, hk⟩ := hF0
    rw [e0] at hz hk
    exact ⟨Nat.le_trans hS.1 (by rw [e1]; exact hz), fun q h1 h2 => by rw [e1, hk q (Nat.lt_of_lt_of_le h1 hS.1) (fun z => h2 (hFc q z))]; exact hS.2.1 q h1 h2, fun q hq => by
      rcases List.mem_append.mp hq with h | h
      · exact hS.2.2 q h
      · exact hFc _ (hL q h)⟩
  intro T0 hT X0
  rcases run T0 hT X0 with ⟨v, st₀, t0, T', L0, e0, X', hL, e1, e2, hQ, steps⟩ | ⟨q, st₀, t0, T', L0, E, ce, e0, X', hL, e1, e2, hXC, hce, hcv, hcl, steps⟩
  · cases x with
    | inr e => exact hQ.elim
    | inl x =>
      obtain ⟨hv, hP1, hF1⟩ := hQ
      cases hv
      have hS2 := hSn T' t0 st₀ L0 e0 e1 hL hF1
      obtain ⟨hPn, hDn⟩ := sk_back is his hnd hP hD (hsame x) (H1 := T'.heap) (by rw [e1]; exact hP1) (fun q h1 h2 => by rw [e1]; exact (by have := hF1.2; rw [e0] at this; exact this q h1 h2))
      rw [hbs x] at hPn hDn
      obtain ⟨t2, a1, b1⟩ := kk x r hF T'.heap (locs ++ L0) ls hPn hDn hS2 hl T' rfl X'
      rw [← hst2 x] at a1
      exact ⟨t2, steps t2 a1, b1⟩
  · cases x with
    | inl x => exact hXC.elim
    | inr e =>
      obtain ⟨hE, hP1, hF1⟩ := hXC
      cases hF
      have hS2 := hSn T' t0 st₀ L0 e0 e1 hL hF1
      obtain ⟨hPn, -⟩ := sk_back is his hnd hP hD rfl (H1 := T'.heap) (by rw [e1]; exact hP1) (fun q h1 h2 => by rw [e1]; exact (by have := hF1.2; rw [e0] at this; exact this q h1 h2))
      rw [hself] at hPn
      have out := vx_out (p := p) (l := l') (e := e9_) (R := R) (s := s) (m := m) (args := args) (below := below) (meth := meth) (c := c) (H := T'.heap) (locs := locs ++ L0) (cells := k + mc') (slots := n + ms') (free := A) (ls := ls) (rest := st) (Qc := sk_Qx G' A ov0 bsf0 (.inr e)) (XC := sk_XC G' A bs (.inr e : ρ ⊕ Nat)) (pc := pc) (E := E) (ce := ce) (q := q) (mc := mc) (ms := ms)
        (fun x hx => (htab x hx).elim) hlocks (by rw [e1]; exact hce) hcv hcl (fun t1 ht1 _ => ⟨hE, by rw [ht1]; exact hPn, hS2.F ht1⟩) hS2.2.2 hkn.1 hkn.2
      obtain ⟨t2, a1, b1⟩ := out T' rfl X'
      exact ⟨t2, steps.trans a1, b1⟩
section SK6
variable {ρ : Type} {Γ : sk_K} {Φ : ρ → State → Prop} {k n : Nat} {f f0 f1 f2 f3 : Option ρ} {bs : sk_B} {lv : List (Option Value)} {pc pc' : Nat} {st : List Value} {l : Launch} {G : sk_G} {rm : Room} {nL : Nat} {own : String} {cc : ByteArray} {ret : Option FieldType} {t : Nat}
theorem sk_gets (X : sk_X Γ l G rm nL RX4 cc ret) (E : sk_E Γ t) {ix : Nat} (L : Cond.fieldLink RX4 ix RX4 "MOST_RESPONSE" "[I" ∈ lw_g) (hd : decode cc pc = .ok (.getstatic ix, 3)) (hp : pc + 3 = pc') (kk : sk_S Γ Φ k n f bs lv pc' (.ref t :: st)) : sk_S Γ Φ k n f bs lv pc st := by
  obtain ⟨p, l', e, R, s, m, args, below, meth, c, G', nL', A⟩ := Γ
  obtain ⟨rfl, rfl, rfl, rfl, hx, hb, hml, hown, hts, hK, hlocks, hret⟩ := X
  obtain ⟨hl0, htab, hV, hH⟩ := E
  intro r hf H locs ls hP hD hS hl
  subst hp
  exact va_gets hx hb hH.2.2.1 hS hown (hts _ L) (fun _ h => h) hd (kk r hf H locs ls hP hD hS hl)
theorem sk_slen (X : sk_X Γ l G rm nL own cc ret) (E : sk_E Γ t) (hd : decode cc pc = .ok (.arraylength, 1)) (hp : pc + 1 = pc') (kk : sk_S Γ Φ k n f bs lv pc' (.int 3 :: st)) : sk_S Γ Φ k n f bs lv pc (.ref t :: st) := by
  obtain ⟨p, l', e, R, s, m, args, below, meth, c, G', nL', A⟩ := Γ
  obtain ⟨rfl, rfl, rfl, rfl, hx, hb, hml, hown, hts, hK, hlocks, hret⟩ := X
  obtain ⟨hl0, htab, hV, hH⟩ := E
  intro r hf H locs ls hP hD hS hl
  subst hp
  exact va_tlen hx hb hH.2.2.2 hS rfl hd (kk r hf H locs ls hP hD hS hl)
theorem sk_sld (X : sk_X Γ l G rm nL own cc ret) (E : sk_E Γ t) {x : Int32} (hd : decode cc pc = .ok (.iaload, 1)) (hp : pc + 1 = pc') (kk : sk_S Γ Φ k n f bs lv pc' (.int (xe_mr x.toNatClampNeg) :: st)) : sk_S Γ Φ k n (if sk_in x 3 then f else none) bs lv pc (.int x :: .ref t :: st) := by
  obtain ⟨p, l', e, R, s, m, args, below, meth, c, G', nL', A⟩ := Γ
  obtain ⟨rfl, rfl, rfl, rfl, hx, hb, hml, hown, hts, hK, hlocks, hret⟩ := X
  obtain ⟨hl0, htab, hV, hH⟩ := E
  intro r hf H locs ls hP hD hS hl
  subst hp
  by_cases hy : sk_in x 3 = true
  · rw [if_pos hy] at hf
    exact va_ti hx hb hH.2.2.2 hS (sk_in_iff.mp hy) rfl hd (kk r hf H locs ls hP hD hS hl)
  · rw [if_neg hy] at hf; cases hf
theorem sk_aald (X : sk_X Γ l G rm nL own cc ret) (i j : Nat) {w : va_W} {a b0 b1 b2 b3 : Nat} {x : Int32} (hw : bs[i]? = some w) (ha : w[j]? = some (a, .inl (G.2 3, 4, .inr (.inr (.inr (.inr (sv_f b0 b1 b2 b3))))))) (hd : decode cc pc = .ok (.aaload, 1)) (hp : pc + 1 = pc') (k0 : sk_S Γ Φ k n f0 bs lv pc' (.ref b0 :: st)) (k1 : sk_S Γ Φ k n f1 bs lv pc' (.ref b1 :: st)) (k2 : sk_S Γ Φ k n f2 bs lv pc' (.ref b2 :: st)) (k3 : sk_S Γ Φ k n f3 bs lv pc' (.ref b3 :: st)) :
    sk_S Γ Φ k n (if sk_in x 4 then (if x.toNatClampNeg = 0 then f0 else if x.toNatClampNeg = 1 then f1 else if x.toNatClampNeg = 2 then f2 else f3) else none) bs lv pc (.int x :: .ref a :: st) := by
  obtain ⟨p, l', e, R, s, m, args, below, meth, c, G', nL', A⟩ := Γ
  obtain ⟨rfl, rfl, rfl, rfl, hx, hb, hml, hown, hts, hK, hlocks, hret⟩ := X
  intro r hf H locs ls hP hD hS hl
  subst hp
  by_cases hy : sk_in x 4 = true
  · rw [if_pos hy] at hf
    obtain ⟨n0, h0, -⟩ := sk_flat hw ha
    refine va_aldq (C := "PulseClocks$Network") hx hb hK hP n0 3 h0 rfl (sk_in_iff.mp hy) hd ?_
    by_cases c0 : x.toNatClampNeg = 0
    · rw [if_pos c0] at hf
      have hv : va_rf (sv_f b0 b1 b2 b3 x.toNatClampNeg) = .ref b0 := by rw [c0]; rfl
      rw [hv]; exact k0 r hf H locs ls hP hD hS hl
    rw [if_neg c0] at hf
    by_cases c1 : x.toNatClampNeg = 1
    · rw [if_pos c1] at hf
      have hv : va_rf (sv_f b0 b1 b2 b3 x.toNatClampNeg) = .ref b1 := by rw [c1]; rfl
      rw [hv]; exact k1 r hf H locs ls hP hD hS hl
    rw [if_neg c1] at hf
    by_cases c2 : x.toNatClampNeg = 2
    · rw [if_pos c2] at hf
      have hv : va_rf (sv_f b0 b1 b2 b3 x.toNatClampNeg) = .ref b2 := by rw [c2]; rfl
      rw [hv]; exact k2 r hf H locs ls hP hD hS hl
    rw [if_neg c2] at hf
    have hv : va_rf (sv_f b0 b1 b2 b3 x.toNatClampNeg) = .ref b3 := by unfold sv_f; rw [if_neg c0, if_neg c1, if_neg c2]; rfl
    rw [hv]; exact k3 r hf H locs ls hP hD hS hl
  · rw [if_neg hy] at hf; cases hf
end SK6

