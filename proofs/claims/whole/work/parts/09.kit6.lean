/-! methods with a table of handlers (the law's wrappers) -/
def xe_N (U : State) : Prop := ∀ e1 ∈ [1, 2, 3], ∀ e2 ∈ [1, 2, 3], e1 ≠ e2 → va_Nc (xe_n e1) (xe_n e2) U
theorem xe_N.moved {u U : State} (hvm : u.vm.Alike U.vm) (h : xe_N u) : xe_N U := fun e1 h1 e2 h2 h3 => (h e1 h1 e2 h2 h3).moved hvm
theorem xe_cast : ∀ e ∈ [1, 2, 3], Cond.castable (xe_n e) (xe_n e) ∈ xe_bad := by decide +kernel
def sk_Pch (G : sk_G) (t : Nat) (av : List Value) (bs : sk_B) : Array Value → State → Prop := fun v U => sk_Pcx G t av bs v U ∧ xe_N U
theorem sk_blindh {G : sk_G} {t : Nat} {av : List Value} {bs : sk_B} : FrameBlind (sk_Pch G t av bs) := fun a U g mk q => ⟨sk_blindx a U g mk q.1, xe_N.moved (u := U) (U := U.calling g mk a) (Vm.Alike.refl U.vm) q.2⟩
theorem sk_ofWH {l : Launch} {y : MethodName} {ws ws' : List Cond} {rm : Room} {Pc : Array Value → State → Prop} {Qc : Array Value → State → Outcome → State → Prop} {mc ms : Nat} {free : Addr → Prop} {cc : ByteArray} {maxL : Nat} {ret : Option FieldType} {hh : List (Nat × Nat × Nat × Nat)}
    (hy : plainName y.cls = true) (hw : ws = Cond.codeWith y cc maxL ret hh :: ws')
    (body : ∀ p e s m args below meth c s₁, BodyLoose p l y (headSpec ws rm) cc maxL ret e s m args below meth c s₁ → c.maxLocals = maxL → c.exceptionTable.toList = tableOf hh → Pc args s →
      W p l e (headSpec ws rm).room s m args below meth c s.heap [] 0 0 (MQ below Qc args s mc ms free) (entryFrame m args maxL)) : Met l y ws rm Pc Qc mc ms free := by
  refine MetFree.of_bodyS (code := cc) (maxLocals := maxL) (ret := ret) hy ?_ ?_
  · intro args s m h hn
    obtain ⟨m9, meth, c, hn9, h1, h2, h3, h4, -, h5, h6, -⟩ := Cond.codeWith_spec (atoms_spec (ws := ws) h _ (by rw [hw]; exact List.mem_cons_self))
    cases hn.symm.trans hn9
    exact ⟨meth, c, h1, h2, h3, h4, h5, h6⟩
  · intro p e s m args below meth c s₁ B hml hP _
    have hh0 : s₁.heap = s.heap := by rw [B.state]; rfl
    have ht : c.exceptionTable.toList = tableOf hh := vx_table (x := y) B (atoms_spec (ws := ws) B.pre _ (by rw [hw]; exact List.mem_cons_self))
    obtain ⟨t, a1, o, b1, b2, b3⟩ := body p e s m args below meth c s₁ B hml ht hP s₁ hh0 (Stand.of_body B)
    exact ⟨t, o, a1, b1, b2, ⟨b3.1, b3.2⟩⟩
def sk_wtr {ρ : Type} (l : Launch) (G : sk_G) (t : Nat) (y : MethodName) (b : ByteArray) (nL : Nat) (ret : Option FieldType) (hh : List (Nat × Nat × Nat × Nat)) (rm : Room) (mc ms : Nat) (av : List Value) (bs : sk_B) (f : Option ρ) (ov : ρ → Option Value) (bsf : ρ → sk_B) : Prop :=
  ∀ r, f = some r → Met l y (.codeWith y b nL ret hh :: lw_g) rm (sk_Pch G t av bs) (sk_Qc G (sk_adr bs) (ov r) (bsf r)) mc ms (sk_adr bs)
def sk_Φw {ρ : Type} (Γ : sk_K) (ov : ρ → Option Value) (bsf : ρ → sk_B) (mc ms : Nat) : ρ → State → Prop := fun r => match Γ with
  | (_, _, _, _, s, _, args, below, _, _, G, _, A) => MQ below (sk_Qc G A (ov r) (bsf r)) args s mc ms A
def sk_EH (Γ : sk_K) (t : Nat) (hh : List (Nat × Nat × Nat × Nat)) : Prop := match Γ with
  | (_, _, _, _, s, _, _, _, _, c, _, _, A) => c.exceptionTable.toList = tableOf hh ∧ xe_V s ∧ xe_H A t s s.heap ∧ xe_N s
def sk_xh {ρ ρ' : Type} (g : Option (ρ' ⊕ Nat)) (F : ρ' → Option ρ) (Fx : Nat → Option ρ) : Option ρ := g.bind fun r => match r with
  | .inl x => F x
  | .inr e => Fx e
theorem sk_wentry {ρ : Type} {l : Launch} {G : sk_G} {t : Nat} {y : MethodName} {b : ByteArray} {nL : Nat} {ret : Option FieldType} {hh : List (Nat × Nat × Nat × Nat)} {rm : Room} {mc ms : Nat} {av : List Value} {bs : sk_B} {f : Option ρ} {ov : ρ → Option Value} {bsf : ρ → sk_B} {own : String} (hy : plainName y.cls = true) (ho : y.cls = own) {lv0 : List (Option Value)} (hlv : lo_prs 0 lv0 = lv_args 0 av) (hlen : (lg_sl av).length ≤ nL)
    (body : ∀ Γ : sk_K, sk_X Γ l G rm nL own b ret → sk_EH Γ t hh → sk_S Γ (sk_Φw Γ ov bsf mc ms) 0 0 f bs lv0 0 []) : sk_wtr l G t y b nL ret hh rm mc ms av bs f ov bsf := by
  intro r hr
  refine sk_ofWH (cc := b) (maxL := nL) (ret := ret) (hh := hh) hy rfl ?_
  intro p e s m args below meth c s₁ B hml htab hv
  obtain ⟨⟨⟨rfl, hP, hK, hD0⟩, hV, hH⟩, hN⟩ := hv
  have hts0 := atoms_spec (ws := .codeWith y b nL ret hh :: lw_g) B.pre
  have hts : ∀ w ∈ lw_g, w.before av.toArray s = true := fun w hw => hts0 w (List.mem_cons_of_mem _ hw)
  have hown : s.vm.findClass own = some m.cls := by rw [← ho]; exact findClass_of_methodNamed B.named
  have hD : va_D (sk_adr bs) bs.flatten := ⟨hD0.1, fun k q hk => ⟨q, List.mem_of_getElem? hk, rfl⟩⟩
  have hl := lv_entry av (n := nL) hlen
  rw [← hlv] at hl
  rw [lg_entry_eq]
  exact body (p, l, e, rm, s, m, av.toArray, below, meth, c, G, nL, sk_adr bs) ⟨rfl, rfl, rfl, rfl, B.exec, B.bytes, hml, hown, hts, hK, B.notSynchronized, B.returns⟩ ⟨htab, hV, hH, hN⟩ r hr s.heap [] _ hP hD va_S.rf hl
theorem sk_wiret {ρ : Type} {Γ : sk_K} {k n mc ms : Nat} {bs : sk_B} {lv : List (Option Value)} {pc : Nat} {l : Launch} {G : sk_G} {rm : Room} {nL : Nat} {own : String} {cc : ByteArray} {ov : ρ → Option Value} {bsf : ρ → sk_B} (X : sk_X Γ l G rm nL own cc (some .int)) {r : ρ} {v : Int32} (hk : k ≤ mc) (hn : n ≤ ms) (ho : ov r = some (.int v)) (hbs : bsf r = bs) (hd : decode cc pc = .ok (.ireturn, 1)) : sk_S Γ (sk_Φw Γ ov bsf mc ms) k n (some r) bs lv pc [.int v] := by
  obtain ⟨p, l', e, R, s, m, args, below, meth, c, G', nL', A⟩ := Γ
  obtain ⟨rfl, rfl, rfl, rfl, hx, hb, hml, hown, hts, hK, hlocks, hret⟩ := X
  intro r' hf H locs ls hP hD hS hl
  cases hf
  exact W.widen hk hn (W.iret hx hb hret (fun t ht hW => ⟨by rw [ho], by rw [hbs, ht]; exact hP, hS.F ht⟩) hS.2.2 hd)
def ot_W (G : sk_G) (u : Nat → Nat) (S : Nat → Int64) : va_W := [(u 0, .inl (G.2 1, 1, .inr (.inl S)))]
theorem ot_st_0 (G : sk_G) (u : Nat → Nat) (S : Nat → Int64) (k : Nat) (v : Int64) : (ot_W G u S).set 0 (u 0, .inl (G.2 1, 1, .inr (.inl (vp_updL S k v)))) = ot_W G u (vp_updL S k v) := rfl
theorem sk_callVH1 {ρ ρ' : Type} {Γ : sk_K} {Φ : ρ → State → Prop} {k n : Nat} {g : Option (ρ' ⊕ Nat)} {F : ρ' → Option ρ} {f1 : Option ρ} {bs : sk_B} {lv : List (Option Value)} {pc pc' : Nat} {st stk : List Value} {l : Launch} {G : sk_G} {rm : Room} {nL : Nat} {own : String} {cc : ByteArray} {ret : Option FieldType} {t : Nat} {to h1 c1 : Nat}
  {y : MethodName} {b' : ByteArray} {nL' ix na : Nat} {ret' : Option FieldType} {rmc : Room} {mc' ms' : Nat} {cbs : sk_B} {ov : ρ' → Option Value} {cbsf : ρ' → sk_B} {bs2 : ρ' → sk_B} {st2 : ρ' → List Value}
    (X : sk_X Γ l G rm nL own cc ret) (E : sk_EH Γ t [(0, to, h1, c1)]) {a : Nat} {As : List Value} (C : sk_xtr l G t y b' nL' ret' rmc mc' ms' (.ref a :: As) cbs g ov cbsf) (L : sk_lkV own ix y b' nL' ret' na) (is : List Nat) (his : is.map (fun i => bs[i]?) = cbs.map some) (hnd : va_nd is = true) (hsame : ∀ r, (cbsf r).map sk_ad = cbs.map sk_ad)
    {w0 : va_W} {ci : Nat} {fs : List Value} {T : u_T} {N : Nat} (hw : cbs[0]? = some w0) (ha : w0[0]? = some (a, .inr (ci, fs))) (hc : sk_C[ci]? = some (y.cls, T, N))
    (hR : rmc.frames + 1 ≤ rm.frames ∧ 8 + (nL' + 11) + rmc.locals ≤ rm.locals) (hrc : rmc.cells = mc' ∧ rmc.slots = ms') (hkn : k + mc' ≤ rm.cells ∧ n + ms' ≤ rm.slots) (hna : As.length = na) (hW : (st.map fun v => v.category).sum ≤ 8) (hst : stk = As.reverse ++ .ref a :: st) (hd : decode cc pc = .ok (.invokevirtual ix, 3)) (hp : pc + 3 = pc')
    (hbs : ∀ r, sk_setL bs is (cbsf r) = bs2 r) (hself : sk_setL bs is cbs = bs) (hst2 : ∀ r, (ov r).toList ++ st = st2 r) (e1 : Nat) (he1 : e1 ∈ [1, 2, 3]) (hc1 : c1 ≠ 0) (l1 : Cond.classLink own c1 (xe_n e1) ∈ lw_g) (v1 : covers ⟨0, to, h1, c1⟩ pc = true) (kk : ∀ r, sk_S Γ Φ (k + mc') (n + ms') (F r) (bs2 r) lv pc' (st2 r)) (k1 : ∀ q : Nat, sk_S Γ Φ (k + mc') (n + ms') f1 bs lv h1 [.ref q]) : sk_S Γ Φ k n (sk_xh g F (fun e => if e = e1 then f1 else none)) bs lv pc stk := by
  obtain ⟨p, l', e9_, R, s, m, args, below, meth, c, G', nL9, A⟩ := Γ
  obtain ⟨rfl, rfl, rfl, rfl, hx, hb, hml, hown, hts, hK, hlocks, hret⟩ := X
  obtain ⟨htab, hV, hH, hN⟩ := E
  intro r hf H locs ls hP hD hS hl
  obtain ⟨x, hg, hF⟩ := Option.bind_eq_some_iff.mp hf
  have M := C x hg
  obtain ⟨hPc, hDc, hFc, at'⟩ := sk_sub is his hnd hP hD
  obtain ⟨L1, L2, L3, L4, L5, L6, L7, L8⟩ := L
  subst hst; subst hp
  obtain ⟨n0, h0, -⟩ := sk_flat hw ha
  have hws : ∀ w ∈ wsV own ix y.cls y (.code y b' nL' ret' :: lw_g), w ∈ lw_g := by
    intro w hw
    simp only [wsV, List.mem_append, List.mem_cons, List.not_mem_nil, or_false] at hw
    rcases hw with (rfl | rfl | rfl | rfl) | rfl | hw <;> assumption
  have run := vx_runV (p := p) (l := l') (e := e9_) (R := R) (s := s) (m := m) (args := args) (below := below) (meth := meth) (c := c) (H := H) (locs := locs) (cells := k) (slots := n) (As := As) (rest := st) (g := F0 m pc ls (As.reverse ++ .ref a :: st)) (Ts := lw_g) (own := own) (b := a)
    ⟨hx, hb, hml, hown, hts⟩ M (cwV na hts (sk_good hws) rfl hrc.1 hrc.2 ⟨rfl, L6, L7, L8⟩ hR) ⟨sk_blindx, va_recv hK hPc hc h0, fun U hU hW => ⟨⟨rfl, by rw [hU]; exact hPc, va_K.moved hW.alike hK, hDc⟩, hV.warm hW, by rw [hU]; exact ((hH.kept hS.2.1).narrow hFc).moved hW.alike⟩⟩ rfl hna hl.1 rfl (lv_room hW) hd hkn
  have hSn : ∀ (T' t0 st₀ : State) (L0 : List Loc), st₀.heap = H → T'.heap = t0.heap → (∀ q ∈ L0, sk_adr cbs q.base) → va_F (sk_adr cbs) st₀ t0 → va_S A s.heap T'.heap (locs ++ L0) := by
    intro T' t0 st₀ L0 e0 e1 hL hF0
    obtain ⟨hz, hk⟩ := hF0
    rw [e0] at hz hk
    exact ⟨Nat.le_trans hS.1 (by rw [e1]; exact hz), fun q h1 h2 => by rw [e1, hk q (Nat.lt_of_lt_of_le h1 hS.1) (fun z => h2 (hFc q z))]; exact hS.2.1 q h1 h2, fun q hq => by
      rcases List.mem_append.mp hq with h | h
      · exact hS.2.2 q h
      · exact hFc _ (hL q h)⟩
  intro T0 hT X0
  rcases run T0 hT X0 with ⟨v, st₀, t0, T', L0, e0, X', hL, ea, eb, hQ, steps⟩ | ⟨q, st₀, t0, T', L0, E, ce, e0, X', hL, ea, eb, hXC, hce, hcv, hcl, steps⟩
  · cases x with
    | inr e => exact hQ.elim
    | inl x =>
      obtain ⟨hv, hP1, hF1⟩ := hQ
      cases hv
      have hS2 := hSn T' t0 st₀ L0 e0 ea hL hF1
      obtain ⟨hPn, hDn⟩ := sk_back is his hnd hP hD (hsame x) (H1 := T'.heap) (by rw [ea]; exact hP1) (fun q h1 h2 => by rw [ea]; exact (by have := hF1.2; rw [e0] at this; exact this q h1 h2))
      rw [hbs x] at hPn hDn
      obtain ⟨t2, a1, b1⟩ := kk x r hF T'.heap (locs ++ L0) ls hPn hDn hS2 hl T' rfl X'
      rw [← hst2 x] at a1
      exact ⟨t2, steps t2 a1, b1⟩
  · cases x with
    | inl x => exact hXC.elim
    | inr e =>
      obtain ⟨hE, hP1, hF1⟩ := hXC
      subst hE
      have hS2 := hSn T' t0 st₀ L0 e0 ea hL hF1
      obtain ⟨hPn, hDn⟩ := sk_back is his hnd hP hD rfl (H1 := T'.heap) (by rw [ea]; exact hP1) (fun q h1 h2 => by rw [ea]; exact (by have := hF1.2; rw [e0] at this; exact this q h1 h2))
      rw [hself] at hPn hDn
      replace hF : (if e = e1 then f1 else none) = some r := hF
      by_cases hc9 : e = e1
      · rw [if_pos hc9] at hF
        subst hc9
        have kw := k1 q r hF T'.heap (locs ++ L0) ls hPn hDn hS2 hl
        have cat := vx_catch (p := p) (l := l') (e := e9_) (R := R) (s := s) (m := m) (args := args) (below := below) (meth := meth) (c := c) (locs := locs ++ L0) (rest := st) (pc := pc) (name := xe_n e) hown [] ⟨0, to, h1, c1⟩ _ htab (fun z hz => nomatch hz) v1 hc1 (hts _ l1) (va_Nw.use rfl (hV.1 _ (xe_cast e he1))) (by rw [ea]; exact hce) hcv hcl kw
        obtain ⟨t2, a1, b1⟩ := cat T' rfl X'
        exact ⟨t2, steps.trans a1, b1⟩
      · rw [if_neg hc9] at hF
        cases hF
theorem sk_callVH2 {ρ ρ' : Type} {Γ : sk_K} {Φ : ρ → State → Prop} {k n : Nat} {g : Option (ρ' ⊕ Nat)} {F : ρ' → Option ρ} {f1 f2 : Option ρ} {bs : sk_B} {lv : List (Option Value)} {pc pc' : Nat} {st stk : List Value} {l : Launch} {G : sk_G} {rm : Room} {nL : Nat} {own : String} {cc : ByteArray} {ret : Option FieldType} {t : Nat} {to h1 c1 h2 c2 : Nat}
  {y : MethodName} {b' : ByteArray} {nL' ix na : Nat} {ret' : Option FieldType} {rmc : Room} {mc' ms' : Nat} {cbs : sk_B} {ov : ρ' → Option Value} {cbsf : ρ' → sk_B} {bs2 : ρ' → sk_B} {st2 : ρ' → List Value}
    (X : sk_X Γ l G rm nL own cc ret) (E : sk_EH Γ t [(0, to, h1, c1), (0, to, h2, c2)]) {a : Nat} {As : List Value} (C : sk_xtr l G t y b' nL' ret' rmc mc' ms' (.ref a :: As) cbs g ov cbsf) (L : sk_lkV own ix y b' nL' ret' na) (is : List Nat) (his : is.map (fun i => bs[i]?) = cbs.map some) (hnd : va_nd is = true) (hsame : ∀ r, (cbsf r).map sk_ad = cbs.map sk_ad)
    {w0 : va_W} {ci : Nat} {fs : List Value} {T : u_T} {N : Nat} (hw : cbs[0]? = some w0) (ha : w0[0]? = some (a, .inr (ci, fs))) (hc : sk_C[ci]? = some (y.cls, T, N))
    (hR : rmc.frames + 1 ≤ rm.frames ∧ 8 + (nL' + 11) + rmc.locals ≤ rm.locals) (hrc : rmc.cells = mc' ∧ rmc.slots = ms') (hkn : k + mc' ≤ rm.cells ∧ n + ms' ≤ rm.slots) (hna : As.length = na) (hW : (st.map fun v => v.category).sum ≤ 8) (hst : stk = As.reverse ++ .ref a :: st) (hd : decode cc pc = .ok (.invokevirtual ix, 3)) (hp : pc + 3 = pc')
    (hbs : ∀ r, sk_setL bs is (cbsf r) = bs2 r) (hself : sk_setL bs is cbs = bs) (hst2 : ∀ r, (ov r).toList ++ st = st2 r) (e1 : Nat) (he1 : e1 ∈ [1, 2, 3]) (hc1 : c1 ≠ 0) (l1 : Cond.classLink own c1 (xe_n e1) ∈ lw_g) (v1 : covers ⟨0, to, h1, c1⟩ pc = true) (e2 : Nat) (he2 : e2 ∈ [1, 2, 3]) (hc2 : c2 ≠ 0) (l2 : Cond.classLink own c2 (xe_n e2) ∈ lw_g) (v2 : covers ⟨0, to, h2, c2⟩ pc = true) (hne : e2 ≠ e1) (kk : ∀ r, sk_S Γ Φ (k + mc') (n + ms') (F r) (bs2 r) lv pc' (st2 r)) (k1 : ∀ q : Nat, sk_S Γ Φ (k + mc') (n + ms') f1 bs lv h1 [.ref q]) (k2 : ∀ q : Nat, sk_S Γ Φ (k + mc') (n + ms') f2 bs lv h2 [.ref q]) : sk_S Γ Φ k n (sk_xh g F (fun e => if e = e1 then f1 else if e = e2 then f2 else none)) bs lv pc stk := by
  obtain ⟨p, l', e9_, R, s, m, args, below, meth, c, G', nL9, A⟩ := Γ
  obtain ⟨rfl, rfl, rfl, rfl, hx, hb, hml, hown, hts, hK, hlocks, hret⟩ := X
  obtain ⟨htab, hV, hH, hN⟩ := E
  intro r hf H locs ls hP hD hS hl
  obtain ⟨x, hg, hF⟩ := Option.bind_eq_some_iff.mp hf
  have M := C x hg
  obtain ⟨hPc, hDc, hFc, at'⟩ := sk_sub is his hnd hP hD
  obtain ⟨L1, L2, L3, L4, L5, L6, L7, L8⟩ := L
  subst hst; subst hp
  obtain ⟨n0, h0, -⟩ := sk_flat hw ha
  have hws : ∀ w ∈ wsV own ix y.cls y (.code y b' nL' ret' :: lw_g), w ∈ lw_g := by
    intro w hw
    simp only [wsV, List.mem_append, List.mem_cons, List.not_mem_nil, or_false] at hw
    rcases hw with (rfl | rfl | rfl | rfl) | rfl | hw <;> assumption
  have run := vx_runV (p := p) (l := l') (e := e9_) (R := R) (s := s) (m := m) (args := args) (below := below) (meth := meth) (c := c) (H := H) (locs := locs) (cells := k) (slots := n) (As := As) (rest := st) (g := F0 m pc ls (As.reverse ++ .ref a :: st)) (Ts := lw_g) (own := own) (b := a)
    ⟨hx, hb, hml, hown, hts⟩ M (cwV na hts (sk_good hws) rfl hrc.1 hrc.2 ⟨rfl, L6, L7, L8⟩ hR) ⟨sk_blindx, va_recv hK hPc hc h0, fun U hU hW => ⟨⟨rfl, by rw [hU]; exact hPc, va_K.moved hW.alike hK, hDc⟩, hV.warm hW, by rw [hU]; exact ((hH.kept hS.2.1).narrow hFc).moved hW.alike⟩⟩ rfl hna hl.1 rfl (lv_room hW) hd hkn
  have hSn : ∀ (T' t0 st₀ : State) (L0 : List Loc), st₀.heap = H → T'.heap = t0.heap → (∀ q ∈ L0, sk_adr cbs q.base) → va_F (sk_adr cbs) st₀ t0 → va_S A s.heap T'.heap (locs ++ L0) := by
    intro T' t0 st₀ L0 e0 e1 hL hF0
    obtain ⟨hz, hk⟩ := hF0
    rw [e0] at hz hk
    exact ⟨Nat.le_trans hS.1 (by rw [e1]; exact hz), fun q h1 h2 => by rw [e1, hk q (Nat.lt_of_lt_of_le h1 hS.1) (fun z => h2 (hFc q z))]; exact hS.2.1 q h1 h2, fun q hq => by
      rcases List.mem_append.mp hq with h | h
      · exact hS.2.2 q h
      · exact hFc _ (hL q h)⟩
  intro T0 hT X0
  rcases run T0 hT X0 with ⟨v, st₀, t0, T', L0, e0, X', hL, ea, eb, hQ, steps⟩ | ⟨q, st₀, t0, T', L0, E, ce, e0, X', hL, ea, eb, hXC, hce, hcv, hcl, steps⟩
  · cases x with
    | inr e => exact hQ.elim
    | inl x =>
      obtain ⟨hv, hP1, hF1⟩ := hQ
      cases hv
      have hS2 := hSn T' t0 st₀ L0 e0 ea hL hF1
      obtain ⟨hPn, hDn⟩ := sk_back is his hnd hP hD (hsame x) (H1 := T'.heap) (by rw [ea]; exact hP1) (fun q h1 h2 => by rw [ea]; exact (by have := hF1.2; rw [e0] at this; exact this q h1 h2))
      rw [hbs x] at hPn hDn
      obtain ⟨t2, a1, b1⟩ := kk x r hF T'.heap (locs ++ L0) ls hPn hDn hS2 hl T' rfl X'
      rw [← hst2 x] at a1
      exact ⟨t2, steps t2 a1, b1⟩
  · cases x with
    | inl x => exact hXC.elim
    | inr e =>
      obtain ⟨hE, hP1, hF1⟩ := hXC
      subst hE
      have hS2 := hSn T' t0 st₀ L0 e0 ea hL hF1
      obtain ⟨hPn, hDn⟩ := sk_back is his hnd hP hD rfl (H1 := T'.heap) (by rw [ea]; exact hP1) (fun q h1 h2 => by rw [ea]; exact (by have := hF1.2; rw [e0] at this; exact this q h1 h2))
      rw [hself] at hPn hDn
      replace hF : (if e = e1 then f1 else if e = e2 then f2 else none) = some r := hF
      by_cases hc9 : e = e1
      · rw [if_pos hc9] at hF
        subst hc9
        have kw := k1 q r hF T'.heap (locs ++ L0) ls hPn hDn hS2 hl
        have cat := vx_catch (p := p) (l := l') (e := e9_) (R := R) (s := s) (m := m) (args := args) (below := below) (meth := meth) (c := c) (locs := locs ++ L0) (rest := st) (pc := pc) (name := xe_n e) hown [] ⟨0, to, h1, c1⟩ _ htab (fun z hz => nomatch hz) v1 hc1 (hts _ l1) (va_Nw.use rfl (hV.1 _ (xe_cast e he1))) (by rw [ea]; exact hce) hcv hcl kw
        obtain ⟨t2, a1, b1⟩ := cat T' rfl X'
        exact ⟨t2, steps.trans a1, b1⟩
      · rw [if_neg hc9] at hF
        by_cases hc8 : e = e2
        · rw [if_pos hc8] at hF
          subst hc8
          have kw := k2 q r hF T'.heap (locs ++ L0) ls hPn hDn hS2 hl
          have cat := vx_catch (p := p) (l := l') (e := e9_) (R := R) (s := s) (m := m) (args := args) (below := below) (meth := meth) (c := c) (locs := locs ++ L0) (rest := st) (pc := pc) (name := xe_n e) hown [⟨0, to, h1, c1⟩] ⟨0, to, h2, c2⟩ _ htab (fun z hz => by rw [List.mem_singleton] at hz; subst hz; exact Or.inr ⟨hc1, xe_n e1, hts _ l1, hN e he2 e1 he1 hne⟩) v2 hc2 (hts _ l2) (va_Nw.use rfl (hV.1 _ (xe_cast e he2))) (by rw [ea]; exact hce) hcv hcl kw
          obtain ⟨t2, a1, b1⟩ := cat T' rfl X'
          exact ⟨t2, steps.trans a1, b1⟩
        · rw [if_neg hc8] at hF
          cases hF
