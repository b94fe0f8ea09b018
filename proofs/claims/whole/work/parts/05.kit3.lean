/-! contracts over blocks, entry, return, calls -/
abbrev sk_ad (w : va_W) : List Nat := w.map Prod.fst
def sk_setL : sk_B → List Nat → sk_B → sk_B
  | bs, i :: is, c :: cs => sk_setL (bs.set i c) is cs
  | bs, [], _ => bs
  | bs, _ :: _, [] => bs
theorem sk_setL_mem : ∀ (is : List Nat) (cs bs : sk_B) (w : va_W), w ∈ sk_setL bs is cs → is.length = cs.length → w ∈ cs ∨ ∃ j, j ∉ is ∧ bs[j]? = some w
  | [], cs, bs, w, h, _ => by
    rw [sk_setL] at h
    obtain ⟨j, hj⟩ := List.getElem?_of_mem h
    exact Or.inr ⟨j, by simp, hj⟩
  | i :: is, [], bs, w, h, hl => by simp at hl
  | i :: is, c :: cs, bs, w, h, hl => by
    rw [sk_setL] at h
    rcases sk_setL_mem is cs (bs.set i c) w h (by simpa using hl) with h1 | ⟨j, h1, h2⟩
    · exact Or.inl (List.mem_cons_of_mem _ h1)
    · by_cases hji : j = i
      · subst hji
        have hlt : j < bs.length := by
          have := (List.getElem?_eq_some_iff.mp h2).1
          simpa using this
        rw [List.getElem?_set_self hlt] at h2
        cases h2
        exact Or.inl List.mem_cons_self
      · rw [List.getElem?_set_ne (Ne.symm hji)] at h2
        exact Or.inr ⟨j, by simp [hji, h1], h2⟩
theorem sk_setL_ad : ∀ (is : List Nat) (cs bs : sk_B), is.map (fun i => (bs.map sk_ad)[i]?) = (cs.map sk_ad).map some → (sk_setL bs is cs).map sk_ad = bs.map sk_ad
  | [], cs, bs, _ => by rw [sk_setL]
  | i :: is, [], bs, h => by simp at h
  | i :: is, c :: cs, bs, h => by
    rw [sk_setL]
    simp only [List.map_cons, List.cons.injEq] at h
    have h1 : (bs.set i c).map sk_ad = bs.map sk_ad := by
      rw [List.map_set]
      apply List.ext_getElem?
      intro j
      by_cases hj : j = i
      · subst hj
        have hlt := (List.getElem?_eq_some_iff.mp h.1).1
        rw [List.getElem?_set_self hlt, h.1]
      · rw [List.getElem?_set_ne (Ne.symm hj)]
    rw [sk_setL_ad is cs (bs.set i c) (by rw [h1]; exact h.2), h1]
theorem sk_D2 {A : Nat → Prop} {bs : sk_B} : va_D A bs.flatten ↔ (∀ w ∈ bs, (w.map Prod.fst).Pairwise (· ≠ ·)) ∧ (∀ (i j : Nat) (w v : va_W), bs[i]? = some w → bs[j]? = some v → i ≠ j → ∀ x ∈ w, ∀ y ∈ v, x.1 ≠ y.1) ∧ ∀ w ∈ bs, ∀ x ∈ w, A x.1 := by
  rw [sk_D_iff, List.map_flatten, List.pairwise_flatten]
  constructor
  · rintro ⟨⟨h1, h2⟩, h3⟩
    refine ⟨fun w hw => h1 _ (List.mem_map.mpr ⟨w, hw, rfl⟩), ?_, fun w hw x hx => h3 _ (List.mem_flatten.mpr ⟨_, List.mem_map.mpr ⟨w, hw, rfl⟩, List.mem_map.mpr ⟨x, hx, rfl⟩⟩)⟩
    rw [List.pairwise_iff_getElem] at h2
    intro i j w v hi hj hij x hx y hy
    obtain ⟨li, rfl⟩ := List.getElem?_eq_some_iff.mp hi
    obtain ⟨lj, rfl⟩ := List.getElem?_eq_some_iff.mp hj
    rcases Nat.lt_or_gt_of_ne hij with h | h
    · have := h2 i j (by simpa using li) (by simpa using lj) h
      simp only [List.getElem_map] at this
      exact this _ (List.mem_map.mpr ⟨x, hx, rfl⟩) _ (List.mem_map.mpr ⟨y, hy, rfl⟩)
    · have := h2 j i (by simpa using lj) (by simpa using li) h
      simp only [List.getElem_map] at this
      exact (this _ (List.mem_map.mpr ⟨y, hy, rfl⟩) _ (List.mem_map.mpr ⟨x, hx, rfl⟩)).symm
  · rintro ⟨h1, h2, h3⟩
    refine ⟨⟨fun l hl => ?_, ?_⟩, fun a ha => ?_⟩
    · obtain ⟨w, hw, rfl⟩ := List.mem_map.mp hl
      exact h1 w hw
    · rw [List.pairwise_iff_getElem]
      intro i j hi hj hij x hx y hy
      have hi' : i < bs.length := by simpa using hi
      have hj' : j < bs.length := by simpa using hj
      simp only [List.getElem_map] at hx hy
      obtain ⟨x', hx', rfl⟩ := List.mem_map.mp hx
      obtain ⟨y', hy', rfl⟩ := List.mem_map.mp hy
      exact h2 i j _ _ (List.getElem?_eq_getElem hi') (List.getElem?_eq_getElem hj') (by omega) x' hx' y' hy'
    · obtain ⟨l, hl, ha⟩ := List.mem_flatten.mp ha
      obtain ⟨w, hw, rfl⟩ := List.mem_map.mp hl
      obtain ⟨x, hx, rfl⟩ := List.mem_map.mp ha
      exact h3 w hw x hx
theorem sk_D_ad {A : Nat → Prop} {bs bs' : sk_B} (h : bs'.map sk_ad = bs.map sk_ad) (hD : va_D A bs.flatten) : va_D A bs'.flatten := by
  rw [sk_D_iff, List.map_flatten] at hD ⊢
  have h' : bs'.map (List.map Prod.fst) = bs.map (List.map Prod.fst) := h
  rw [h']
  exact hD
def sk_Pc (G : sk_G) (av : List Value) (bs : sk_B) : Array Value → State → Prop := fun v U => v = av.toArray ∧ va_P G.1 sk_C bs.flatten U.heap ∧ va_K G.1 sk_C (sk_T G) U ∧ va_D (fun _ => True) bs.flatten
def sk_Qc (G : sk_G) (A : Nat → Prop) (ov : Option Value) (bs' : sk_B) : Array Value → State → Outcome → State → Prop := fun _ st o t => o = .returned ov ∧ va_P G.1 sk_C bs'.flatten t.heap ∧ va_F A st t
def sk_ctr {ρ : Type} (l : Launch) (G : sk_G) (y : MethodName) (b : ByteArray) (nL : Nat) (ret : Option FieldType) (rm : Room) (av : List Value) (bs : sk_B) (f : Option ρ) (ov : ρ → Option Value) (bsf : ρ → sk_B) : Prop :=
  ∀ r, f = some r → Met l y (.code y b nL ret :: lw_g) rm (sk_Pc G av bs) (sk_Qc G (sk_adr bs) (ov r) (bsf r)) 0 0 (sk_adr bs)
def sk_Φ {ρ : Type} (Γ : sk_K) (ov : ρ → Option Value) (bsf : ρ → sk_B) : ρ → State → Prop := fun r => match Γ with
  | (_, _, _, _, s, _, args, below, _, _, G, _, A) => MQ below (sk_Qc G A (ov r) (bsf r)) args s 0 0 A
theorem sk_entry {ρ : Type} {l : Launch} {G : sk_G} {y : MethodName} {b : ByteArray} {nL : Nat} {ret : Option FieldType} {rm : Room} {av : List Value} {bs : sk_B} {f : Option ρ} {ov : ρ → Option Value} {bsf : ρ → sk_B} {own : String} (hy : plainName y.cls = true) (ho : y.cls = own) {lv0 : List (Option Value)} (hlv : lo_prs 0 lv0 = lv_args 0 av) (hlen : (lg_sl av).length ≤ nL)
    (body : ∀ Γ : sk_K, sk_X Γ l G rm nL own b ret → sk_S Γ (sk_Φ Γ ov bsf) 0 0 f bs lv0 0 []) : sk_ctr l G y b nL ret rm av bs f ov bsf := by
  intro r hr
  refine Met.ofW (cc := b) (maxL := nL) (ret := ret) hy rfl ?_
  intro p e s m args below meth c s₁ B hml hv
  obtain ⟨rfl, hP, hK, hD0⟩ := hv
  have hts0 := atoms_spec (ws := .code y b nL ret :: lw_g) B.pre
  have hts : ∀ w ∈ lw_g, w.before av.toArray s = true := fun w hw => hts0 w (List.mem_cons_of_mem _ hw)
  have hown : s.vm.findClass own = some m.cls := by rw [← ho]; exact findClass_of_methodNamed B.named
  have hD : va_D (sk_adr bs) bs.flatten := ⟨hD0.1, fun k q hk => ⟨q, List.mem_of_getElem? hk, rfl⟩⟩
  have hl := lv_entry av (n := nL) hlen
  rw [← hlv] at hl
  rw [lg_entry_eq]
  exact body (p, l, e, rm, s, m, av.toArray, below, meth, c, G, nL, sk_adr bs) ⟨rfl, rfl, rfl, rfl, B.exec, B.bytes, hml, hown, hts, hK, B.notSynchronized, B.returns⟩ r hr s.heap [] _ hP hD va_S.rf hl
section SK3
variable {ρ : Type} {Γ : sk_K} {Φ : ρ → State → Prop} {k n : Nat} {f f1 f2 : Option ρ} {bs : sk_B} {lv : List (Option Value)} {pc pc' tgt : Nat} {st : List Value} {l : Launch} {G : sk_G} {rm : Room} {nL : Nat} {own : String} {cc : ByteArray} {ret : Option FieldType} {ov : ρ → Option Value} {bsf : ρ → sk_B}
theorem sk_iret (X : sk_X Γ l G rm nL own cc (some .int)) {r : ρ} {v : Int32} (ho : ov r = some (.int v)) (hbs : bsf r = bs) (hd : decode cc pc = .ok (.ireturn, 1)) : sk_S Γ (sk_Φ Γ ov bsf) 0 0 (some r) bs lv pc [.int v] := by
  obtain ⟨p, l', e, R, s, m, args, below, meth, c, G', nL', A⟩ := Γ
  obtain ⟨rfl, rfl, rfl, rfl, hx, hb, hml, hown, hts, hK, hlocks, hret⟩ := X
  intro r' hf H locs ls hP hD hS hl
  cases hf
  refine W.iret hx hb hret (fun t ht hW => ⟨by rw [ho], by rw [hbs, ht]; exact hP, hS.F ht⟩) hS.2.2 hd
theorem sk_lret (X : sk_X Γ l G rm nL own cc (some .long)) {r : ρ} {v : Int64} (ho : ov r = some (.long v)) (hbs : bsf r = bs) (hd : decode cc pc = .ok (.lreturn, 1)) : sk_S Γ (sk_Φ Γ ov bsf) 0 0 (some r) bs lv pc [.long v] := by
  obtain ⟨p, l', e, R, s, m, args, below, meth, c, G', nL', A⟩ := Γ
  obtain ⟨rfl, rfl, rfl, rfl, hx, hb, hml, hown, hts, hK, hlocks, hret⟩ := X
  intro r' hf H locs ls hP hD hS hl
  cases hf
  refine W.lret hx hb hret (fun t ht hW => ⟨by rw [ho], by rw [hbs, ht]; exact hP, hS.F ht⟩) hS.2.2 hd
theorem sk_zret (X : sk_X Γ l G rm nL own cc (some .boolean)) {r : ρ} {v : Int32} (hn : narrow .boolean (.int v) = .int v) (ho : ov r = some (.int v)) (hbs : bsf r = bs) (hd : decode cc pc = .ok (.ireturn, 1)) : sk_S Γ (sk_Φ Γ ov bsf) 0 0 (some r) bs lv pc [.int v] := by
  obtain ⟨p, l', e, R, s, m, args, below, meth, c, G', nL', A⟩ := Γ
  obtain ⟨rfl, rfl, rfl, rfl, hx, hb, hml, hown, hts, hK, hlocks, hret⟩ := X
  intro r' hf H locs ls hP hD hS hl
  cases hf
  refine W.zret hx hb hret hn (fun t ht hW => ⟨by rw [ho], by rw [hbs, ht]; exact hP, hS.F ht⟩) hS.2.2 hd
/-- a boolean that is told by a number: 0 or 1, or nothing is claimed -/
def sk_bl (v : Int32) : Bool := decide (v = 0 ∨ v = 1)
theorem sk_zretb (X : sk_X Γ l G rm nL own cc (some .boolean)) {r : ρ} {v : Int32} (ho : ov r = some (.int v)) (hbs : bsf r = bs) (hd : decode cc pc = .ok (.ireturn, 1)) : sk_S Γ (sk_Φ Γ ov bsf) 0 0 (if sk_bl v then some r else none) bs lv pc [.int v] := by
  by_cases h : sk_bl v = true
  · rw [if_pos h]
    refine sk_zret X ?_ ho hbs hd
    have h2 : v = 0 ∨ v = 1 := of_decide_eq_true h
    rcases h2 with rfl | rfl <;> decide
  · rw [if_neg h]
    exact sk_none
theorem sk_vret (X : sk_X Γ l G rm nL own cc none) {r : ρ} (ho : ov r = none) (hbs : bsf r = bs) (hd : decode cc pc = .ok (.return_, 1)) : sk_S Γ (sk_Φ Γ ov bsf) 0 0 (some r) bs lv pc [] := by
  obtain ⟨p, l', e, R, s, m, args, below, meth, c, G', nL', A⟩ := Γ
  obtain ⟨rfl, rfl, rfl, rfl, hx, hb, hml, hown, hts, hK, hlocks, hret⟩ := X
  intro r' hf H locs ls hP hD hS hl
  cases hf
  refine W.vret hx hb hret (fun t ht hW => ⟨by rw [ho], by rw [hbs, ht]; exact hP, hS.F ht⟩) hS.2.2 hd
end SK3
/-- what a call's link rests on -/
def sk_lkV (own : String) (ix : Nat) (y : MethodName) (b : ByteArray) (nL : Nat) (ret : Option FieldType) (n : Nat) : Prop :=
  Cond.methodLink own ix y ∈ lw_g ∧ Cond.instanceMethod y ∈ lw_g ∧ Cond.selects y.cls y y ∈ lw_g ∧ Cond.initialized y.cls ∈ lw_g ∧ Cond.code y b nL ret ∈ lw_g ∧ y.cls ≠ "java/lang/invoke/MethodHandle" ∧ y.cls ≠ "java/lang/invoke/VarHandle" ∧ (parseMethodDescriptor y.desc).map (fun d => d.parameters.length) = some n
def sk_lkS (own : String) (ix : Nat) (y : MethodName) (b : ByteArray) (nL : Nat) (ret : Option FieldType) (n : Nat) : Prop :=
  Cond.methodLink own ix y ∈ lw_g ∧ Cond.static y ∈ lw_g ∧ Cond.initialized y.cls ∈ lw_g ∧ Cond.code y b nL ret ∈ lw_g ∧ y.cls ≠ "java/lang/invoke/MethodHandle" ∧ y.cls ≠ "java/lang/invoke/VarHandle" ∧ (parseMethodDescriptor y.desc).map (fun d => d.parameters.length) = some n
theorem sk_good {ws : List Cond} (h : ∀ w ∈ ws, w ∈ lw_g) : GoodIn lw_g ws := fun w hw => ⟨h w hw, lw_g_good w (h w hw)⟩
theorem sk_blind {G : sk_G} {av : List Value} {bs : sk_B} : FrameBlind (sk_Pc G av bs) := fun a U g mk q => by
  obtain ⟨q0, qP, qK, qD⟩ := q
  exact ⟨q0, qP, va_K.moved (u := U) (U := U.calling g mk a) (Vm.Alike.refl U.vm) qK, qD⟩
/-- the callee's blocks among the caller's -/
theorem sk_sub {A : Nat → Prop} {G : sk_G} {bs cbs : sk_B} {H : Heap} (is : List Nat) (his : is.map (fun i => bs[i]?) = cbs.map some) (hnd : va_nd is = true) (hP : va_P G.1 sk_C bs.flatten H) (hD : va_D A bs.flatten) :
    va_P G.1 sk_C cbs.flatten H ∧ va_D (fun _ => True) cbs.flatten ∧ (∀ q, sk_adr cbs q → A q) ∧ (∀ (i : Nat) (w : va_W), cbs[i]? = some w → ∃ j, is[i]? = some j ∧ bs[j]? = some w) := by
  have at' : ∀ (i : Nat) (w : va_W), cbs[i]? = some w → ∃ j, is[i]? = some j ∧ bs[j]? = some w := by
    intro i w hw
    have h1 : (is.map (fun i => bs[i]?))[i]? = some (some w) := by rw [his, List.getElem?_map, hw]; rfl
    rw [List.getElem?_map] at h1
    cases hi : is[i]? with
    | none => rw [hi] at h1; cases h1
    | some j => rw [hi] at h1; exact ⟨j, rfl, Option.some.inj h1⟩
  have hin : ∀ w ∈ cbs, w ∈ bs := fun w hw => by
    obtain ⟨i, hi⟩ := List.getElem?_of_mem hw
    obtain ⟨j, -, hj⟩ := at' i w hi
    exact List.mem_of_getElem? hj
  obtain ⟨d1, d2, d3⟩ := sk_D2.mp hD
  refine ⟨?_, ?_, ?_, at'⟩
  · rw [sk_P_iff] at hP ⊢
    intro q hq
    obtain ⟨w, hw, hq⟩ := List.mem_flatten.mp hq
    exact hP q (List.mem_flatten.mpr ⟨w, hin w hw, hq⟩)
  · refine sk_D2.mpr ⟨fun w hw => d1 w (hin w hw), fun i j w v hi hj hij x hx y hy => ?_, fun _ _ _ _ => trivial⟩
    obtain ⟨i', h1, h2⟩ := at' i w hi
    obtain ⟨j', h3, h4⟩ := at' j v hj
    refine d2 i' j' w v h2 h4 (fun e => hij ?_) x hx y hy
    subst e
    exact va_nd_inj is hnd i j i' h1 h3
  · rintro q ⟨x, hx, rfl⟩
    obtain ⟨w, hw, hx⟩ := List.mem_flatten.mp hx
    exact d3 w (hin w hw) x hx
/-- behind a call -/
theorem sk_back {A : Nat → Prop} {G : sk_G} {bs cbs cb2 : sk_B} {H H1 : Heap} (is : List Nat) (his : is.map (fun i => bs[i]?) = cbs.map some) (hnd : va_nd is = true) (hP : va_P G.1 sk_C bs.flatten H) (hD : va_D A bs.flatten) (hsame : cb2.map sk_ad = cbs.map sk_ad) (hP1 : va_P G.1 sk_C cb2.flatten H1) (hk : ∀ q : Nat, q < H.size → ¬ sk_adr cbs q → H1[q]? = H[q]?) :
    va_P G.1 sk_C (sk_setL bs is cb2).flatten H1 ∧ va_D A (sk_setL bs is cb2).flatten := by
  obtain ⟨-, -, -, at'⟩ := sk_sub is his hnd hP hD
  obtain ⟨d1, d2, d3⟩ := sk_D2.mp hD
  have hlen : is.length = cbs.length := by simpa using congrArg List.length his
  have hlen2 : cb2.length = cbs.length := by simpa using congrArg List.length hsame
  refine ⟨?_, sk_D_ad (sk_setL_ad is cb2 bs ?_) hD⟩
  · rw [sk_P_iff]
    intro q hq
    obtain ⟨w, hw, hq⟩ := List.mem_flatten.mp hq
    rcases sk_setL_mem is cb2 bs w hw (by rw [hlen, hlen2]) with h1 | ⟨j, h1, h2⟩
    · exact sk_P_iff.mp hP1 q (List.mem_flatten.mpr ⟨w, h1, hq⟩)
    · have ha := sk_P_iff.mp hP q (List.mem_flatten.mpr ⟨w, List.mem_of_getElem? h2, hq⟩)
      refine ha.kept (hk q.1 ha.lt ?_)
      rintro ⟨x, hx, hxe⟩
      obtain ⟨v, hv, hx⟩ := List.mem_flatten.mp hx
      obtain ⟨i, hi⟩ := List.getElem?_of_mem hv
      obtain ⟨j', h3, h4⟩ := at' i v hi
      have hne : j' ≠ j := fun e => h1 (e ▸ List.mem_of_getElem? h3)
      exact d2 j' j v w h4 h2 hne x hx q hq hxe
  · rw [hsame]
    have h2 := congrArg (List.map (Option.map sk_ad)) his
    simp only [List.map_map] at h2 ⊢
    refine Eq.trans (List.map_congr_left fun i _ => ?_) (h2.trans ?_)
    · simp
    · rfl
section SK4
variable {ρ ρ' : Type} {Γ : sk_K} {Φ : ρ → State → Prop} {k n : Nat} {g : Option ρ'} {F : ρ' → Option ρ} {bs : sk_B} {lv : List (Option Value)} {pc pc' : Nat} {st stk : List Value} {l : Launch} {G : sk_G} {rm : Room} {nL : Nat} {own : String} {cc : ByteArray} {ret : Option FieldType}
  {y : MethodName} {b' : ByteArray} {nL' ix na : Nat} {ret' : Option FieldType} {rmc : Room} {cbs : sk_B} {ov : ρ' → Option Value} {cbsf : ρ' → sk_B} {bs2 : ρ' → sk_B} {st2 : ρ' → List Value}
theorem sk_callV (X : sk_X Γ l G rm nL own cc ret) {a : Nat} {As : List Value} (C : sk_ctr l G y b' nL' ret' rmc (.ref a :: As) cbs g ov cbsf) (L : sk_lkV own ix y b' nL' ret' na) (is : List Nat) (his : is.map (fun i => bs[i]?) = cbs.map some) (hnd : va_nd is = true) (hsame : ∀ r, (cbsf r).map sk_ad = cbs.map sk_ad)
    {w0 : va_W} {ci : Nat} {fs : List Value} {T : u_T} {N : Nat} (hw : cbs[0]? = some w0) (ha : w0[0]? = some (a, .inr (ci, fs))) (hc : sk_C[ci]? = some (y.cls, T, N))
    (hR : rmc.frames + 1 ≤ rm.frames ∧ 8 + (nL' + 11) + rmc.locals ≤ rm.locals) (hrc : rmc.cells = 0 ∧ rmc.slots = 0) (hkn : k ≤ rm.cells ∧ n ≤ rm.slots) (hna : As.length = na) (hW : (st.map fun v => v.category).sum ≤ 8) (hst : stk = As.reverse ++ .ref a :: st) (hd : decode cc pc = .ok (.invokevirtual ix, 3)) (hp : pc + 3 = pc')
    (hbs : ∀ r, sk_setL bs is (cbsf r) = bs2 r) (hst2 : ∀ r, (ov r).toList ++ st = st2 r) (kk : ∀ r, sk_S Γ Φ k n (F r) (bs2 r) lv pc' (st2 r)) : sk_S Γ Φ k n (g.bind F) bs lv pc stk := by
  obtain ⟨p, l', e, R, s, m, args, below, meth, c, G', nL9, A⟩ := Γ
  obtain ⟨rfl, rfl, rfl, rfl, hx, hb, hml, hown, hts, hK, hlocks, hret⟩ := X
  intro r hf H locs ls hP hD hS hl
  obtain ⟨x, hg, hF⟩ := Option.bind_eq_some_iff.mp hf
  have M := C x hg
  obtain ⟨hPc, hDc, hFc, at'⟩ := sk_sub is his hnd hP hD
  obtain ⟨L1, L2, L3, L4, L5, L6, L7, L8⟩ := L
  subst hst; subst hp
  obtain ⟨n0, h0, -⟩ := sk_flat hw ha
  have hws : ∀ w ∈ wsV own ix y.cls y (.code y b' nL' ret' :: lw_g), w ∈ lw_g := by
    intro w hw
    simp only [wsV, List.mem_append, List.mem_cons, List.not_mem_nil, or_false] at hw
    rcases hw with (rfl | rfl | rfl | rfl) | rfl | hw <;> assumption
  have run := va_runV (p := p) (l := l') (e := e) (R := R) (s := s) (m := m) (args := args) (below := below) (meth := meth) (c := c) (H := H) (locs := locs) (cells := k) (slots := n) (mc := 0) (ms := 0) (As := As) (rest := st) (g := F0 m pc ls (As.reverse ++ .ref a :: st)) (Ts := lw_g) (own := own) (b := a)
    ⟨hx, hb, hml, hown, hts⟩ M (cwV na hts (sk_good hws) rfl hrc.1 hrc.2 ⟨rfl, L6, L7, L8⟩ hR) ⟨sk_blind, va_recv hK hPc hc h0, fun U hU hW => ⟨rfl, by rw [hU]; exact hPc, va_K.moved hW.alike hK, hDc⟩⟩ rfl hna hl.1 rfl (lv_room hW) hd ⟨hkn.1, hkn.2⟩
  intro T0 hT X0
  obtain ⟨v, st₀, t, T', L0, e0, X', hL, e1, e2, ⟨hv, hP1, hz, hk⟩, steps⟩ := run T0 hT X0
  cases hv
  rw [e0] at hz hk
  obtain ⟨hPn, hDn⟩ := sk_back is his hnd hP hD (hsame x) (H1 := T'.heap) (by rw [e1]; exact hP1) (fun q h1 h2 => by rw [e1]; exact hk q h1 h2)
  have hSn : va_S A s.heap T'.heap (locs ++ L0) := ⟨Nat.le_trans hS.1 (by rw [e1]; exact hz), fun q h1 h2 => by rw [e1, hk q (Nat.lt_of_lt_of_le h1 hS.1) (fun z => h2 (hFc q z))]; exact hS.2.1 q h1 h2, fun q hq => by
    rcases List.mem_append.mp hq with h | h
    · exact hS.2.2 q h
    · exact hFc _ (hL q h)⟩
  rw [hbs x] at hPn hDn
  obtain ⟨t2, a1, b1⟩ := kk x r hF T'.heap (locs ++ L0) ls hPn hDn hSn hl T' rfl X'
  rw [← hst2 x] at a1
  exact ⟨t2, steps t2 a1, b1⟩
theorem sk_callS (X : sk_X Γ l G rm nL own cc ret) {As : List Value} (C : sk_ctr l G y b' nL' ret' rmc As cbs g ov cbsf) (L : sk_lkS own ix y b' nL' ret' na) (is : List Nat) (his : is.map (fun i => bs[i]?) = cbs.map some) (hnd : va_nd is = true) (hsame : ∀ r, (cbsf r).map sk_ad = cbs.map sk_ad)
    (hR : rmc.frames + 1 ≤ rm.frames ∧ 8 + (nL' + 11) + rmc.locals ≤ rm.locals) (hrc : rmc.cells = 0 ∧ rmc.slots = 0) (hkn : k ≤ rm.cells ∧ n ≤ rm.slots) (hna : As.length = na) (hW : (st.map fun v => v.category).sum ≤ 8) (hst : stk = As.reverse ++ st) (hd : decode cc pc = .ok (.invokestatic ix, 3)) (hp : pc + 3 = pc')
    (hbs : ∀ r, sk_setL bs is (cbsf r) = bs2 r) (hst2 : ∀ r, (ov r).toList ++ st = st2 r) (kk : ∀ r, sk_S Γ Φ k n (F r) (bs2 r) lv pc' (st2 r)) : sk_S Γ Φ k n (g.bind F) bs lv pc stk := by
  obtain ⟨p, l', e, R, s, m, args, below, meth, c, G', nL9, A⟩ := Γ
  obtain ⟨rfl, rfl, rfl, rfl, hx, hb, hml, hown, hts, hK, hlocks, hret⟩ := X
  intro r hf H locs ls hP hD hS hl
  obtain ⟨x, hg, hF⟩ := Option.bind_eq_some_iff.mp hf
  have M := C x hg
  obtain ⟨hPc, hDc, hFc, at'⟩ := sk_sub is his hnd hP hD
  obtain ⟨L1, L2, L4, L5, L6, L7, L8⟩ := L
  subst hst; subst hp
  have hws : ∀ w ∈ (.code y b' nL' ret' :: lw_g : List Cond), w ∈ lw_g := by
    intro w hw
    rcases List.mem_cons.mp hw with rfl | hw <;> assumption
  have run := va_runS (p := p) (l := l') (e := e) (R := R) (s := s) (m := m) (args := args) (below := below) (meth := meth) (c := c) (H := H) (locs := locs) (cells := k) (slots := n) (mc := 0) (ms := 0) (As := As) (rest := st) (g := F0 m pc ls (As.reverse ++ st)) (Ts := lw_g) (own := own)
    ⟨hx, hb, hml, hown, hts⟩ M ⟨callB_of na hts (sk_good hws) rfl hrc.1 hrc.2 (hts _ L4) (hts _ L1) ⟨L6, L7, L8⟩ hR, hts _ L2⟩ ⟨sk_blind, fun U hU hW => ⟨rfl, by rw [hU]; exact hPc, va_K.moved hW.alike hK, hDc⟩⟩ rfl hna hl.1 rfl (lv_room hW) hd ⟨hkn.1, hkn.2⟩
  intro T0 hT X0
  obtain ⟨v, st₀, t, T', L0, e0, X', hL, e1, e2, ⟨hv, hP1, hz, hk⟩, steps⟩ := run T0 hT X0
  cases hv
  rw [e0] at hz hk
  obtain ⟨hPn, hDn⟩ := sk_back is his hnd hP hD (hsame x) (H1 := T'.heap) (by rw [e1]; exact hP1) (fun q h1 h2 => by rw [e1]; exact hk q h1 h2)
  have hSn : va_S A s.heap T'.heap (locs ++ L0) := ⟨Nat.le_trans hS.1 (by rw [e1]; exact hz), fun q h1 h2 => by rw [e1, hk q (Nat.lt_of_lt_of_le h1 hS.1) (fun z => h2 (hFc q z))]; exact hS.2.1 q h1 h2, fun q hq => by
    rcases List.mem_append.mp hq with h | h
    · exact hS.2.2 q h
    · exact hFc _ (hL q h)⟩
  rw [hbs x] at hPn hDn
  obtain ⟨t2, a1, b1⟩ := kk x r hF T'.heap (locs ++ L0) ls hPn hDn hSn hl T' rfl X'
  rw [← hst2 x] at a1
  exact ⟨t2, steps t2 a1, b1⟩
end SK4
