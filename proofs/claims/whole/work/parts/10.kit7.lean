/-! the law's loop: its rows -/
def kl (i : Int32) : Nat := 1000 + i.toNatClampNeg
def nl (i : Int32) : Nat := 100000 + 6 * i.toNatClampNeg
theorem lw_k {i : Int32} (h : (i + 4).toNatClampNeg = i.toNatClampNeg + 4) {c : Nat} (hc : c ≤ 4) : kl i + c ≤ kl (i + 4) := by unfold kl; omega
theorem lw_n {i : Int32} (h : (i + 4).toNatClampNeg = i.toNatClampNeg + 4) {c : Nat} (hc : c ≤ 24) : nl i + c ≤ nl (i + 4) := by unfold nl; omega
theorem lw_i4 {i : Int32} (h : sk_in i 2049 = true) : (i + 4).toNatClampNeg = i.toNatClampNeg + 4 := by
  obtain ⟨j, hj, rfl⟩ := vp_in_of (sk_in_iff.mp h) (by decide)
  rw [show nI j + 4 = nI (j + 4) from nI_add j 4, nI_clamp (by omega), nI_clamp (by omega)]
theorem lw_hk {i : Int32} (h : sk_in i 2049 = true) : kl i + 4 ≤ room_1.cells := by
  obtain ⟨j, hj, rfl⟩ := vp_in_of (sk_in_iff.mp h) (by decide)
  unfold kl
  rw [nI_clamp (by omega)]
  have : room_1.cells = 601024 := rfl
  omega
theorem lw_hn {i : Int32} (h : sk_in i 2049 = true) : nl i + 24 ≤ room_1.slots := by
  obtain ⟨j, hj, rfl⟩ := vp_in_of (sk_in_iff.mp h) (by decide)
  unfold nl
  rw [nI_clamp (by omega)]
  have : room_1.slots = 7293034 := rfl
  omega
section SK7
variable {ρ : Type} {Γ : sk_K} {Φ : ρ → State → Prop} {k n : Nat} {f : Option ρ} {bs : sk_B} {lv : List (Option Value)} {pc pc' : Nat} {st : List Value} {l : Launch} {G : sk_G} {rm : Room} {nL : Nat} {own : String} {cc : ByteArray} {ret : Option FieldType} {t : Nat}
theorem sk_guard {c : Bool} (kk : c = true → sk_S Γ Φ k n f bs lv pc st) : sk_S Γ Φ k n (if c then f else none) bs lv pc st := by
  cases c with
  | true => exact kk rfl
  | false => exact sk_none
theorem sk_widen {k2 n2 : Nat} (h1 : k ≤ k2) (h2 : n ≤ n2) (kk : sk_S Γ Φ k2 n2 f bs lv pc st) : sk_S Γ Φ k n f bs lv pc st := by
  obtain ⟨p, l', e, R, s, m, args, below, meth, c, G', nL', A⟩ := Γ
  intro r hf H locs ls hP hD hS hl
  exact W.widen h1 h2 (kk r hf H locs ls hP hD hS hl)
theorem sk_loopK {σ : Type} {step : (σ → Option ρ) → σ → Option ρ} {kf nf : σ → Nat} {bsf : σ → sk_B} {lvf : σ → List (Option Value)} (hstep : ∀ (k' : σ → Option ρ) (s' : σ), (∀ s2, sk_S Γ Φ (kf s2) (nf s2) (k' s2) (bsf s2) (lvf s2) pc st) → sk_S Γ Φ (kf s') (nf s') (step k' s') (bsf s') (lvf s') pc st) : ∀ (fuel : Nat) (s0 : σ), sk_S Γ Φ (kf s0) (nf s0) (sk_lp step fuel s0) (bsf s0) (lvf s0) pc st
  | 0, s0 => by
    obtain ⟨p, l', e, R, s, m, args, below, meth, c, G', nL', A⟩ := Γ
    intro r hf
    cases hf
  | fuel + 1, s0 => hstep (sk_lp step fuel) s0 (sk_loopK hstep fuel)
/-- what the law's loop knows of its start -/
def sk_EL (Γ : sk_K) (t b L : Nat) (xs : Nat → Int32) : Prop := match Γ with
  | (_, _, _, _, s, _, _, _, _, _, _, _, A) => xe_V s ∧ xe_H A t s s.heap ∧ xe_N s ∧ va_X b L xs s s.heap ∧ b < s.heap.size ∧ ¬ A b
theorem sk_scl (X : sk_X Γ l G rm nL own cc ret) {b L : Nat} {xs : Nat → Int32} (E : sk_EL Γ t b L xs) (hd : decode cc pc = .ok (.arraylength, 1)) (hp : pc + 1 = pc') (kk : sk_S Γ Φ k n f bs lv pc' (.int (nI L) :: st)) : sk_S Γ Φ k n f bs lv pc (.ref b :: st) := by
  obtain ⟨p, l', e, R, s, m, args, below, meth, c, G', nL', A⟩ := Γ
  obtain ⟨rfl, rfl, rfl, rfl, hx, hb, hml, hown, hts, hK, hlocks, hret⟩ := X
  obtain ⟨hV, hH, hN, hX, hbl, hbA⟩ := E
  intro r hf H locs ls hP hD hS hl
  subst hp
  exact va_slen hx hb hX hbl hbA hS hd (kk r hf H locs ls hP hD hS hl)
theorem sk_scd (X : sk_X Γ l G rm nL own cc ret) {b L : Nat} {xs : Nat → Int32} (E : sk_EL Γ t b L xs) {x : Int32} (hd : decode cc pc = .ok (.iaload, 1)) (hp : pc + 1 = pc') (kk : sk_S Γ Φ k n f bs lv pc' (.int (xs x.toNatClampNeg) :: st)) : sk_S Γ Φ k n (if sk_in x L then f else none) bs lv pc (.int x :: .ref b :: st) := by
  obtain ⟨p, l', e, R, s, m, args, below, meth, c, G', nL', A⟩ := Γ
  obtain ⟨rfl, rfl, rfl, rfl, hx, hb, hml, hown, hts, hK, hlocks, hret⟩ := X
  obtain ⟨hV, hH, hN, hX, hbl, hbA⟩ := E
  intro r hf H locs ls hP hD hS hl
  subst hp
  by_cases hy : sk_in x L = true
  · rw [if_pos hy] at hf
    exact va_sld hx hb hX hbl hbA hS (sk_in_iff.mp hy) hd (kk r hf H locs ls hP hD hS hl)
  · rw [if_neg hy] at hf; cases hf
end SK7
def lw_Φ (Γ : sk_K) (b : Nat) : Int32 → State → Prop := fun r => match Γ with
  | (_, _, _, _, s, _, _, below, _, _, _, _, _) => fun t => r = 1 → lw_Z below #[Value.ref b] s t
theorem sk_ltrue {Γ : sk_K} {k n : Nat} {bs : sk_B} {lv : List (Option Value)} {pc : Nat} {l : Launch} {G : sk_G} {own : String} {b : Nat} (X : sk_X Γ l G room_1 7 own code ret) (hA : ∀ q, Γ.2.2.2.2.2.2.2.2.2.2.2.2 q → Γ.2.2.2.2.1.heap.size ≤ q) (hav : Γ.2.2.2.2.2.2.1 = #[Value.ref b]) (hk : k ≤ 601024) (hn : n ≤ 7293034) (hd : decode code pc = .ok (.ireturn, 1)) : sk_S Γ (lw_Φ Γ b) k n (some 1) bs lv pc [.int 1] := by
  obtain ⟨p, l', e, R, s, m, args, below, meth, c, G', nL', A⟩ := Γ
  obtain ⟨rfl, rfl, rfl, rfl, hx, hb, hml, hown, hts, hK, hlocks, hret⟩ := X
  intro r hf H locs ls hP hD hS hl
  cases hf
  dsimp only at hav hA
  subst hav
  have key := lw_ret (p := p) (l := l') (e := e) (s := s) (m := m) (below := below) (meth := meth) (c := c) (b := b) hx hb hret hlocks (pc := pc) (H := H) (ls := ls) hd
  have k2 := va_forget (fun q hq => hA q.base (hS.2.2 q hq)) (W.widen hk hn key)
  intro T hT X
  obtain ⟨t2, a1, b1⟩ := k2 T hT X
  exact ⟨t2, a1, fun _ => b1⟩
theorem sk_lfalse {Γ : sk_K} {k n : Nat} {bs : sk_B} {lv : List (Option Value)} {pc : Nat} {b : Nat} {st : List Value} : sk_S Γ (lw_Φ Γ b) k n (some 0) bs lv pc st := by
  obtain ⟨p, l', e, R, s, m, args, below, meth, c, G', nL', A⟩ := Γ
  intro r hf H locs ls hP hD hS hl
  cases hf
  intro T hT X
  exact ⟨_, Steps.refl _, fun h => absurd h (by decide)⟩
/-- what the link of a method with handlers rests on -/
def sk_lkH (own : String) (ix : Nat) (y : MethodName) (b : ByteArray) (nL : Nat) (ret : Option FieldType) (hh : List (Nat × Nat × Nat × Nat)) (n : Nat) : Prop :=
  Cond.methodLink own ix y ∈ lw_g ∧ Cond.static y ∈ lw_g ∧ Cond.initialized y.cls ∈ lw_g ∧ Cond.codeWith y b nL ret hh ∈ lw_g ∧ y.cls ≠ "java/lang/invoke/MethodHandle" ∧ y.cls ≠ "java/lang/invoke/VarHandle" ∧ (parseMethodDescriptor y.desc).map (fun d => d.parameters.length) = some n
theorem sk_callSH {ρ ρ' : Type} {Γ : sk_K} {Φ : ρ → State → Prop} {k n : Nat} {g : Option ρ'} {F : ρ' → Option ρ} {bs : sk_B} {lv : List (Option Value)} {pc pc' : Nat} {st stk : List Value} {l : Launch} {G : sk_G} {rm : Room} {nL : Nat} {own : String} {cc : ByteArray} {ret : Option FieldType} {t b L0 : Nat} {xs : Nat → Int32}
  {y : MethodName} {b' : ByteArray} {nL' ix na : Nat} {ret' : Option FieldType} {hh : List (Nat × Nat × Nat × Nat)} {rmc : Room} {mc' ms' : Nat} {cbs : sk_B} {ov : ρ' → Option Value} {cbsf : ρ' → sk_B} {bs2 : ρ' → sk_B} {st2 : ρ' → List Value}
    (X : sk_X Γ l G rm nL own cc ret) (E : sk_EL Γ t b L0 xs) {As : List Value} (C : sk_wtr l G t y b' nL' ret' hh rmc mc' ms' As cbs g ov cbsf) (L : sk_lkH own ix y b' nL' ret' hh na) (is : List Nat) (his : is.map (fun i => bs[i]?) = cbs.map some) (hnd : va_nd is = true) (hsame : ∀ r, (cbsf r).map sk_ad = cbs.map sk_ad)
    (hR : rmc.frames + 1 ≤ rm.frames ∧ 8 + (nL' + 11) + rmc.locals ≤ rm.locals) (hrc : rmc.cells = mc' ∧ rmc.slots = ms') (hkn : k + mc' ≤ rm.cells ∧ n + ms' ≤ rm.slots) (hna : As.length = na) (hW : (st.map fun v => v.category).sum ≤ 8) (hst : stk = As.reverse ++ st) (hd : decode cc pc = .ok (.invokestatic ix, 3)) (hp : pc + 3 = pc')
    (hbs : ∀ r, sk_setL bs is (cbsf r) = bs2 r) (hst2 : ∀ r, (ov r).toList ++ st = st2 r) (kk : ∀ r, sk_S Γ Φ (k + mc') (n + ms') (F r) (bs2 r) lv pc' (st2 r)) : sk_S Γ Φ k n (g.bind F) bs lv pc stk := by
  obtain ⟨p, l', e, R, s, m, args, below, meth, c, G', nL9, A⟩ := Γ
  obtain ⟨rfl, rfl, rfl, rfl, hx, hb, hml, hown, hts, hK, hlocks, hret⟩ := X
  obtain ⟨hV, hH, hN, -, -, -⟩ := E
  intro r hf H locs ls hP hD hS hl
  obtain ⟨x, hg, hF⟩ := Option.bind_eq_some_iff.mp hf
  have M := C x hg
  obtain ⟨hPc, hDc, hFc, at'⟩ := sk_sub is his hnd hP hD
  obtain ⟨L1, L2, L4, L5, L6, L7, L8⟩ := L
  subst hst; subst hp
  have hws : ∀ w ∈ va_wsS own ix y (.codeWith y b' nL' ret' hh :: lw_g), w ∈ lw_g := by
    intro w hw
    simp only [va_wsS, List.mem_append, List.mem_cons, List.not_mem_nil, or_false] at hw
    rcases hw with (rfl | rfl | rfl) | rfl | hw <;> assumption
  have run := vx_runSW (p := p) (l := l') (e := e) (R := R) (s := s) (m := m) (args := args) (below := below) (meth := meth) (c := c) (H := H) (locs := locs) (cells := k) (slots := n) (As := As) (rest := st) (g := F0 m pc ls (As.reverse ++ st)) (Ts := lw_g) (own := own)
    ⟨hx, hb, hml, hown, hts⟩ M (vx_cwSW na hts (sk_good hws) rfl hrc.1 hrc.2 ⟨L6, L7, L8⟩ hR) ⟨sk_blindh, fun U hU hW => ⟨⟨⟨rfl, by rw [hU]; exact hPc, va_K.moved hW.alike hK, hDc⟩, hV.warm hW, by rw [hU]; exact ((hH.kept hS.2.1).narrow hFc).moved hW.alike⟩, hN.moved hW.alike⟩⟩ rfl hna hl.1 rfl (lv_room hW) hd hkn
  intro T0 hT X0
  obtain ⟨v, st₀, t0, T', L9, e0, X', hL, e1, e2, ⟨hv, hP1, hz, hk⟩, steps⟩ := run T0 hT X0
  cases hv
  rw [e0] at hz hk
  obtain ⟨hPn, hDn⟩ := sk_back is his hnd hP hD (hsame x) (H1 := T'.heap) (by rw [e1]; exact hP1) (fun q h1 h2 => by rw [e1]; exact hk q h1 h2)
  have hSn : va_S A s.heap T'.heap (locs ++ L9) := ⟨Nat.le_trans hS.1 (by rw [e1]; exact hz), fun q h1 h2 => by rw [e1, hk q (Nat.lt_of_lt_of_le h1 hS.1) (fun z => h2 (hFc q z))]; exact hS.2.1 q h1 h2, fun q hq => by
    rcases List.mem_append.mp hq with h | h
    · exact hS.2.2 q h
    · exact hFc _ (hL q h)⟩
  rw [hbs x] at hPn hDn
  obtain ⟨t2, a1, b1⟩ := kk x r hF T'.heap (locs ++ L9) ls hPn hDn hSn hl T' rfl X'
  rw [← hst2 x] at a1
  exact ⟨t2, steps t2 a1, b1⟩
