/-! making objects and arrays; constructors -/
def sk_AA (Γ : sk_K) : Prop := match Γ with
  | (_, _, _, _, s, _, _, _, _, _, _, _, A) => ∀ q, s.heap.size ≤ q → A q
def sk_IN (Γ : sk_K) : Prop := match Γ with
  | (_, _, _, _, _, _, _, _, meth, _, _, _, _) => meth.name = "<init>"
def xk_bad : List Cond := [(Cond.methodLinkNest "PulseClocks$Network" (21 : Nat) ({ cls := "PulseClocks$Log", name := "<init>", desc := "()V" } : Jvm.MethodName) "PulseClocks"), (Cond.methodLinkNest "PulseClocks" (31 : Nat) ({ cls := "PulseClocks$Script", name := "<init>", desc := "()V" } : Jvm.MethodName) "PulseClocks"), (Cond.arrayOver (Jvm.ClassFile.FieldType.object "PulseClocks$Network"))]
theorem xk_bad_in : ∀ w ∈ xk_bad, w ∈ lw_tbl := by
  intro w hw
  simp only [xk_bad, List.mem_cons, List.not_mem_nil, or_false] at hw
  rcases hw with rfl | rfl | rfl
  · exact q_109
  · exact q_201
  · exact q_186
def xk_V (U : State) : Prop := va_Nw ((Cond.methodLinkNest "PulseClocks$Network" (21 : Nat) ({ cls := "PulseClocks$Log", name := "<init>", desc := "()V" } : Jvm.MethodName) "PulseClocks")) U ∧ va_Nw ((Cond.methodLinkNest "PulseClocks" (31 : Nat) ({ cls := "PulseClocks$Script", name := "<init>", desc := "()V" } : Jvm.MethodName) "PulseClocks")) U ∧ va_AO "PulseClocks$Network" U
theorem xk_V.warm {s U : State} (hW : s.WarmedH U.vm) (h : xk_V s) : xk_V U := ⟨va_Nw.warmM hW h.1, va_Nw.warmM hW h.2.1, va_AO.moved hW.alike h.2.2⟩
theorem xk_V.same {s U : State} (hv : U.vm = s.vm) (h : xk_V s) : xk_V U := ⟨va_Nw.same rfl hv.symm h.1, va_Nw.same rfl hv.symm h.2.1, va_AO.moved (by rw [hv]; exact Vm.Alike.refl _) h.2.2⟩
def sk_EK (Γ : sk_K) : Prop := match Γ with
  | (_, _, _, _, s, _, _, _, _, _, _, _, _) => xk_V s
def sk_Ak (sz a : Nat) : Nat → Prop := fun q => q = a ∨ sz ≤ q
def sk_Pk (G : sk_G) (sz a : Nat) (w0 : va_W) : Array Value → State → Prop := fun v U => U.heap.size = sz ∧ sk_Pc G [.ref a] [w0] v U ∧ xk_V U
def sk_Qk {α : Type} (G : sk_G) (sz a : Nat) (bsf : α → sk_B) : Array Value → State → Outcome → State → Prop := fun _ st o t => o = .returned none ∧ (∃ x : α, va_P G.1 sk_C (bsf x).flatten t.heap ∧ va_D (sk_Ak sz a) (bsf x).flatten) ∧ va_F (sk_Ak sz a) st t
def sk_ktr {α : Type} (l : Launch) (G : sk_G) (y : MethodName) (b : ByteArray) (nL : Nat) (rm : Room) (mc ms a : Nat) (w0 : va_W) (bsf : α → sk_B) : Prop :=
  ∀ sz : Nat, Met l y (.code y b nL none :: lw_g) rm (sk_Pk G sz a w0) (sk_Qk G sz a bsf) mc ms (sk_Ak sz a)
def sk_Φk {ρ α : Type} (Γ : sk_K) (sz a mc ms : Nat) (bsf : ρ → α → sk_B) : ρ → State → Prop := fun r => match Γ with
  | (_, _, _, _, s, _, args, below, _, _, G, _, _) => MQ below (sk_Qk G sz a (bsf r)) args s mc ms (sk_Ak sz a)
def sk_Z (Γ : sk_K) (sz a : Nat) : Prop := match Γ with
  | (_, _, _, _, _, _, _, _, _, _, _, _, A) => A = sk_Ak sz a
theorem sk_kblind {G : sk_G} {sz a : Nat} {w0 : va_W} : FrameBlind (sk_Pk G sz a w0) := fun v U g mk q => ⟨q.1, sk_blind v U g mk q.2.1, xk_V.same (s := U) (U := U.calling g mk v) rfl q.2.2⟩
theorem sk_kentry {ρ α : Type} {l : Launch} {G : sk_G} {y : MethodName} {b : ByteArray} {nL : Nat} {rm : Room} {mc ms a : Nat} {w0 : va_W} {f : Option ρ} {r : ρ} (hf : f = some r) {bsf : ρ → α → sk_B} {own : String} {e0 : va_E} (hw0 : w0 = [(a, e0)]) (hy : plainName y.cls = true) (ho : y.cls = own) (hyn : y.name = "<init>") {lv0 : List (Option Value)} (hlv : lo_prs 0 lv0 = lv_args 0 [.ref a]) (hlen : (lg_sl [.ref a]).length ≤ nL)
    (body : ∀ (Γ : sk_K) (sz : Nat), sk_X Γ l G rm nL own b none → sk_AA Γ → sk_IN Γ → sk_EK Γ → sk_Z Γ sz a → sk_S Γ (sk_Φk Γ sz a mc ms bsf) 0 0 f [w0] lv0 0 []) : sk_ktr l G y b nL rm mc ms a w0 (bsf r) := by
  intro sz
  refine Met.ofW (cc := b) (maxL := nL) (ret := none) hy rfl ?_
  intro p e s m args below meth c s₁ B hml hv
  obtain ⟨rfl, ⟨rfl, hP, hK, hD0⟩, hV⟩ := hv
  have hts0 := atoms_spec (ws := .code y b nL none :: lw_g) B.pre
  have hts : ∀ w ∈ lw_g, w.before _ s = true := fun w hw => hts0 w (List.mem_cons_of_mem _ hw)
  have hown : s.vm.findClass own = some m.cls := by rw [← ho]; exact findClass_of_methodNamed B.named
  have hin : meth.name = "<init>" := ((name_of_methodNamed B.named B.method).1).trans hyn
  have hD : va_D (sk_Ak s.heap.size a) [w0].flatten := ⟨hD0.1, fun k q hk => by
    have hm := List.mem_of_getElem? hk
    subst hw0
    simp only [List.flatten_cons, List.flatten_nil, List.append_nil, List.mem_singleton] at hm
    subst hm
    exact Or.inl rfl⟩
  have hl := lv_entry [.ref a] (n := nL) hlen
  rw [← hlv] at hl
  rw [lg_entry_eq]
  exact body (p, l, e, rm, s, m, [.ref a].toArray, below, meth, c, G, nL, sk_Ak s.heap.size a) s.heap.size ⟨rfl, rfl, rfl, rfl, B.exec, B.bytes, hml, hown, hts, hK, B.notSynchronized, B.returns⟩ (fun q h => Or.inr h) hin hV rfl r hf s.heap [] _ hP hD va_S.rf hl
section SK8
variable {ρ : Type} {Γ : sk_K} {Φ : ρ → State → Prop} {k n : Nat} {f : Option ρ} {bs : sk_B} {lv : List (Option Value)} {pc pc' tgt : Nat} {st : List Value} {l : Launch} {G : sk_G} {rm : Room} {nL : Nat} {own : String} {cc : ByteArray} {ret : Option FieldType}
theorem sk_kret {α : Type} {sz a mc ms : Nat} {bsf : ρ → α → sk_B} (X : sk_X Γ l G rm nL own cc none) (Z : sk_Z Γ sz a) {r : ρ} (x : α) (ps : List Nat) (hps : ps.map (fun i => bs.flatten[i]?) = ((bsf r x).flatten).map some) (hnd : va_nd ps = true) (hk : k ≤ mc) (hn : n ≤ ms) (hd : decode cc pc = .ok (.return_, 1)) : sk_S Γ (sk_Φk Γ sz a mc ms bsf) k n (some r) bs lv pc [] := by
  obtain ⟨p, l', e, R, s, m, args, below, meth, c, G', nL', A⟩ := Γ
  obtain ⟨rfl, rfl, rfl, rfl, hx, hb, hml, hown, hts, hK, hlocks, hret⟩ := X
  have Z : A = sk_Ak sz a := Z
  subst Z
  intro r' hf H locs ls hP hD hS hl
  cases hf
  have hP9 : va_P G'.1 sk_C (bsf r x).flatten H := by
    intro k q hk
    have h1 : (ps.map (fun i => bs.flatten[i]?))[k]? = some (some q) := by rw [hps, List.getElem?_map, hk]; rfl
    rw [List.getElem?_map] at h1
    cases hi : ps[k]? with
    | none => rw [hi] at h1; cases h1
    | some i => rw [hi] at h1; exact hP i q (Option.some.inj h1)
  have hD9 : va_D (sk_Ak sz a) (bsf r x).flatten := hD.sub ps hnd hps
  exact W.widen hk hn (W.vret hx hb hret (fun t ht hW => ⟨rfl, ⟨x, by rw [ht]; exact hP9, hD9⟩, hS.F ht⟩) hS.2.2 hd)
theorem sk_objI (X : sk_X Γ l G rm nL own cc ret) {ix a : Nat} (L : Cond.methodLink own ix Lib.objectInit ∈ lw_g) (hfr : 1 ≤ rm.frames) (hlo : (st.map fun v => v.category).sum + 12 ≤ rm.locals) (hd : decode cc pc = .ok (.invokespecial ix, 3)) (hp : pc + 3 = pc') (kk : sk_S Γ Φ k n f bs lv pc' st) : sk_S Γ Φ k n f bs lv pc (.ref a :: st) := by
  obtain ⟨p, l', e, R, s, m, args, below, meth, c, G', nL', A⟩ := Γ
  obtain ⟨rfl, rfl, rfl, rfl, hx, hb, hml, hown, hts, hK, hlocks, hret⟩ := X
  intro r hf H locs ls hP hD hS hl
  subst hp
  refine W.objInit hx hb hown (hts _ L) (hts _ q_99) (hts _ q_100) rfl (by rw [hml]; exact hl.1) rfl hd hfr ?_ ?_
  · show 2 * 0 + _ + 12 ≤ _
    omega
  · exact kk r hf H locs ls hP hD hS hl
theorem sk_new (X : sk_X Γ l G rm nL own cc ret) (AA : sk_AA Γ) (ci : Nat) {C : String} {T : u_T} {N ix : Nat} {fs : List Value} {bs2 : Nat → sk_B} (hin : ∀ w ∈ u_ws C T N, w ∈ lw_g) (ty0 : Nat → FieldType) (hty : ∀ k, k < N → parseFieldDescriptor (T k).2.2.1 = some (ty0 k)) (hc : sk_C[ci]? = some (C, T, N)) (hcl : Cond.classLink own ix C ∈ lw_g) (hinst : Cond.instantiable C N ∈ lw_g) (hini : Cond.initialized C ∈ lw_g) (hfs : ∀ j, j < N → defaultValue (ty0 j) = vp_V fs j) (hbs : ∀ q, bs ++ [[(q, .inr (ci, fs))]] = bs2 q) (hk : k + 1 ≤ rm.cells) (hn : n + N ≤ rm.slots) (hd : decode cc pc = .ok (.new ix, 3)) (hp : pc + 3 = pc') (kk : ∀ q, sk_S Γ Φ (k + 1) (n + N) f (bs2 q) lv pc' (.ref q :: st)) : sk_S Γ Φ k n f bs lv pc st := by
  obtain ⟨p, l', e, R, s, m, args, below, meth, c, G', nL', A⟩ := Γ
  obtain ⟨rfl, rfl, rfl, rfl, hx, hb, hml, hown, hts, hK, hlocks, hret⟩ := X
  intro r hf H locs ls hP hD hS hl
  subst hp
  refine va_new hx hb hts hin ty0 hty hown (hts _ hcl) (hts _ hinst) (hts _ hini) hK hP hD hS AA hc hfs hk hn hd (fun q H1 hP1 hD1 hS1 => ?_)
  have hfl : bs.flatten ++ [(q, .inr (ci, fs))] = (bs2 q).flatten := by rw [← hbs q]; simp
  rw [hfl] at hP1 hD1
  exact kk q r hf H1 locs ls hP1 hD1 hS1 hl
theorem sk_newa_int (X : sk_X Γ l G rm nL own cc ret) (AA : sk_AA Γ) {v : Int32} {N : Nat} {bs2 : Nat → sk_B} (hv : v.toNatClampNeg = N) (hv0 : ¬ v < 0) (hN : N ≤ 60000) (hbs : ∀ q, bs ++ [[(q, .inl (G.2 0, (N, .inl (fun _ => 0))))]] = bs2 q) (hk : k + 1 ≤ rm.cells) (hn : n + N ≤ rm.slots) (hd : decode cc pc = .ok (.newarray .int, 2)) (hp : pc + 2 = pc') (kk : ∀ q, sk_S Γ Φ (k + 1) (n + N) f (bs2 q) lv pc' (.ref q :: st)) : sk_S Γ Φ k n f bs lv pc (.int v :: st) := by
  obtain ⟨p, l', e, R, s, m, args, below, meth, c, G', nL', A⟩ := Γ
  obtain ⟨rfl, rfl, rfl, rfl, hx, hb, hml, hown, hts, hK, hlocks, hret⟩ := X
  intro r hf H locs ls hP hD hS hl
  subst hp
  have hby : N * componentBytes (.int) ≤ 536870912 := by
    have h1 : componentBytes (.int) ≤ 8 := by decide
    have h2 : N * componentBytes (.int) ≤ 60000 * 8 := Nat.mul_le_mul hN h1
    omega
  refine va_newa (atype := .int) (ty := .int) (a0 := (N, .inl (fun _ => 0))) hx hb (hts _ q_129) rfl hK hP hD hS AA (fun cA => rfl) hv0 hv hby hk hn hd (fun q cA H1 hK1 hP1 hD1 hS1 => ?_)
  have e1 : s.vm.findClass ("[" ++ (FieldType.int).toString) = some cA := (hK1.2 4 (cA, .int) rfl).2
  have e2 : s.vm.findClass ("[" ++ (FieldType.int).toString) = some (G'.2 0) := (hK.2 0 (G'.2 0, .int) rfl).2
  cases Option.some.inj (e1.symm.trans e2)
  have hfl : bs.flatten ++ [(q, .inl (G'.2 0, (N, .inl (fun _ => 0))))] = (bs2 q).flatten := by rw [← hbs q]; simp
  rw [hfl] at hP1 hD1
  exact kk q r hf H1 locs ls hP1 hD1 hS1 hl
theorem sk_newa_byte (X : sk_X Γ l G rm nL own cc ret) (AA : sk_AA Γ) {v : Int32} {N : Nat} {bs2 : Nat → sk_B} (hv : v.toNatClampNeg = N) (hv0 : ¬ v < 0) (hN : N ≤ 60000) (hbs : ∀ q, bs ++ [[(q, .inl (G.2 2, (N, .inl (fun _ => 0))))]] = bs2 q) (hk : k + 1 ≤ rm.cells) (hn : n + N ≤ rm.slots) (hd : decode cc pc = .ok (.newarray .byte, 2)) (hp : pc + 2 = pc') (kk : ∀ q, sk_S Γ Φ (k + 1) (n + N) f (bs2 q) lv pc' (.ref q :: st)) : sk_S Γ Φ k n f bs lv pc (.int v :: st) := by
  obtain ⟨p, l', e, R, s, m, args, below, meth, c, G', nL', A⟩ := Γ
  obtain ⟨rfl, rfl, rfl, rfl, hx, hb, hml, hown, hts, hK, hlocks, hret⟩ := X
  intro r hf H locs ls hP hD hS hl
  subst hp
  have hby : N * componentBytes (.byte) ≤ 536870912 := by
    have h1 : componentBytes (.byte) ≤ 8 := by decide
    have h2 : N * componentBytes (.byte) ≤ 60000 * 8 := Nat.mul_le_mul hN h1
    omega
  refine va_newa (atype := .byte) (ty := .byte) (a0 := (N, .inl (fun _ => 0))) hx hb (hts _ q_227) rfl hK hP hD hS AA (fun cA => rfl) hv0 hv hby hk hn hd (fun q cA H1 hK1 hP1 hD1 hS1 => ?_)
  have e1 : s.vm.findClass ("[" ++ (FieldType.byte).toString) = some cA := (hK1.2 4 (cA, .byte) rfl).2
  have e2 : s.vm.findClass ("[" ++ (FieldType.byte).toString) = some (G'.2 2) := (hK.2 2 (G'.2 2, .byte) rfl).2
  cases Option.some.inj (e1.symm.trans e2)
  have hfl : bs.flatten ++ [(q, .inl (G'.2 2, (N, .inl (fun _ => 0))))] = (bs2 q).flatten := by rw [← hbs q]; simp
  rw [hfl] at hP1 hD1
  exact kk q r hf H1 locs ls hP1 hD1 hS1 hl
theorem sk_newa_long (X : sk_X Γ l G rm nL own cc ret) (AA : sk_AA Γ) {v : Int32} {N : Nat} {bs2 : Nat → sk_B} (hv : v.toNatClampNeg = N) (hv0 : ¬ v < 0) (hN : N ≤ 60000) (hbs : ∀ q, bs ++ [[(q, .inl (G.2 1, (N, .inr (.inl (fun _ => 0)))))]] = bs2 q) (hk : k + 1 ≤ rm.cells) (hn : n + N ≤ rm.slots) (hd : decode cc pc = .ok (.newarray .long, 2)) (hp : pc + 2 = pc') (kk : ∀ q, sk_S Γ Φ (k + 1) (n + N) f (bs2 q) lv pc' (.ref q :: st)) : sk_S Γ Φ k n f bs lv pc (.int v :: st) := by
  obtain ⟨p, l', e, R, s, m, args, below, meth, c, G', nL', A⟩ := Γ
  obtain ⟨rfl, rfl, rfl, rfl, hx, hb, hml, hown, hts, hK, hlocks, hret⟩ := X
  intro r hf H locs ls hP hD hS hl
  subst hp
  have hby : N * componentBytes (.long) ≤ 536870912 := by
    have h1 : componentBytes (.long) ≤ 8 := by decide
    have h2 : N * componentBytes (.long) ≤ 60000 * 8 := Nat.mul_le_mul hN h1
    omega
  refine va_newa (atype := .long) (ty := .long) (a0 := (N, .inr (.inl (fun _ => 0)))) hx hb (hts _ q_1331) rfl hK hP hD hS AA (fun cA => rfl) hv0 hv hby hk hn hd (fun q cA H1 hK1 hP1 hD1 hS1 => ?_)
  have e1 : s.vm.findClass ("[" ++ (FieldType.long).toString) = some cA := (hK1.2 4 (cA, .long) rfl).2
  have e2 : s.vm.findClass ("[" ++ (FieldType.long).toString) = some (G'.2 1) := (hK.2 1 (G'.2 1, .long) rfl).2
  cases Option.some.inj (e1.symm.trans e2)
  have hfl : bs.flatten ++ [(q, .inl (G'.2 1, (N, .inr (.inl (fun _ => 0)))))] = (bs2 q).flatten := by rw [← hbs q]; simp
  rw [hfl] at hP1 hD1
  exact kk q r hf H1 locs ls hP1 hD1 hS1 hl
theorem sk_anewa (X : sk_X Γ l G rm nL own cc ret) (AA : sk_AA Γ) (EK : sk_EK Γ) {v : Int32} {N ix : Nat} {bs2 : Nat → sk_B} (hv : v.toNatClampNeg = N) (hv0 : ¬ v < 0) (hN : N ≤ 60000) (hcl : Cond.classLink own ix "PulseClocks$Network" ∈ lw_g) (hbs : ∀ q, bs ++ [[(q, .inl (G.2 3, N, .inr (.inr (.inr (.inr (fun _ => none))))))]] = bs2 q) (hk : k + 1 ≤ rm.cells) (hn : n + N ≤ rm.slots) (hd : decode cc pc = .ok (.anewarray ix, 3)) (hp : pc + 3 = pc') (kk : ∀ q, sk_S Γ Φ (k + 1) (n + N) f (bs2 q) lv pc' (.ref q :: st)) : sk_S Γ Φ k n f bs lv pc (.int v :: st) := by
  obtain ⟨p, l', e, R, s, m, args, below, meth, c, G', nL', A⟩ := Γ
  obtain ⟨rfl, rfl, rfl, rfl, hx, hb, hml, hown, hts, hK, hlocks, hret⟩ := X
  intro r hf H locs ls hP hD hS hl
  subst hp
  refine va_newq (C := "PulseClocks$Network") hx hb hown (hts _ hcl) EK.2.2 hK hP hD hS AA hv0 hv (by omega) hk hn hd (fun q cA H1 hK1 hP1 hD1 hS1 => ?_)
  obtain ⟨-, kA, comp, -, -, -, e1⟩ := hK1.2 4 (cA, .object "PulseClocks$Network") rfl
  obtain ⟨-, kA2, comp2, -, -, -, e2⟩ := hK.2 3 (G'.2 3, .object "PulseClocks$Network") rfl
  cases Option.some.inj (e1.symm.trans e2)
  have hfl : bs.flatten ++ [(q, .inl (G'.2 3, N, .inr (.inr (.inr (.inr (fun _ => none))))))] = (bs2 q).flatten := by rw [← hbs q]; simp
  rw [hfl] at hP1 hD1
  exact kk q r hf H1 locs ls hP1 hD1 hS1 hl
theorem sk_putF (X : sk_X Γ l G rm nL own cc ret) (IN : sk_IN Γ) (i j q : Nat) {C : String} {T : u_T} {N ci ix : Nat} {w : va_W} {a : Nat} {fs : List Value} {v : Value} {ty : FieldType} {bs' : sk_B} (hin : ∀ w ∈ u_ws C T N, w ∈ lw_g) (ty0 : Nat → FieldType) (hty : ∀ k, k < N → parseFieldDescriptor (T k).2.2.1 = some (ty0 k)) (hnm : ∀ a, a < N → ∀ b, b < N → a ≠ b → (T a).2.1 ≠ (T b).2.1) (hw : bs[i]? = some w) (ha : w[j]? = some (a, .inr (ci, fs))) (hc : sk_C[ci]? = some (C, T, N)) (hq : q < N) (hlink : Cond.fieldLink own ix (T q).1 (T q).2.1 (T q).2.2.1 ∈ lw_g) (hfin : (T q).2.2.2 = true) (hdecl : (T q).1 = own) (hpd : parseFieldDescriptor (T q).2.2.1 = some ty) (hn : narrow ty v = v) (hfit : fits ty v = true) (hl0 : q < fs.length) (hbs : bs.set i (w.set j (a, .inr (ci, fs.set q v))) = bs') (hd : decode cc pc = .ok (.putfield ix, 3)) (hp : pc + 3 = pc') (kk : sk_S Γ Φ k n f bs' lv pc' st) : sk_S Γ Φ k n f bs lv pc (v :: .ref a :: st) := by
  obtain ⟨p, l', e, R, s, m, args, below, meth, c, G', nL', A⟩ := Γ
  obtain ⟨rfl, rfl, rfl, rfl, hx, hb, hml, hown, hts, hK, hlocks, hret⟩ := X
  intro r hf H locs ls hP hD hS hl
  subst hp; subst hbs
  obtain ⟨n0, h0, h1⟩ := sk_flat hw ha
  refine va_putF hx hb hts hin ty0 hty hnm hown hK hP hD hS n0 h0 hc q hq (hts _ hlink) (fun _ h9 => h9) hfin IN hdecl hpd hn hfit hl0 hd (fun H1 locs1 hP1 hD1 hS1 => ?_)
  rw [h1] at hP1 hD1
  exact kk r hf H1 locs1 ls hP1 hD1 hS1 hl
theorem sk_aast (X : sk_X Γ l G rm nL own cc ret) (i j i2 j2 : Nat) {w w2 : va_W} {a N v : Nat} {fs : List Value} {g : Nat → Option Nat} {x : Int32} {bs' : sk_B} (hw : bs[i]? = some w) (ha : w[j]? = some (a, .inl (G.2 3, N, .inr (.inr (.inr (.inr g)))))) (hw2 : bs[i2]? = some w2) (ha2 : w2[j2]? = some (v, .inr (1, fs))) (hin : sk_in x N = true) (hbs : bs.set i (w.set j (a, .inl (G.2 3, N, .inr (.inr (.inr (.inr (va_up g x.toNatClampNeg (some v)))))))) = bs') (hd : decode cc pc = .ok (.aastore, 1)) (hp : pc + 1 = pc') (kk : sk_S Γ Φ k n f bs' lv pc' st) : sk_S Γ Φ k n f bs lv pc (.ref v :: .int x :: .ref a :: st) := by
  obtain ⟨p, l', e, R, s, m, args, below, meth, c, G', nL', A⟩ := Γ
  obtain ⟨rfl, rfl, rfl, rfl, hx, hb, hml, hown, hts, hK, hlocks, hret⟩ := X
  intro r hf H locs ls hP hD hS hl
  subst hp; subst hbs
  obtain ⟨n0, h0, h1⟩ := sk_flat hw ha
  obtain ⟨n2, h2, -⟩ := sk_flat hw2 ha2
  refine va_astq (r := (RX1, TX1, 14)) hx hb hK hP hD hS n0 3 n2 1 h0 rfl h2 rfl (sk_in_iff.mp hin) hd (fun H1 locs1 hP1 hD1 hS1 => ?_)
  rw [h1] at hP1 hD1
  exact kk r hf H1 locs1 ls hP1 hD1 hS1 hl
theorem sk_true {c : Prop} [Decidable c] (h : c) {f2 : Option ρ} (kk : sk_S Γ Φ k n (if c then f else f2) bs lv pc st) : sk_S Γ Φ k n f bs lv pc st := by rw [if_pos h] at kk; exact kk
theorem sk_false {c : Prop} [Decidable c] (h : ¬ c) {f2 : Option ρ} (kk : sk_S Γ Φ k n (if c then f2 else f) bs lv pc st) : sk_S Γ Φ k n f bs lv pc st := by rw [if_neg h] at kk; exact kk
end SK8
def sk_lkI (own : String) (ix : Nat) (y : MethodName) (b : ByteArray) (nL : Nat) : Prop :=
  Cond.methodLink own ix y ∈ lw_g ∧ Cond.instanceMethod y ∈ lw_g ∧ Cond.initialized y.cls ∈ lw_g ∧ Cond.code y b nL none ∈ lw_g ∧ y.cls ≠ "java/lang/invoke/MethodHandle" ∧ y.cls ≠ "java/lang/invoke/VarHandle" ∧ (parseMethodDescriptor y.desc).map (fun d => d.parameters.length) = some 0 ∧ y.name = "<init>"
def sk_lkN (own : String) (ix : Nat) (y : MethodName) (b : ByteArray) (nL : Nat) : Prop :=
  (∀ U, xk_V U → va_Nw (.methodLinkNest own ix y "PulseClocks") U) ∧ Cond.instanceMethod y ∈ lw_g ∧ Cond.initialized y.cls ∈ lw_g ∧ Cond.code y b nL none ∈ lw_g ∧ y.cls ≠ "java/lang/invoke/MethodHandle" ∧ y.cls ≠ "java/lang/invoke/VarHandle" ∧ (parseMethodDescriptor y.desc).map (fun d => d.parameters.length) = some 0 ∧ y.name = "<init>"

theorem sk_callI {ρ α : Type} {Γ : sk_K} {Φ : ρ → State → Prop} {k n : Nat} {f : Option ρ} {bs : sk_B} {lv : List (Option Value)} {pc pc' : Nat} {st : List Value} {l : Launch} {G : sk_G} {rm : Room} {nL : Nat} {own : String} {cc : ByteArray} {ret : Option FieldType}
    {y : MethodName} {b' : ByteArray} {nL' ix : Nat} {rmc : Room} {mc' ms' a : Nat} {w0 : va_W} {bsf : α → sk_B} {bs0 : sk_B} {bs2 : α → sk_B} {e0 : va_E}
    (X : sk_X Γ l G rm nL own cc ret) (AA : sk_AA Γ) (EK : sk_EK Γ) (C : sk_ktr l G y b' nL' rmc mc' ms' a w0 bsf) (L : sk_lkI own ix y b' nL') (hw0 : w0 = [(a, e0)]) (hbs : bs = bs0 ++ [w0])
    (hR : rmc.frames + 1 ≤ rm.frames ∧ 8 + (nL' + 11) + rmc.locals ≤ rm.locals) (hrc : rmc.cells = mc' ∧ rmc.slots = ms') (hkn : k + mc' ≤ rm.cells ∧ n + ms' ≤ rm.slots) (hW : (st.map fun v => v.category).sum ≤ 8) (hd : decode cc pc = .ok (.invokespecial ix, 3)) (hp : pc + 3 = pc')
    (hbs2 : ∀ x, bs0 ++ bsf x = bs2 x) (kk : ∀ x, sk_S Γ Φ (k + mc') (n + ms') f (bs2 x) lv pc' st) : sk_S Γ Φ k n f bs lv pc (.ref a :: st) := by
  obtain ⟨p, l', e, R, s, m, args, below, meth, c, G', nL9, A⟩ := Γ
  obtain ⟨rfl, rfl, rfl, rfl, hx, hb, hml, hown, hts, hK, hlocks, hret⟩ := X
  intro r hf H locs ls hP hD hS hl
  subst hbs; subst hp; subst hw0
  obtain ⟨L1, L2, L4, L5, L6, L7, L8, L9⟩ := L
  have M := C H.size
  have hws : ∀ w ∈ (.code y b' nL' none :: lw_g : List Cond), w ∈ lw_g := by
    intro w hw
    rcases List.mem_cons.mp hw with rfl | hw <;> assumption
  rw [List.flatten_append] at hP hD
  have hPl : va_P G'.1 sk_C bs0.flatten H := fun k q hk => hP k q (by rw [List.getElem?_append_left (List.getElem?_eq_some_iff.mp hk).1]; exact hk)
  have hPr : va_P G'.1 sk_C [[(a, e0)]].flatten H := fun k q hk => hP (bs0.flatten.length + k) q (by rw [List.getElem?_append_right (Nat.le_add_right _ _), Nat.add_sub_cancel_left]; exact hk)
  have hDr : va_D (fun _ => True) [[(a, e0)]].flatten := by
    rw [sk_D_iff] at hD ⊢
    rw [List.map_append, List.pairwise_append] at hD
    exact ⟨hD.1.2.1, fun _ _ => trivial⟩
  have haA : A a := by
    rw [sk_D_iff] at hD
    exact hD.2 a (by simp)
  have hap : ∀ q ∈ bs0.flatten, q.1 ≠ a ∧ q.1 < H.size := by
    intro q hq
    refine ⟨?_, (sk_P_iff.mp hPl q hq).lt⟩
    rw [sk_D_iff, List.map_append, List.pairwise_append] at hD
    exact hD.1.2.2 q.1 (List.mem_map.mpr ⟨q, hq, rfl⟩) a (by simp)

  have run := va_runI (p := p) (l := l') (e := e) (R := R) (s := s) (m := m) (args := args) (below := below) (meth := meth) (c := c) (H := H) (locs := locs) (cells := k) (slots := n) (As := []) (rest := st) (g := F0 m pc ls (.ref a :: st)) (Ts := lw_g) (own := own) (b := a)
    ⟨hx, hb, hml, hown, hts⟩ M ⟨callB_of 0 hts (sk_good hws) rfl hrc.1 hrc.2 (hts _ L4) (hts _ L1) ⟨L6, L7, L8⟩ hR, L9, hts _ L2⟩ ⟨sk_kblind, fun U hU hW => ⟨by rw [hU], ⟨rfl, by rw [hU]; exact hPr, va_K.moved hW.alike hK, hDr⟩, xk_V.warm hW EK⟩⟩ rfl rfl hl.1 rfl (lv_room hW) hd hkn
  intro T0 hT X0
  obtain ⟨v, st₀, t0, T', L0, e9, X', hL, e1, e2, ⟨hv, ⟨x, hP1, hD1⟩, hz, hk⟩, steps⟩ := run T0 hT X0
  cases hv
  rw [e9] at hz hk
  have hAk : ∀ q, sk_Ak H.size a q → A q := fun q h => h.elim (fun h => h ▸ haA) (fun h => AA q (Nat.le_trans hS.1 h))
  have hPn : va_P G'.1 sk_C (bs0 ++ bsf x).flatten T'.heap := by
    rw [List.flatten_append, sk_P_iff]
    intro q hq
    rcases List.mem_append.mp hq with h | h
    · have ha := sk_P_iff.mp hPl q h
      refine ha.kept ?_
      rw [e1]
      exact hk q.1 ha.lt (fun z => z.elim (hap q h).1 (fun z => by have := (hap q h).2; omega))
    · rw [e1]
      exact sk_P_iff.mp hP1 q h
  have hDn : va_D A (bs0 ++ bsf x).flatten := by
    rw [sk_D_iff] at hD hD1 ⊢
    rw [List.flatten_append, List.map_append, List.pairwise_append]
    rw [List.map_append, List.pairwise_append] at hD
    refine ⟨⟨hD.1.1, hD1.1, fun z hz y hy => ?_⟩, fun z hz => ?_⟩
    · obtain ⟨q, hq, rfl⟩ := List.mem_map.mp hz
      rcases hD1.2 y hy with h | h
      · rw [h]; exact (hap q hq).1
      · have := (hap q hq).2
        omega
    · rcases List.mem_append.mp hz with h | h
      · exact hD.2 z (List.mem_append_left _ h)
      · exact hAk z (hD1.2 z h)
  have hSn : va_S A s.heap T'.heap (locs ++ L0) := ⟨Nat.le_trans hS.1 (by rw [e1]; exact hz), fun q h1 h2 => by rw [e1, hk q (Nat.lt_of_lt_of_le h1 hS.1) (fun z => h2 (hAk q z))]; exact hS.2.1 q h1 h2, fun q hq => by
    rcases List.mem_append.mp hq with h | h
    · exact hS.2.2 q h
    · exact hAk _ (hL q h)⟩
  rw [hbs2 x] at hPn hDn
  obtain ⟨t2, a1, b1⟩ := kk x r hf T'.heap (locs ++ L0) ls hPn hDn hSn hl T' rfl X'
  exact ⟨t2, steps t2 a1, b1⟩
theorem sk_callN {ρ α : Type} {Γ : sk_K} {Φ : ρ → State → Prop} {k n : Nat} {f : Option ρ} {bs : sk_B} {lv : List (Option Value)} {pc pc' : Nat} {st : List Value} {l : Launch} {G : sk_G} {rm : Room} {nL : Nat} {own : String} {cc : ByteArray} {ret : Option FieldType}
    {y : MethodName} {b' : ByteArray} {nL' ix : Nat} {rmc : Room} {mc' ms' a : Nat} {w0 : va_W} {bsf : α → sk_B} {bs0 : sk_B} {bs2 : α → sk_B} {e0 : va_E}
    (X : sk_X Γ l G rm nL own cc ret) (AA : sk_AA Γ) (EK : sk_EK Γ) (C : sk_ktr l G y b' nL' rmc mc' ms' a w0 bsf) (L : sk_lkN own ix y b' nL') (hw0 : w0 = [(a, e0)]) (hbs : bs = bs0 ++ [w0])
    (hR : rmc.frames + 1 ≤ rm.frames ∧ 8 + (nL' + 11) + rmc.locals ≤ rm.locals) (hrc : rmc.cells = mc' ∧ rmc.slots = ms') (hkn : k + mc' ≤ rm.cells ∧ n + ms' ≤ rm.slots) (hW : (st.map fun v => v.category).sum ≤ 8) (hd : decode cc pc = .ok (.invokespecial ix, 3)) (hp : pc + 3 = pc')
    (hbs2 : ∀ x, bs0 ++ bsf x = bs2 x) (kk : ∀ x, sk_S Γ Φ (k + mc') (n + ms') f (bs2 x) lv pc' st) : sk_S Γ Φ k n f bs lv pc (.ref a :: st) := by
  obtain ⟨p, l', e, R, s, m, args, below, meth, c, G', nL9, A⟩ := Γ
  obtain ⟨rfl, rfl, rfl, rfl, hx, hb, hml, hown, hts, hK, hlocks, hret⟩ := X
  intro r hf H locs ls hP hD hS hl
  subst hbs; subst hp; subst hw0
  obtain ⟨L1, L2, L4, L5, L6, L7, L8, L9⟩ := L
  have M := C H.size
  have hws : ∀ w ∈ (.code y b' nL' none :: lw_g : List Cond), w ∈ lw_g := by
    intro w hw
    rcases List.mem_cons.mp hw with rfl | hw <;> assumption
  rw [List.flatten_append] at hP hD
  have hPl : va_P G'.1 sk_C bs0.flatten H := fun k q hk => hP k q (by rw [List.getElem?_append_left (List.getElem?_eq_some_iff.mp hk).1]; exact hk)
  have hPr : va_P G'.1 sk_C [[(a, e0)]].flatten H := fun k q hk => hP (bs0.flatten.length + k) q (by rw [List.getElem?_append_right (Nat.le_add_right _ _), Nat.add_sub_cancel_left]; exact hk)
  have hDr : va_D (fun _ => True) [[(a, e0)]].flatten := by
    rw [sk_D_iff] at hD ⊢
    rw [List.map_append, List.pairwise_append] at hD
    exact ⟨hD.1.2.1, fun _ _ => trivial⟩
  have haA : A a := by
    rw [sk_D_iff] at hD
    exact hD.2 a (by simp)
  have hap : ∀ q ∈ bs0.flatten, q.1 ≠ a ∧ q.1 < H.size := by
    intro q hq
    refine ⟨?_, (sk_P_iff.mp hPl q hq).lt⟩
    rw [sk_D_iff, List.map_append, List.pairwise_append] at hD
    exact hD.1.2.2 q.1 (List.mem_map.mpr ⟨q, hq, rfl⟩) a (by simp)

  have run := va_runIN (p := p) (l := l') (e := e) (R := R) (s := s) (m := m) (args := args) (below := below) (meth := meth) (c := c) (H := H) (locs := locs) (cells := k) (slots := n) (As := []) (rest := st) (g := F0 m pc ls (.ref a :: st)) (Ts := lw_g) (own := own) (host := "PulseClocks") (b := a)
    ⟨hx, hb, hml, hown, hts⟩ M ⟨va_cnB 0 hts (sk_good hws) rfl hrc.1 hrc.2 (L1 s EK) (hts _ L4) ⟨L6, L7, L8⟩ hR, L9, hts _ L2⟩ ⟨sk_kblind, fun U hU hW => ⟨by rw [hU], ⟨rfl, by rw [hU]; exact hPr, va_K.moved hW.alike hK, hDr⟩, xk_V.warm hW EK⟩⟩ rfl rfl hl.1 rfl (lv_room hW) hd hkn
  intro T0 hT X0
  obtain ⟨v, st₀, t0, T', L0, e9, X', hL, e1, e2, ⟨hv, ⟨x, hP1, hD1⟩, hz, hk⟩, steps⟩ := run T0 hT X0
  cases hv
  rw [e9] at hz hk
  have hAk : ∀ q, sk_Ak H.size a q → A q := fun q h => h.elim (fun h => h ▸ haA) (fun h => AA q (Nat.le_trans hS.1 h))
  have hPn : va_P G'.1 sk_C (bs0 ++ bsf x).flatten T'.heap := by
    rw [List.flatten_append, sk_P_iff]
    intro q hq
    rcases List.mem_append.mp hq with h | h
    · have ha := sk_P_iff.mp hPl q h
      refine ha.kept ?_
      rw [e1]
      exact hk q.1 ha.lt (fun z => z.elim (hap q h).1 (fun z => by have := (hap q h).2; omega))
    · rw [e1]
      exact sk_P_iff.mp hP1 q h
  have hDn : va_D A (bs0 ++ bsf x).flatten := by
    rw [sk_D_iff] at hD hD1 ⊢
    rw [List.flatten_append, List.map_append, List.pairwise_append]
    rw [List.map_append, List.pairwise_append] at hD
    refine ⟨⟨hD.1.1, hD1.1, fun z hz y hy => ?_⟩, fun z hz => ?_⟩
    · obtain ⟨q, hq, rfl⟩ := List.mem_map.mp hz
      rcases hD1.2 y hy with h | h
      · rw [h]; exact (hap q hq).1
      · have := (hap q hq).2
        omega
    · rcases List.mem_append.mp hz with h | h
      · exact hD.2 z (List.mem_append_left _ h)
      · exact hAk z (hD1.2 z h)
  have hSn : va_S A s.heap T'.heap (locs ++ L0) := ⟨Nat.le_trans hS.1 (by rw [e1]; exact hz), fun q h1 h2 => by rw [e1, hk q (Nat.lt_of_lt_of_le h1 hS.1) (fun z => h2 (hAk q z))]; exact hS.2.1 q h1 h2, fun q hq => by
    rcases List.mem_append.mp hq with h | h
    · exact hS.2.2 q h
    · exact hAk _ (hL q h)⟩
  rw [hbs2 x] at hPn hDn
  obtain ⟨t2, a1, b1⟩ := kk x r hf T'.heap (locs ++ L0) ls hPn hDn hSn hl T' rfl X'
  exact ⟨t2, steps t2 a1, b1⟩
