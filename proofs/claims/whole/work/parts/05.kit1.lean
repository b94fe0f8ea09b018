/-! blocks of cells, locals as a list of options, the simulation judgement sk_S -/
abbrev sk_B : Type := List va_W
abbrev sk_G : Type := va_G × (Nat → ClassId)
def sk_T (G : sk_G) : List (ClassId × FieldType) := [(G.2 0, .int), (G.2 1, .long), (G.2 2, .byte), (G.2 3, .object "PulseClocks$Network")]
def sk_C : List vw_C := [(RX0, TX0, 4), (RX1, TX1, 14), (RX2, TX2, 3), (RX3, TX3, 6), (RX4, TX4, 5), (RX5, TX5, 16)]
def sk_adr (bs : sk_B) : Nat → Prop := fun q => ∃ x ∈ bs.flatten, x.1 = q
/-- an index is within -/
def sk_in (i : Int32) (n : Nat) : Bool := decide (¬ (i < 0 ∨ n ≤ i.toNatClampNeg))
theorem sk_in_iff {i : Int32} {n : Nat} : sk_in i n = true ↔ vp_in i n := by
  unfold sk_in vp_in
  exact decide_eq_true_iff
def sk_rem (x y : Int32) : Int32 := x - x / y * y
def sk_shl (x y : Int32) : Int32 := x <<< (y &&& 31)
def sk_shr (x y : Int32) : Int32 := x >>> (y &&& 31)
def sk_ushr (x y : Int32) : Int32 := (x.toUInt32 >>> (y.toUInt32 &&& Int32.toUInt32 31)).toInt32
/-- a loop with fuel -/
def sk_lp {σ ρ : Type} (step : (σ → Option ρ) → σ → Option ρ) : Nat → σ → Option ρ
  | 0, _ => none
  | n + 1, s => step (sk_lp step n) s
/-! flat places -/
theorem sk_flat : ∀ {bs : sk_B} {i j : Nat} {w : va_W} {x : Nat × va_E}, bs[i]? = some w → w[j]? = some x → ∃ n : Nat, bs.flatten[n]? = some x ∧ ∀ y : Nat × va_E, bs.flatten.set n y = (bs.set i (w.set j y)).flatten
  | [], i, j, w, x, h, _ => by simp at h
  | v :: t, 0, j, w, x, h, hx => by
    rw [List.getElem?_cons_zero] at h
    cases h
    have hl := (List.getElem?_eq_some_iff.mp hx).1
    refine ⟨j, ?_, fun y => ?_⟩
    · rw [List.flatten_cons, List.getElem?_append_left hl]; exact hx
    · rw [List.flatten_cons, List.set_append_left _ _ hl, List.set_cons_zero, List.flatten_cons]
  | v :: t, i + 1, j, w, x, h, hx => by
    rw [List.getElem?_cons_succ] at h
    obtain ⟨n, h1, h2⟩ := sk_flat h hx
    refine ⟨v.length + n, ?_, fun y => ?_⟩
    · rw [List.flatten_cons, List.getElem?_append_right (Nat.le_add_right _ _), Nat.add_sub_cancel_left]; exact h1
    · rw [List.flatten_cons, List.set_append_right _ _ (Nat.le_add_right _ _), Nat.add_sub_cancel_left, h2, List.set_cons_succ, List.flatten_cons]
theorem sk_P_iff {D : va_G} {cl : List vw_C} {ws : va_W} {H : Heap} : va_P D cl ws H ↔ ∀ q ∈ ws, va_at D cl q H :=
  ⟨fun h q hq => by obtain ⟨k, hk⟩ := List.getElem?_of_mem hq; exact h k q hk, fun h k q hk => h q (List.mem_of_getElem? hk)⟩
theorem sk_D_iff {A : Nat → Prop} {ws : va_W} : va_D A ws ↔ (ws.map Prod.fst).Pairwise (· ≠ ·) ∧ ∀ a ∈ ws.map Prod.fst, A a := by
  constructor
  · intro h
    refine ⟨?_, ?_⟩
    · rw [List.pairwise_map, List.pairwise_iff_getElem]
      intro i j hi hj hij he
      have := h.1 i j _ _ (List.getElem?_eq_getElem hi) (List.getElem?_eq_getElem hj) he
      omega
    · intro a ha
      obtain ⟨q, hq, rfl⟩ := List.mem_map.mp ha
      obtain ⟨k, hk⟩ := List.getElem?_of_mem hq
      exact h.2 k q hk
  · rintro ⟨h1, h2⟩
    rw [List.pairwise_map, List.pairwise_iff_getElem] at h1
    refine ⟨fun i j p q hi hj he => ?_, fun k q hk => h2 _ (List.mem_map.mpr ⟨q, List.mem_of_getElem? hk, rfl⟩)⟩
    obtain ⟨li, rfl⟩ := List.getElem?_eq_some_iff.mp hi
    obtain ⟨lj, rfl⟩ := List.getElem?_eq_some_iff.mp hj
    rcases Nat.lt_trichotomy i j with h | h | h
    · exact absurd he (h1 i j li lj h)
    · exact h
    · exact absurd he.symm (h1 j i lj li h)
/-! locals -/
def lo_prs : Nat → List (Option Value) → List (Nat × Value)
  | _, [] => []
  | i, none :: t => lo_prs (i + 1) t
  | i, some v :: t => (i, v) :: lo_prs (i + 1) t
theorem lo_mem : ∀ (lv : List (Option Value)) (i j : Nat) (v : Value), (j, v) ∈ lo_prs i lv ↔ ∃ k, j = i + k ∧ lv[k]? = some (some v)
  | [], i, j, v => by simp [lo_prs]
  | none :: t, i, j, v => by
    rw [lo_prs, lo_mem t (i + 1) j v]
    constructor
    · rintro ⟨k, rfl, h⟩
      exact ⟨k + 1, by omega, by simpa using h⟩
    · rintro ⟨k, rfl, h⟩
      cases k with
      | zero => simp at h
      | succ k => exact ⟨k, by omega, by simpa using h⟩
  | some w :: t, i, j, v => by
    rw [lo_prs, List.mem_cons, lo_mem t (i + 1) j v]
    constructor
    · rintro (h | ⟨k, rfl, h⟩)
      · cases h; exact ⟨0, rfl, rfl⟩
      · exact ⟨k + 1, by omega, by simpa using h⟩
    · rintro ⟨k, rfl, h⟩
      cases k with
      | zero => left; simp at h; rw [h]; rfl
      | succ k => right; exact ⟨k, by omega, by simpa using h⟩
theorem lo_at {ls : Array Slot} {nL : Nat} {lv : List (Option Value)} {i : Nat} {v : Value} (h : lv_has ls nL (lo_prs 0 lv)) (hi : lv[i]? = some (some v)) : ls[i]? = some (.val v) :=
  h.2.2 (i, v) ((lo_mem lv 0 i v).mpr ⟨i, by omega, hi⟩)
/-- no long stands just before -/
def lo_ok (lv : List (Option Value)) : Nat → Bool
  | 0 => true
  | k + 1 => match lv[k]? with
    | some (some w) => w.category == 1
    | _ => true
theorem lo_set {ls : Array Slot} {nL : Nat} {lv : List (Option Value)} {i : Nat} {v : Value} (h : lv_has ls nL ((i, v) :: (lo_prs 0 lv).filter (fun q => !(q.1 == i) && !(q.1 + 1 == i && q.2.category == 2)))) (hok : lo_ok lv i = true) : lv_has ls nL (lo_prs 0 (lv.set i (some v))) := by
  refine ⟨h.1, h.2.1, fun q hq => h.2.2 q ?_⟩
  obtain ⟨j, w⟩ := q
  obtain ⟨k, hk, hw⟩ := (lo_mem _ _ _ _).mp hq
  rw [Nat.zero_add] at hk
  subst hk
  by_cases hji : j = i
  · subst hji
    have hl : j < lv.length := by
      have := (List.getElem?_eq_some_iff.mp hw).1
      simpa using this
    rw [List.getElem?_set_self hl] at hw
    cases hw
    exact List.mem_cons_self
  · rw [List.getElem?_set_ne (Ne.symm hji)] at hw
    refine List.mem_cons_of_mem _ (List.mem_filter.mpr ⟨(lo_mem _ _ _ _).mpr ⟨j, by omega, hw⟩, ?_⟩)
    simp only [Bool.and_eq_true, Bool.not_eq_true', beq_eq_false_iff_ne, ne_eq, Bool.and_eq_false_iff]
    refine ⟨hji, ?_⟩
    by_cases h1 : j + 1 = i
    · right
      subst h1
      simp only [lo_ok, hw, beq_iff_eq] at hok
      omega
    · exact Or.inl h1
theorem lo_set2 {ls : Array Slot} {nL : Nat} {lv : List (Option Value)} {i : Nat} {v : Value} (h : lv_has ls nL ((i, v) :: (lo_prs 0 lv).filter (fun q => !(q.1 == i) && (!(q.1 == i + 1) && !(q.1 + 1 == i && q.2.category == 2))))) (hok : lo_ok lv i = true) : lv_has ls nL (lo_prs 0 ((lv.set i (some v)).set (i + 1) none)) := by
  refine ⟨h.1, h.2.1, fun q hq => h.2.2 q ?_⟩
  obtain ⟨j, w⟩ := q
  obtain ⟨k, hk, hw⟩ := (lo_mem _ _ _ _).mp hq
  rw [Nat.zero_add] at hk
  subst hk
  by_cases hj1 : j = i + 1
  · subst hj1
    have hl : i + 1 < (lv.set i (some v)).length := (by
      have := (List.getElem?_eq_some_iff.mp hw).1
      simpa using this)
    rw [List.getElem?_set_self hl] at hw
    cases hw
  rw [List.getElem?_set_ne (Ne.symm hj1)] at hw
  by_cases hji : j = i
  · subst hji
    have hl : j < lv.length := by
      have := (List.getElem?_eq_some_iff.mp hw).1
      simpa using this
    rw [List.getElem?_set_self hl] at hw
    cases hw
    exact List.mem_cons_self
  · rw [List.getElem?_set_ne (Ne.symm hji)] at hw
    refine List.mem_cons_of_mem _ (List.mem_filter.mpr ⟨(lo_mem _ _ _ _).mpr ⟨j, by omega, hw⟩, ?_⟩)
    simp only [Bool.and_eq_true, Bool.not_eq_true', beq_eq_false_iff_ne, ne_eq, Bool.and_eq_false_iff]
    refine ⟨hji, hj1, ?_⟩
    by_cases h1 : j + 1 = i
    · right
      subst h1
      simp only [lo_ok, hw, beq_iff_eq] at hok
      omega
    · exact Or.inl h1
theorem lo_kill {ls : Array Slot} {nL : Nat} {lv : List (Option Value)} {i : Nat} (h : lv_has ls nL (lo_prs 0 lv)) : lv_has ls nL (lo_prs 0 (lv.set i none)) := by
  refine ⟨h.1, h.2.1, fun q hq => h.2.2 q ?_⟩
  obtain ⟨j, w⟩ := q
  obtain ⟨k, hk, hw⟩ := (lo_mem _ _ _ _).mp hq
  refine (lo_mem _ _ _ _).mpr ⟨k, hk, ?_⟩
  by_cases hki : k = i
  · subst hki
    have hl : k < lv.length := by
      have := (List.getElem?_eq_some_iff.mp hw).1
      simpa using this
    rw [List.getElem?_set_self hl] at hw
    cases hw
  · rwa [List.getElem?_set_ne (Ne.symm hki)] at hw
/-! the judgement -/
abbrev sk_K : Type := Program × Launch × Env × Room × State × MethodId × Array Value × List Frame × Method × Code × sk_G × Nat × (Nat → Prop)
def sk_X (Γ : sk_K) (l : Launch) (G : sk_G) (rm : Room) (nL : Nat) (own : String) (cc : ByteArray) (ret : Option FieldType) : Prop := match Γ with
  | (p, l', _, R, s, m, args, _, meth, c, G', nL', _) => l' = l ∧ G' = G ∧ R = rm ∧ nL' = nL ∧ p.tables.exec = Jvm.exec ∧ c.code = cc ∧ c.maxLocals = nL ∧ s.vm.findClass own = some m.cls ∧ (∀ w ∈ lw_g, w.before args s = true) ∧ va_K G.1 sk_C (sk_T G) s ∧ meth.locks = false ∧ meth.sig.returnType = ret
def sk_S {ρ : Type} (Γ : sk_K) (Φ : ρ → State → Prop) (k n : Nat) (f : Option ρ) (bs : sk_B) (lv : List (Option Value)) (pc : Nat) (st : List Value) : Prop := match Γ with
  | (p, l, e, R, s, m, args, below, meth, c, G, nL, A) => ∀ r, f = some r → ∀ (H : Heap) (locs : List Loc) (ls : Array Slot), va_P G.1 sk_C bs.flatten H → va_D A bs.flatten → va_S A s.heap H locs → lv_has ls nL (lo_prs 0 lv) → W p l e R s m args below meth c H locs k n (Φ r) (F0 m pc ls st)
