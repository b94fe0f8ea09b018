section SK2
variable {ρ : Type} {Γ : sk_K} {Φ : ρ → State → Prop} {k n : Nat} {f f1 f2 : Option ρ} {bs : sk_B} {lv : List (Option Value)} {pc pc' tgt : Nat} {st : List Value} {l : Launch} {G : sk_G} {rm : Room} {nL : Nat} {own : String} {cc : ByteArray} {ret : Option FieldType}
theorem sk_iconst (X : sk_X Γ l G rm nL own cc ret) {z : Int} {v : Int32} (hv : Int32.ofInt z = v) (hd : decode cc pc = .ok (.iconst z, 1)) (hp : pc + 1 = pc') (kk : sk_S Γ Φ k n f bs lv pc' (.int v :: st)) : sk_S Γ Φ k n f bs lv pc st := by
  obtain ⟨p, l', e, R, s, m, args, below, meth, c, G', nL', A⟩ := Γ
  obtain ⟨rfl, rfl, rfl, rfl, hx, hb, hml, hown, hts, hK, hlocks, hret⟩ := X
  intro r hf H locs ls hP hD hS hl
  subst hp
  exact lv_iconst hx hb hd hv (kk r hf H locs ls hP hD hS hl)
theorem sk_bipush (X : sk_X Γ l G rm nL own cc ret) {z : Int} {v : Int32} (hv : (Int8.ofInt z).toInt32 = v) (hd : decode cc pc = .ok (.bipush z, 2)) (hp : pc + 2 = pc') (kk : sk_S Γ Φ k n f bs lv pc' (.int v :: st)) : sk_S Γ Φ k n f bs lv pc st := by
  obtain ⟨p, l', e, R, s, m, args, below, meth, c, G', nL', A⟩ := Γ
  obtain ⟨rfl, rfl, rfl, rfl, hx, hb, hml, hown, hts, hK, hlocks, hret⟩ := X
  intro r hf H locs ls hP hD hS hl
  subst hp
  exact lv_bipush hx hb hd hv (kk r hf H locs ls hP hD hS hl)
theorem sk_sipush (X : sk_X Γ l G rm nL own cc ret) {z : Int} {v : Int32} (hv : (Int16.ofInt z).toInt32 = v) (hd : decode cc pc = .ok (.sipush z, 3)) (hp : pc + 3 = pc') (kk : sk_S Γ Φ k n f bs lv pc' (.int v :: st)) : sk_S Γ Φ k n f bs lv pc st := by
  obtain ⟨p, l', e, R, s, m, args, below, meth, c, G', nL', A⟩ := Γ
  obtain ⟨rfl, rfl, rfl, rfl, hx, hb, hml, hown, hts, hK, hlocks, hret⟩ := X
  intro r hf H locs ls hP hD hS hl
  subst hp
  exact lv_sipush hx hb hd hv (kk r hf H locs ls hP hD hS hl)
theorem sk_lconst (X : sk_X Γ l G rm nL own cc ret) {z : Fin 2} {v : Int64} (hv : Int64.ofNat (z : Nat) = v) (hd : decode cc pc = .ok (.lconst z, 1)) (hp : pc + 1 = pc') (kk : sk_S Γ Φ k n f bs lv pc' (.long v :: st)) : sk_S Γ Φ k n f bs lv pc st := by
  obtain ⟨p, l', e, R, s, m, args, below, meth, c, G', nL', A⟩ := Γ
  obtain ⟨rfl, rfl, rfl, rfl, hx, hb, hml, hown, hts, hK, hlocks, hret⟩ := X
  intro r hf H locs ls hP hD hS hl
  subst hp
  exact lv_lconst hx hb hd hv (kk r hf H locs ls hP hD hS hl)
theorem sk_ldc (X : sk_X Γ l G rm nL own cc ret) {ix : Nat} {v : Int32} (hq : Cond.constant own ix v ∈ lw_g) (hd : decode cc pc = .ok (.ldc ix, 2)) (hp : pc + 2 = pc') (kk : sk_S Γ Φ k n f bs lv pc' (.int v :: st)) : sk_S Γ Φ k n f bs lv pc st := by
  obtain ⟨p, l', e, R, s, m, args, below, meth, c, G', nL', A⟩ := Γ
  obtain ⟨rfl, rfl, rfl, rfl, hx, hb, hml, hown, hts, hK, hlocks, hret⟩ := X
  intro r hf H locs ls hP hD hS hl
  subst hp
  exact lv_ldc hx hb hown (hts _ hq) hd (kk r hf H locs ls hP hD hS hl)
theorem sk_ldcw (X : sk_X Γ l G rm nL own cc ret) {ix : Nat} {v : Int32} (hq : Cond.constant own ix v ∈ lw_g) (hd : decode cc pc = .ok (.ldc_w ix, 3)) (hp : pc + 3 = pc') (kk : sk_S Γ Φ k n f bs lv pc' (.int v :: st)) : sk_S Γ Φ k n f bs lv pc st := by
  obtain ⟨p, l', e, R, s, m, args, below, meth, c, G', nL', A⟩ := Γ
  obtain ⟨rfl, rfl, rfl, rfl, hx, hb, hml, hown, hts, hK, hlocks, hret⟩ := X
  intro r hf H locs ls hP hD hS hl
  subst hp
  exact lv_ldcw hx hb hown (hts _ hq) hd (kk r hf H locs ls hP hD hS hl)
theorem sk_ldc2 (X : sk_X Γ l G rm nL own cc ret) {ix : Nat} {v : Int64} (hq : Cond.constantLong own ix v ∈ lw_g) (hd : decode cc pc = .ok (.ldc2_w ix, 3)) (hp : pc + 3 = pc') (kk : sk_S Γ Φ k n f bs lv pc' (.long v :: st)) : sk_S Γ Φ k n f bs lv pc st := by
  obtain ⟨p, l', e, R, s, m, args, below, meth, c, G', nL', A⟩ := Γ
  obtain ⟨rfl, rfl, rfl, rfl, hx, hb, hml, hown, hts, hK, hlocks, hret⟩ := X
  intro r hf H locs ls hP hD hS hl
  subst hp
  exact lv_ldc2 hx hb hown (hts _ hq) hd (kk r hf H locs ls hP hD hS hl)
theorem sk_iload_n (X : sk_X Γ l G rm nL own cc ret) {j : Fin 4} {x : Int32} (hv : lv[(j : Nat)]? = some (some (.int x))) (hd : decode cc pc = .ok (.iload_n j, 1)) (hp : pc + 1 = pc') (kk : sk_S Γ Φ k n f bs lv pc' (.int x :: st)) : sk_S Γ Φ k n f bs lv pc st := by
  obtain ⟨p, l', e, R, s, m, args, below, meth, c, G', nL', A⟩ := Γ
  obtain ⟨rfl, rfl, rfl, rfl, hx, hb, hml, hown, hts, hK, hlocks, hret⟩ := X
  intro r hf H locs ls hP hD hS hl
  subst hp
  exact lv_iload_n hx hb hd rfl (lo_at hl hv) (kk r hf H locs ls hP hD hS hl)
theorem sk_iload (X : sk_X Γ l G rm nL own cc ret) {j : Nat} {x : Int32} (hv : lv[j]? = some (some (.int x))) (hd : decode cc pc = .ok (.iload j, 2)) (hp : pc + 2 = pc') (kk : sk_S Γ Φ k n f bs lv pc' (.int x :: st)) : sk_S Γ Φ k n f bs lv pc st := by
  obtain ⟨p, l', e, R, s, m, args, below, meth, c, G', nL', A⟩ := Γ
  obtain ⟨rfl, rfl, rfl, rfl, hx, hb, hml, hown, hts, hK, hlocks, hret⟩ := X
  intro r hf H locs ls hP hD hS hl
  subst hp
  exact lv_iload hx hb hd (lo_at hl hv) (kk r hf H locs ls hP hD hS hl)
theorem sk_lload_n (X : sk_X Γ l G rm nL own cc ret) {j : Fin 4} {x : Int64} (hv : lv[(j : Nat)]? = some (some (.long x))) (hd : decode cc pc = .ok (.lload_n j, 1)) (hp : pc + 1 = pc') (kk : sk_S Γ Φ k n f bs lv pc' (.long x :: st)) : sk_S Γ Φ k n f bs lv pc st := by
  obtain ⟨p, l', e, R, s, m, args, below, meth, c, G', nL', A⟩ := Γ
  obtain ⟨rfl, rfl, rfl, rfl, hx, hb, hml, hown, hts, hK, hlocks, hret⟩ := X
  intro r hf H locs ls hP hD hS hl
  subst hp
  exact lv_lload_n hx hb hd rfl (lo_at hl hv) (kk r hf H locs ls hP hD hS hl)
theorem sk_lload (X : sk_X Γ l G rm nL own cc ret) {j : Nat} {x : Int64} (hv : lv[j]? = some (some (.long x))) (hd : decode cc pc = .ok (.lload j, 2)) (hp : pc + 2 = pc') (kk : sk_S Γ Φ k n f bs lv pc' (.long x :: st)) : sk_S Γ Φ k n f bs lv pc st := by
  obtain ⟨p, l', e, R, s, m, args, below, meth, c, G', nL', A⟩ := Γ
  obtain ⟨rfl, rfl, rfl, rfl, hx, hb, hml, hown, hts, hK, hlocks, hret⟩ := X
  intro r hf H locs ls hP hD hS hl
  subst hp
  exact lv_lload hx hb hd (lo_at hl hv) (kk r hf H locs ls hP hD hS hl)
theorem sk_aload_n (X : sk_X Γ l G rm nL own cc ret) {j : Fin 4} {x : Nat} (hv : lv[(j : Nat)]? = some (some (.ref x))) (hd : decode cc pc = .ok (.aload_n j, 1)) (hp : pc + 1 = pc') (kk : sk_S Γ Φ k n f bs lv pc' (.ref x :: st)) : sk_S Γ Φ k n f bs lv pc st := by
  obtain ⟨p, l', e, R, s, m, args, below, meth, c, G', nL', A⟩ := Γ
  obtain ⟨rfl, rfl, rfl, rfl, hx, hb, hml, hown, hts, hK, hlocks, hret⟩ := X
  intro r hf H locs ls hP hD hS hl
  subst hp
  exact lv_aload_n hx hb hd rfl (lo_at hl hv) (kk r hf H locs ls hP hD hS hl)
theorem sk_aload (X : sk_X Γ l G rm nL own cc ret) {j : Nat} {x : Nat} (hv : lv[j]? = some (some (.ref x))) (hd : decode cc pc = .ok (.aload j, 2)) (hp : pc + 2 = pc') (kk : sk_S Γ Φ k n f bs lv pc' (.ref x :: st)) : sk_S Γ Φ k n f bs lv pc st := by
  obtain ⟨p, l', e, R, s, m, args, below, meth, c, G', nL', A⟩ := Γ
  obtain ⟨rfl, rfl, rfl, rfl, hx, hb, hml, hown, hts, hK, hlocks, hret⟩ := X
  intro r hf H locs ls hP hD hS hl
  subst hp
  exact lv_aload hx hb hd (lo_at hl hv) (kk r hf H locs ls hP hD hS hl)
theorem sk_istore_n (X : sk_X Γ l G rm nL own cc ret) {j : Fin 4} {x : Int32} {lv' : List (Option Value)} (hn : (j : Nat) < nL) (hok : lo_ok lv (j : Nat) = true) (hv : lv.set (j : Nat) (some (.int x)) = lv') (hd : decode cc pc = .ok (.istore_n j, 1)) (hp : pc + 1 = pc') (kk : sk_S Γ Φ k n f bs lv' pc' st) : sk_S Γ Φ k n f bs lv pc (.int x :: st) := by
  obtain ⟨p, l', e, R, s, m, args, below, meth, c, G', nL', A⟩ := Γ
  obtain ⟨rfl, rfl, rfl, rfl, hx, hb, hml, hown, hts, hK, hlocks, hret⟩ := X
  intro r hf H locs ls hP hD hS hl
  subst hp; subst hv
  exact lv_istore_n hx hb hd rfl hl hn rfl (fun ls' hl' => kk r hf H locs ls' hP hD hS (lo_set hl' hok))
theorem sk_istore (X : sk_X Γ l G rm nL own cc ret) {j : Nat} {x : Int32} {lv' : List (Option Value)} (hn : j < nL) (hok : lo_ok lv j = true) (hv : lv.set j (some (.int x)) = lv') (hd : decode cc pc = .ok (.istore j, 2)) (hp : pc + 2 = pc') (kk : sk_S Γ Φ k n f bs lv' pc' st) : sk_S Γ Φ k n f bs lv pc (.int x :: st) := by
  obtain ⟨p, l', e, R, s, m, args, below, meth, c, G', nL', A⟩ := Γ
  obtain ⟨rfl, rfl, rfl, rfl, hx, hb, hml, hown, hts, hK, hlocks, hret⟩ := X
  intro r hf H locs ls hP hD hS hl
  subst hp; subst hv
  exact lv_istore hx hb hd hl hn rfl (fun ls' hl' => kk r hf H locs ls' hP hD hS (lo_set hl' hok))
theorem sk_astore_n (X : sk_X Γ l G rm nL own cc ret) {j : Fin 4} {x : Nat} {lv' : List (Option Value)} (hn : (j : Nat) < nL) (hok : lo_ok lv (j : Nat) = true) (hv : lv.set (j : Nat) (some (.ref x)) = lv') (hd : decode cc pc = .ok (.astore_n j, 1)) (hp : pc + 1 = pc') (kk : sk_S Γ Φ k n f bs lv' pc' st) : sk_S Γ Φ k n f bs lv pc (.ref x :: st) := by
  obtain ⟨p, l', e, R, s, m, args, below, meth, c, G', nL', A⟩ := Γ
  obtain ⟨rfl, rfl, rfl, rfl, hx, hb, hml, hown, hts, hK, hlocks, hret⟩ := X
  intro r hf H locs ls hP hD hS hl
  subst hp; subst hv
  exact lv_astore_n hx hb hd rfl hl hn rfl (fun ls' hl' => kk r hf H locs ls' hP hD hS (lo_set hl' hok))
theorem sk_astore (X : sk_X Γ l G rm nL own cc ret) {j : Nat} {x : Nat} {lv' : List (Option Value)} (hn : j < nL) (hok : lo_ok lv j = true) (hv : lv.set j (some (.ref x)) = lv') (hd : decode cc pc = .ok (.astore j, 2)) (hp : pc + 2 = pc') (kk : sk_S Γ Φ k n f bs lv' pc' st) : sk_S Γ Φ k n f bs lv pc (.ref x :: st) := by
  obtain ⟨p, l', e, R, s, m, args, below, meth, c, G', nL', A⟩ := Γ
  obtain ⟨rfl, rfl, rfl, rfl, hx, hb, hml, hown, hts, hK, hlocks, hret⟩ := X
  intro r hf H locs ls hP hD hS hl
  subst hp; subst hv
  exact lv_astore hx hb hd hl hn rfl (fun ls' hl' => kk r hf H locs ls' hP hD hS (lo_set hl' hok))
theorem sk_lstore_n (X : sk_X Γ l G rm nL own cc ret) {j : Fin 4} {x : Int64} {lv' : List (Option Value)} (hn : (j : Nat) + 1 < nL) (hok : lo_ok lv (j : Nat) = true) (hv : (lv.set (j : Nat) (some (.long x))).set ((j : Nat) + 1) none = lv') (hd : decode cc pc = .ok (.lstore_n j, 1)) (hp : pc + 1 = pc') (kk : sk_S Γ Φ k n f bs lv' pc' st) : sk_S Γ Φ k n f bs lv pc (.long x :: st) := by
  obtain ⟨p, l', e, R, s, m, args, below, meth, c, G', nL', A⟩ := Γ
  obtain ⟨rfl, rfl, rfl, rfl, hx, hb, hml, hown, hts, hK, hlocks, hret⟩ := X
  intro r hf H locs ls hP hD hS hl
  subst hp; subst hv
  exact lv_lstore_n hx hb hd rfl hl hn rfl (fun ls' hl' => kk r hf H locs ls' hP hD hS (lo_set2 hl' hok))
theorem sk_lstore (X : sk_X Γ l G rm nL own cc ret) {j : Nat} {x : Int64} {lv' : List (Option Value)} (hn : j + 1 < nL) (hok : lo_ok lv j = true) (hv : (lv.set j (some (.long x))).set (j + 1) none = lv') (hd : decode cc pc = .ok (.lstore j, 2)) (hp : pc + 2 = pc') (kk : sk_S Γ Φ k n f bs lv' pc' st) : sk_S Γ Φ k n f bs lv pc (.long x :: st) := by
  obtain ⟨p, l', e, R, s, m, args, below, meth, c, G', nL', A⟩ := Γ
  obtain ⟨rfl, rfl, rfl, rfl, hx, hb, hml, hown, hts, hK, hlocks, hret⟩ := X
  intro r hf H locs ls hP hD hS hl
  subst hp; subst hv
  exact lv_lstore hx hb hd hl hn rfl (fun ls' hl' => kk r hf H locs ls' hP hD hS (lo_set2 hl' hok))
theorem sk_iinc (X : sk_X Γ l G rm nL own cc ret) {j : Nat} {z : Int} {x d : Int32} {lv' : List (Option Value)} (hx0 : lv[j]? = some (some (.int x))) (hz : Int32.ofInt z = d) (hn : j < nL) (hok : lo_ok lv j = true) (hv : lv.set j (some (.int (x + d))) = lv') (hd : decode cc pc = .ok (.iinc j z, 3)) (hp : pc + 3 = pc') (kk : sk_S Γ Φ k n f bs lv' pc' st) : sk_S Γ Φ k n f bs lv pc st := by
  obtain ⟨p, l', e, R, s, m, args, below, meth, c, G', nL', A⟩ := Γ
  obtain ⟨rfl, rfl, rfl, rfl, hx, hb, hml, hown, hts, hK, hlocks, hret⟩ := X
  intro r hf H locs ls hP hD hS hl
  subst hp; subst hv; subst hz
  obtain ⟨k1, hk1⟩ := List.getElem?_of_mem ((lo_mem lv 0 j (.int x)).mpr ⟨j, by omega, hx0⟩)
  exact lv_iinc hx hb hd hl hk1 rfl hn rfl (fun ls' hl' => kk r hf H locs ls' hP hD hS (lo_set hl' hok))
theorem sk_kill (j : Nat) (kk : sk_S Γ Φ k n f bs (lv.set j none) pc st) : sk_S Γ Φ k n f bs lv pc st := by
  obtain ⟨p, l', e, R, s, m, args, below, meth, c, G', nL', A⟩ := Γ
  intro r hf H locs ls hP hD hS hl
  exact kk r hf H locs ls hP hD hS (lo_kill hl)
theorem sk_iadd (X : sk_X Γ l G rm nL own cc ret) {x y : Int32} (hd : decode cc pc = .ok (.iadd, 1)) (hp : pc + 1 = pc') (kk : sk_S Γ Φ k n f bs lv pc' (.int (x + y) :: st)) : sk_S Γ Φ k n f bs lv pc (.int y :: .int x :: st) := by
  obtain ⟨p, l', e, R, s, m, args, below, meth, c, G', nL', A⟩ := Γ
  obtain ⟨rfl, rfl, rfl, rfl, hx, hb, hml, hown, hts, hK, hlocks, hret⟩ := X
  intro r hf H locs ls hP hD hS hl
  subst hp
  exact lv_iadd hx hb hd (kk r hf H locs ls hP hD hS hl)
theorem sk_isub (X : sk_X Γ l G rm nL own cc ret) {x y : Int32} (hd : decode cc pc = .ok (.isub, 1)) (hp : pc + 1 = pc') (kk : sk_S Γ Φ k n f bs lv pc' (.int (x - y) :: st)) : sk_S Γ Φ k n f bs lv pc (.int y :: .int x :: st) := by
  obtain ⟨p, l', e, R, s, m, args, below, meth, c, G', nL', A⟩ := Γ
  obtain ⟨rfl, rfl, rfl, rfl, hx, hb, hml, hown, hts, hK, hlocks, hret⟩ := X
  intro r hf H locs ls hP hD hS hl
  subst hp
  exact lv_isub hx hb hd (kk r hf H locs ls hP hD hS hl)
theorem sk_imul (X : sk_X Γ l G rm nL own cc ret) {x y : Int32} (hd : decode cc pc = .ok (.imul, 1)) (hp : pc + 1 = pc') (kk : sk_S Γ Φ k n f bs lv pc' (.int (x * y) :: st)) : sk_S Γ Φ k n f bs lv pc (.int y :: .int x :: st) := by
  obtain ⟨p, l', e, R, s, m, args, below, meth, c, G', nL', A⟩ := Γ
  obtain ⟨rfl, rfl, rfl, rfl, hx, hb, hml, hown, hts, hK, hlocks, hret⟩ := X
  intro r hf H locs ls hP hD hS hl
  subst hp
  exact lv_imul hx hb hd (kk r hf H locs ls hP hD hS hl)
theorem sk_iand (X : sk_X Γ l G rm nL own cc ret) {x y : Int32} (hd : decode cc pc = .ok (.iand, 1)) (hp : pc + 1 = pc') (kk : sk_S Γ Φ k n f bs lv pc' (.int (x &&& y) :: st)) : sk_S Γ Φ k n f bs lv pc (.int y :: .int x :: st) := by
  obtain ⟨p, l', e, R, s, m, args, below, meth, c, G', nL', A⟩ := Γ
  obtain ⟨rfl, rfl, rfl, rfl, hx, hb, hml, hown, hts, hK, hlocks, hret⟩ := X
  intro r hf H locs ls hP hD hS hl
  subst hp
  exact lv_iand hx hb hd (kk r hf H locs ls hP hD hS hl)
theorem sk_ior (X : sk_X Γ l G rm nL own cc ret) {x y : Int32} (hd : decode cc pc = .ok (.ior, 1)) (hp : pc + 1 = pc') (kk : sk_S Γ Φ k n f bs lv pc' (.int (x ||| y) :: st)) : sk_S Γ Φ k n f bs lv pc (.int y :: .int x :: st) := by
  obtain ⟨p, l', e, R, s, m, args, below, meth, c, G', nL', A⟩ := Γ
  obtain ⟨rfl, rfl, rfl, rfl, hx, hb, hml, hown, hts, hK, hlocks, hret⟩ := X
  intro r hf H locs ls hP hD hS hl
  subst hp
  exact lv_ior hx hb hd (kk r hf H locs ls hP hD hS hl)
theorem sk_ixor (X : sk_X Γ l G rm nL own cc ret) {x y : Int32} (hd : decode cc pc = .ok (.ixor, 1)) (hp : pc + 1 = pc') (kk : sk_S Γ Φ k n f bs lv pc' (.int (x ^^^ y) :: st)) : sk_S Γ Φ k n f bs lv pc (.int y :: .int x :: st) := by
  obtain ⟨p, l', e, R, s, m, args, below, meth, c, G', nL', A⟩ := Γ
  obtain ⟨rfl, rfl, rfl, rfl, hx, hb, hml, hown, hts, hK, hlocks, hret⟩ := X
  intro r hf H locs ls hP hD hS hl
  subst hp
  exact lv_ixor hx hb hd (kk r hf H locs ls hP hD hS hl)
theorem sk_ishl (X : sk_X Γ l G rm nL own cc ret) {x y : Int32} (hd : decode cc pc = .ok (.ishl, 1)) (hp : pc + 1 = pc') (kk : sk_S Γ Φ k n f bs lv pc' (.int (sk_shl x y) :: st)) : sk_S Γ Φ k n f bs lv pc (.int y :: .int x :: st) := by
  obtain ⟨p, l', e, R, s, m, args, below, meth, c, G', nL', A⟩ := Γ
  obtain ⟨rfl, rfl, rfl, rfl, hx, hb, hml, hown, hts, hK, hlocks, hret⟩ := X
  intro r hf H locs ls hP hD hS hl
  subst hp
  exact lv_ishl hx hb hd (kk r hf H locs ls hP hD hS hl)
theorem sk_ishr (X : sk_X Γ l G rm nL own cc ret) {x y : Int32} (hd : decode cc pc = .ok (.ishr, 1)) (hp : pc + 1 = pc') (kk : sk_S Γ Φ k n f bs lv pc' (.int (sk_shr x y) :: st)) : sk_S Γ Φ k n f bs lv pc (.int y :: .int x :: st) := by
  obtain ⟨p, l', e, R, s, m, args, below, meth, c, G', nL', A⟩ := Γ
  obtain ⟨rfl, rfl, rfl, rfl, hx, hb, hml, hown, hts, hK, hlocks, hret⟩ := X
  intro r hf H locs ls hP hD hS hl
  subst hp
  exact lv_ishr hx hb hd (kk r hf H locs ls hP hD hS hl)
theorem sk_iushr (X : sk_X Γ l G rm nL own cc ret) {x y : Int32} (hd : decode cc pc = .ok (.iushr, 1)) (hp : pc + 1 = pc') (kk : sk_S Γ Φ k n f bs lv pc' (.int (sk_ushr x y) :: st)) : sk_S Γ Φ k n f bs lv pc (.int y :: .int x :: st) := by
  obtain ⟨p, l', e, R, s, m, args, below, meth, c, G', nL', A⟩ := Γ
  obtain ⟨rfl, rfl, rfl, rfl, hx, hb, hml, hown, hts, hK, hlocks, hret⟩ := X
  intro r hf H locs ls hP hD hS hl
  subst hp
  exact lv_iushr hx hb hd rfl (kk r hf H locs ls hP hD hS hl)
theorem sk_ladd (X : sk_X Γ l G rm nL own cc ret) {x y : Int64} (hd : decode cc pc = .ok (.ladd, 1)) (hp : pc + 1 = pc') (kk : sk_S Γ Φ k n f bs lv pc' (.long (x + y) :: st)) : sk_S Γ Φ k n f bs lv pc (.long y :: .long x :: st) := by
  obtain ⟨p, l', e, R, s, m, args, below, meth, c, G', nL', A⟩ := Γ
  obtain ⟨rfl, rfl, rfl, rfl, hx, hb, hml, hown, hts, hK, hlocks, hret⟩ := X
  intro r hf H locs ls hP hD hS hl
  subst hp
  exact lv_ladd hx hb hd (kk r hf H locs ls hP hD hS hl)
theorem sk_lmul (X : sk_X Γ l G rm nL own cc ret) {x y : Int64} (hd : decode cc pc = .ok (.lmul, 1)) (hp : pc + 1 = pc') (kk : sk_S Γ Φ k n f bs lv pc' (.long (x * y) :: st)) : sk_S Γ Φ k n f bs lv pc (.long y :: .long x :: st) := by
  obtain ⟨p, l', e, R, s, m, args, below, meth, c, G', nL', A⟩ := Γ
  obtain ⟨rfl, rfl, rfl, rfl, hx, hb, hml, hown, hts, hK, hlocks, hret⟩ := X
  intro r hf H locs ls hP hD hS hl
  subst hp
  exact lv_lmul hx hb hd (kk r hf H locs ls hP hD hS hl)
theorem sk_lcmp (X : sk_X Γ l G rm nL own cc ret) {x y : Int64} (hd : decode cc pc = .ok (.lcmp, 1)) (hp : pc + 1 = pc') (kk : sk_S Γ Φ k n f bs lv pc' (.int (lg_cmp x y) :: st)) : sk_S Γ Φ k n f bs lv pc (.long y :: .long x :: st) := by
  obtain ⟨p, l', e, R, s, m, args, below, meth, c, G', nL', A⟩ := Γ
  obtain ⟨rfl, rfl, rfl, rfl, hx, hb, hml, hown, hts, hK, hlocks, hret⟩ := X
  intro r hf H locs ls hP hD hS hl
  subst hp
  exact W.lcmp hx hb hd (kk r hf H locs ls hP hD hS hl)
theorem sk_i2l (X : sk_X Γ l G rm nL own cc ret) {x : Int32} (hd : decode cc pc = .ok (.i2l, 1)) (hp : pc + 1 = pc') (kk : sk_S Γ Φ k n f bs lv pc' (.long x.toInt64 :: st)) : sk_S Γ Φ k n f bs lv pc (.int x :: st) := by
  obtain ⟨p, l', e, R, s, m, args, below, meth, c, G', nL', A⟩ := Γ
  obtain ⟨rfl, rfl, rfl, rfl, hx, hb, hml, hown, hts, hK, hlocks, hret⟩ := X
  intro r hf H locs ls hP hD hS hl
  subst hp
  exact lv_i2l hx hb hd rfl (kk r hf H locs ls hP hD hS hl)
theorem sk_i2b (X : sk_X Γ l G rm nL own cc ret) {x : Int32} (hd : decode cc pc = .ok (.i2b, 1)) (hp : pc + 1 = pc') (kk : sk_S Γ Φ k n f bs lv pc' (.int x.toInt8.toInt32 :: st)) : sk_S Γ Φ k n f bs lv pc (.int x :: st) := by
  obtain ⟨p, l', e, R, s, m, args, below, meth, c, G', nL', A⟩ := Γ
  obtain ⟨rfl, rfl, rfl, rfl, hx, hb, hml, hown, hts, hK, hlocks, hret⟩ := X
  intro r hf H locs ls hP hD hS hl
  subst hp
  exact lv_i2b hx hb hd rfl (kk r hf H locs ls hP hD hS hl)
theorem sk_idiv (X : sk_X Γ l G rm nL own cc ret) {x y : Int32} (hd : decode cc pc = .ok (.idiv, 1)) (hp : pc + 1 = pc') (kk : sk_S Γ Φ k n f bs lv pc' (.int (x / y) :: st)) : sk_S Γ Φ k n (if y = 0 then none else f) bs lv pc (.int y :: .int x :: st) := by
  obtain ⟨p, l', e, R, s, m, args, below, meth, c, G', nL', A⟩ := Γ
  obtain ⟨rfl, rfl, rfl, rfl, hx, hb, hml, hown, hts, hK, hlocks, hret⟩ := X
  intro r hf H locs ls hP hD hS hl
  subst hp
  by_cases hy : y = 0
  · rw [if_pos hy] at hf; cases hf
  · rw [if_neg hy] at hf
    exact lv_idiv hx hb hd hy (kk r hf H locs ls hP hD hS hl)
theorem sk_irem (X : sk_X Γ l G rm nL own cc ret) {x y : Int32} (hd : decode cc pc = .ok (.irem, 1)) (hp : pc + 1 = pc') (kk : sk_S Γ Φ k n f bs lv pc' (.int (sk_rem x y) :: st)) : sk_S Γ Φ k n (if y = 0 then none else f) bs lv pc (.int y :: .int x :: st) := by
  obtain ⟨p, l', e, R, s, m, args, below, meth, c, G', nL', A⟩ := Γ
  obtain ⟨rfl, rfl, rfl, rfl, hx, hb, hml, hown, hts, hK, hlocks, hret⟩ := X
  intro r hf H locs ls hP hD hS hl
  subst hp
  by_cases hy : y = 0
  · rw [if_pos hy] at hf; cases hf
  · rw [if_neg hy] at hf
    exact lv_irem hx hb hd hy (kk r hf H locs ls hP hD hS hl)
theorem sk_dup (X : sk_X Γ l G rm nL own cc ret) {v : Value} (hv : v.category = 1) (hd : decode cc pc = .ok (.dup, 1)) (hp : pc + 1 = pc') (kk : sk_S Γ Φ k n f bs lv pc' (v :: v :: st)) : sk_S Γ Φ k n f bs lv pc (v :: st) := by
  obtain ⟨p, l', e, R, s, m, args, below, meth, c, G', nL', A⟩ := Γ
  obtain ⟨rfl, rfl, rfl, rfl, hx, hb, hml, hown, hts, hK, hlocks, hret⟩ := X
  intro r hf H locs ls hP hD hS hl
  subst hp
  exact lv_dup hx hb hd hv (kk r hf H locs ls hP hD hS hl)
theorem sk_pop (X : sk_X Γ l G rm nL own cc ret) {v : Value} (hv : v.category = 1) (hd : decode cc pc = .ok (.pop, 1)) (hp : pc + 1 = pc') (kk : sk_S Γ Φ k n f bs lv pc' st) : sk_S Γ Φ k n f bs lv pc (v :: st) := by
  obtain ⟨p, l', e, R, s, m, args, below, meth, c, G', nL', A⟩ := Γ
  obtain ⟨rfl, rfl, rfl, rfl, hx, hb, hml, hown, hts, hK, hlocks, hret⟩ := X
  intro r hf H locs ls hP hD hS hl
  subst hp
  exact lv_pop hx hb hd hv (kk r hf H locs ls hP hD hS hl)
theorem sk_dup2 (X : sk_X Γ l G rm nL own cc ret) {v u : Value} (hv : v.category = 1) (hu : u.category = 1) (hd : decode cc pc = .ok (.dup2, 1)) (hp : pc + 1 = pc') (kk : sk_S Γ Φ k n f bs lv pc' (v :: u :: v :: u :: st)) : sk_S Γ Φ k n f bs lv pc (v :: u :: st) := by
  obtain ⟨p, l', e, R, s, m, args, below, meth, c, G', nL', A⟩ := Γ
  obtain ⟨rfl, rfl, rfl, rfl, hx, hb, hml, hown, hts, hK, hlocks, hret⟩ := X
  intro r hf H locs ls hP hD hS hl
  subst hp
  exact lv_dup2_11 hx hb hd hv hu (kk r hf H locs ls hP hD hS hl)
theorem sk_dup_x1 (X : sk_X Γ l G rm nL own cc ret) {v u : Value} (hv : v.category = 1) (hu : u.category = 1) (hd : decode cc pc = .ok (.dup_x1, 1)) (hp : pc + 1 = pc') (kk : sk_S Γ Φ k n f bs lv pc' (v :: u :: v :: st)) : sk_S Γ Φ k n f bs lv pc (v :: u :: st) := by
  obtain ⟨p, l', e, R, s, m, args, below, meth, c, G', nL', A⟩ := Γ
  obtain ⟨rfl, rfl, rfl, rfl, hx, hb, hml, hown, hts, hK, hlocks, hret⟩ := X
  intro r hf H locs ls hP hD hS hl
  subst hp
  exact lv_dup_x1 hx hb hd hv hu (kk r hf H locs ls hP hD hS hl)
theorem sk_goto (X : sk_X Γ l G rm nL own cc ret) {off : Int} (hd : decode cc pc = .ok (.goto off, 3)) (ht : (pc : Int) + off = (tgt : Int)) (kk : sk_S Γ Φ k n f bs lv tgt st) : sk_S Γ Φ k n f bs lv pc st := by
  obtain ⟨p, l', e, R, s, m, args, below, meth, c, G', nL', A⟩ := Γ
  obtain ⟨rfl, rfl, rfl, rfl, hx, hb, hml, hown, hts, hK, hlocks, hret⟩ := X
  intro r hf H locs ls hP hD hS hl
  exact lv_goto hx hb hd ht (kk r hf H locs ls hP hD hS hl)
theorem sk_icmp_eq (X : sk_X Γ l G rm nL own cc ret) {x y : Int32} {off : Int} (hd : decode cc pc = .ok (.if_icmp .eq off, 3)) (ht : (pc : Int) + off = (tgt : Int)) (hp : pc + 3 = pc') (k1 : sk_S Γ Φ k n f1 bs lv tgt st) (k2 : sk_S Γ Φ k n f2 bs lv pc' st) : sk_S Γ Φ k n (if x = y then f1 else f2) bs lv pc (.int y :: .int x :: st) := by
  obtain ⟨p, l', e, R, s, m, args, below, meth, c, G', nL', A⟩ := Γ
  obtain ⟨rfl, rfl, rfl, rfl, hx, hb, hml, hown, hts, hK, hlocks, hret⟩ := X
  intro r hf H locs ls hP hD hS hl
  subst hp
  refine lv_icmp_eq hx hb hd ht (fun hc => ?_) (fun hc => ?_)
  · rw [if_pos hc] at hf; exact k1 r hf H locs ls hP hD hS hl
  · rw [if_neg hc] at hf; exact k2 r hf H locs ls hP hD hS hl
theorem sk_if_eq (X : sk_X Γ l G rm nL own cc ret) {x : Int32} {off : Int} (hd : decode cc pc = .ok (.ifCond .eq off, 3)) (ht : (pc : Int) + off = (tgt : Int)) (hp : pc + 3 = pc') (k1 : sk_S Γ Φ k n f1 bs lv tgt st) (k2 : sk_S Γ Φ k n f2 bs lv pc' st) : sk_S Γ Φ k n (if x = 0 then f1 else f2) bs lv pc (.int x :: st) := by
  obtain ⟨p, l', e, R, s, m, args, below, meth, c, G', nL', A⟩ := Γ
  obtain ⟨rfl, rfl, rfl, rfl, hx, hb, hml, hown, hts, hK, hlocks, hret⟩ := X
  intro r hf H locs ls hP hD hS hl
  subst hp
  refine lv_if_eq hx hb hd ht (fun hc => ?_) (fun hc => ?_)
  · rw [if_pos hc] at hf; exact k1 r hf H locs ls hP hD hS hl
  · rw [if_neg hc] at hf; exact k2 r hf H locs ls hP hD hS hl
theorem sk_icmp_ne (X : sk_X Γ l G rm nL own cc ret) {x y : Int32} {off : Int} (hd : decode cc pc = .ok (.if_icmp .ne off, 3)) (ht : (pc : Int) + off = (tgt : Int)) (hp : pc + 3 = pc') (k1 : sk_S Γ Φ k n f1 bs lv tgt st) (k2 : sk_S Γ Φ k n f2 bs lv pc' st) : sk_S Γ Φ k n (if x = y then f2 else f1) bs lv pc (.int y :: .int x :: st) := by
  obtain ⟨p, l', e, R, s, m, args, below, meth, c, G', nL', A⟩ := Γ
  obtain ⟨rfl, rfl, rfl, rfl, hx, hb, hml, hown, hts, hK, hlocks, hret⟩ := X
  intro r hf H locs ls hP hD hS hl
  subst hp
  refine lv_icmp_ne hx hb hd ht (fun hc => ?_) (fun hc => ?_)
  · rw [if_neg hc] at hf; exact k1 r hf H locs ls hP hD hS hl
  · rw [if_pos hc] at hf; exact k2 r hf H locs ls hP hD hS hl
theorem sk_if_ne (X : sk_X Γ l G rm nL own cc ret) {x : Int32} {off : Int} (hd : decode cc pc = .ok (.ifCond .ne off, 3)) (ht : (pc : Int) + off = (tgt : Int)) (hp : pc + 3 = pc') (k1 : sk_S Γ Φ k n f1 bs lv tgt st) (k2 : sk_S Γ Φ k n f2 bs lv pc' st) : sk_S Γ Φ k n (if x = 0 then f2 else f1) bs lv pc (.int x :: st) := by
  obtain ⟨p, l', e, R, s, m, args, below, meth, c, G', nL', A⟩ := Γ
  obtain ⟨rfl, rfl, rfl, rfl, hx, hb, hml, hown, hts, hK, hlocks, hret⟩ := X
  intro r hf H locs ls hP hD hS hl
  subst hp
  refine lv_if_ne hx hb hd ht (fun hc => ?_) (fun hc => ?_)
  · rw [if_neg hc] at hf; exact k1 r hf H locs ls hP hD hS hl
  · rw [if_pos hc] at hf; exact k2 r hf H locs ls hP hD hS hl
theorem sk_icmp_lt (X : sk_X Γ l G rm nL own cc ret) {x y : Int32} {off : Int} (hd : decode cc pc = .ok (.if_icmp .lt off, 3)) (ht : (pc : Int) + off = (tgt : Int)) (hp : pc + 3 = pc') (k1 : sk_S Γ Φ k n f1 bs lv tgt st) (k2 : sk_S Γ Φ k n f2 bs lv pc' st) : sk_S Γ Φ k n (if x < y then f1 else f2) bs lv pc (.int y :: .int x :: st) := by
  obtain ⟨p, l', e, R, s, m, args, below, meth, c, G', nL', A⟩ := Γ
  obtain ⟨rfl, rfl, rfl, rfl, hx, hb, hml, hown, hts, hK, hlocks, hret⟩ := X
  intro r hf H locs ls hP hD hS hl
  subst hp
  refine lv_icmp_lt hx hb hd ht (fun hc => ?_) (fun hc => ?_)
  · rw [if_pos hc] at hf; exact k1 r hf H locs ls hP hD hS hl
  · rw [if_neg hc] at hf; exact k2 r hf H locs ls hP hD hS hl
theorem sk_if_lt (X : sk_X Γ l G rm nL own cc ret) {x : Int32} {off : Int} (hd : decode cc pc = .ok (.ifCond .lt off, 3)) (ht : (pc : Int) + off = (tgt : Int)) (hp : pc + 3 = pc') (k1 : sk_S Γ Φ k n f1 bs lv tgt st) (k2 : sk_S Γ Φ k n f2 bs lv pc' st) : sk_S Γ Φ k n (if x < 0 then f1 else f2) bs lv pc (.int x :: st) := by
  obtain ⟨p, l', e, R, s, m, args, below, meth, c, G', nL', A⟩ := Γ
  obtain ⟨rfl, rfl, rfl, rfl, hx, hb, hml, hown, hts, hK, hlocks, hret⟩ := X
  intro r hf H locs ls hP hD hS hl
  subst hp
  refine lv_if_lt hx hb hd ht (fun hc => ?_) (fun hc => ?_)
  · rw [if_pos hc] at hf; exact k1 r hf H locs ls hP hD hS hl
  · rw [if_neg hc] at hf; exact k2 r hf H locs ls hP hD hS hl
theorem sk_icmp_ge (X : sk_X Γ l G rm nL own cc ret) {x y : Int32} {off : Int} (hd : decode cc pc = .ok (.if_icmp .ge off, 3)) (ht : (pc : Int) + off = (tgt : Int)) (hp : pc + 3 = pc') (k1 : sk_S Γ Φ k n f1 bs lv tgt st) (k2 : sk_S Γ Φ k n f2 bs lv pc' st) : sk_S Γ Φ k n (if y ≤ x then f1 else f2) bs lv pc (.int y :: .int x :: st) := by
  obtain ⟨p, l', e, R, s, m, args, below, meth, c, G', nL', A⟩ := Γ
  obtain ⟨rfl, rfl, rfl, rfl, hx, hb, hml, hown, hts, hK, hlocks, hret⟩ := X
  intro r hf H locs ls hP hD hS hl
  subst hp
  refine lv_icmp_ge hx hb hd ht (fun hc => ?_) (fun hc => ?_)
  · rw [if_pos hc] at hf; exact k1 r hf H locs ls hP hD hS hl
  · rw [if_neg hc] at hf; exact k2 r hf H locs ls hP hD hS hl
theorem sk_if_ge (X : sk_X Γ l G rm nL own cc ret) {x : Int32} {off : Int} (hd : decode cc pc = .ok (.ifCond .ge off, 3)) (ht : (pc : Int) + off = (tgt : Int)) (hp : pc + 3 = pc') (k1 : sk_S Γ Φ k n f1 bs lv tgt st) (k2 : sk_S Γ Φ k n f2 bs lv pc' st) : sk_S Γ Φ k n (if 0 ≤ x then f1 else f2) bs lv pc (.int x :: st) := by
  obtain ⟨p, l', e, R, s, m, args, below, meth, c, G', nL', A⟩ := Γ
  obtain ⟨rfl, rfl, rfl, rfl, hx, hb, hml, hown, hts, hK, hlocks, hret⟩ := X
  intro r hf H locs ls hP hD hS hl
  subst hp
  refine lv_if_ge hx hb hd ht (fun hc => ?_) (fun hc => ?_)
  · rw [if_pos hc] at hf; exact k1 r hf H locs ls hP hD hS hl
  · rw [if_neg hc] at hf; exact k2 r hf H locs ls hP hD hS hl
theorem sk_icmp_gt (X : sk_X Γ l G rm nL own cc ret) {x y : Int32} {off : Int} (hd : decode cc pc = .ok (.if_icmp .gt off, 3)) (ht : (pc : Int) + off = (tgt : Int)) (hp : pc + 3 = pc') (k1 : sk_S Γ Φ k n f1 bs lv tgt st) (k2 : sk_S Γ Φ k n f2 bs lv pc' st) : sk_S Γ Φ k n (if y < x then f1 else f2) bs lv pc (.int y :: .int x :: st) := by
  obtain ⟨p, l', e, R, s, m, args, below, meth, c, G', nL', A⟩ := Γ
  obtain ⟨rfl, rfl, rfl, rfl, hx, hb, hml, hown, hts, hK, hlocks, hret⟩ := X
  intro r hf H locs ls hP hD hS hl
  subst hp
  refine lv_icmp_gt hx hb hd ht (fun hc => ?_) (fun hc => ?_)
  · rw [if_pos hc] at hf; exact k1 r hf H locs ls hP hD hS hl
  · rw [if_neg hc] at hf; exact k2 r hf H locs ls hP hD hS hl
theorem sk_if_gt (X : sk_X Γ l G rm nL own cc ret) {x : Int32} {off : Int} (hd : decode cc pc = .ok (.ifCond .gt off, 3)) (ht : (pc : Int) + off = (tgt : Int)) (hp : pc + 3 = pc') (k1 : sk_S Γ Φ k n f1 bs lv tgt st) (k2 : sk_S Γ Φ k n f2 bs lv pc' st) : sk_S Γ Φ k n (if 0 < x then f1 else f2) bs lv pc (.int x :: st) := by
  obtain ⟨p, l', e, R, s, m, args, below, meth, c, G', nL', A⟩ := Γ
  obtain ⟨rfl, rfl, rfl, rfl, hx, hb, hml, hown, hts, hK, hlocks, hret⟩ := X
  intro r hf H locs ls hP hD hS hl
  subst hp
  refine lv_if_gt hx hb hd ht (fun hc => ?_) (fun hc => ?_)
  · rw [if_pos hc] at hf; exact k1 r hf H locs ls hP hD hS hl
  · rw [if_neg hc] at hf; exact k2 r hf H locs ls hP hD hS hl
theorem sk_icmp_le (X : sk_X Γ l G rm nL own cc ret) {x y : Int32} {off : Int} (hd : decode cc pc = .ok (.if_icmp .le off, 3)) (ht : (pc : Int) + off = (tgt : Int)) (hp : pc + 3 = pc') (k1 : sk_S Γ Φ k n f1 bs lv tgt st) (k2 : sk_S Γ Φ k n f2 bs lv pc' st) : sk_S Γ Φ k n (if x ≤ y then f1 else f2) bs lv pc (.int y :: .int x :: st) := by
  obtain ⟨p, l', e, R, s, m, args, below, meth, c, G', nL', A⟩ := Γ
  obtain ⟨rfl, rfl, rfl, rfl, hx, hb, hml, hown, hts, hK, hlocks, hret⟩ := X
  intro r hf H locs ls hP hD hS hl
  subst hp
  refine lv_icmp_le hx hb hd ht (fun hc => ?_) (fun hc => ?_)
  · rw [if_pos hc] at hf; exact k1 r hf H locs ls hP hD hS hl
  · rw [if_neg hc] at hf; exact k2 r hf H locs ls hP hD hS hl
theorem sk_if_le (X : sk_X Γ l G rm nL own cc ret) {x : Int32} {off : Int} (hd : decode cc pc = .ok (.ifCond .le off, 3)) (ht : (pc : Int) + off = (tgt : Int)) (hp : pc + 3 = pc') (k1 : sk_S Γ Φ k n f1 bs lv tgt st) (k2 : sk_S Γ Φ k n f2 bs lv pc' st) : sk_S Γ Φ k n (if x ≤ 0 then f1 else f2) bs lv pc (.int x :: st) := by
  obtain ⟨p, l', e, R, s, m, args, below, meth, c, G', nL', A⟩ := Γ
  obtain ⟨rfl, rfl, rfl, rfl, hx, hb, hml, hown, hts, hK, hlocks, hret⟩ := X
  intro r hf H locs ls hP hD hS hl
  subst hp
  refine lv_if_le hx hb hd ht (fun hc => ?_) (fun hc => ?_)
  · rw [if_pos hc] at hf; exact k1 r hf H locs ls hP hD hS hl
  · rw [if_neg hc] at hf; exact k2 r hf H locs ls hP hD hS hl
theorem sk_iald (X : sk_X Γ l G rm nL own cc ret) (i j : Nat) {w : va_W} {a N : Nat} {g : Nat → Int32} {x : Int32} (hw : bs[i]? = some w) (ha : w[j]? = some (a, .inl (G.2 0, N, .inl g))) (hd : decode cc pc = .ok (.iaload, 1)) (hp : pc + 1 = pc') (kk : sk_S Γ Φ k n f bs lv pc' (.int (g x.toNatClampNeg) :: st)) : sk_S Γ Φ k n (if sk_in x N then f else none) bs lv pc (.int x :: .ref a :: st) := by
  obtain ⟨p, l', e, R, s, m, args, below, meth, c, G', nL', A⟩ := Γ
  obtain ⟨rfl, rfl, rfl, rfl, hx, hb, hml, hown, hts, hK, hlocks, hret⟩ := X
  intro r hf H locs ls hP hD hS hl
  subst hp
  by_cases hy : sk_in x N = true
  · rw [if_pos hy] at hf
    obtain ⟨n0, h0, -⟩ := sk_flat hw ha
    exact va_iald hx hb hK hP n0 0 h0 rfl (sk_in_iff.mp hy) hd (kk r hf H locs ls hP hD hS hl)
  · rw [if_neg hy] at hf; cases hf
theorem sk_bald (X : sk_X Γ l G rm nL own cc ret) (i j : Nat) {w : va_W} {a N : Nat} {g : Nat → Int32} {x : Int32} (hw : bs[i]? = some w) (ha : w[j]? = some (a, .inl (G.2 2, N, .inl g))) (hd : decode cc pc = .ok (.baload, 1)) (hp : pc + 1 = pc') (kk : sk_S Γ Φ k n f bs lv pc' (.int (g x.toNatClampNeg) :: st)) : sk_S Γ Φ k n (if sk_in x N then f else none) bs lv pc (.int x :: .ref a :: st) := by
  obtain ⟨p, l', e, R, s, m, args, below, meth, c, G', nL', A⟩ := Γ
  obtain ⟨rfl, rfl, rfl, rfl, hx, hb, hml, hown, hts, hK, hlocks, hret⟩ := X
  intro r hf H locs ls hP hD hS hl
  subst hp
  by_cases hy : sk_in x N = true
  · rw [if_pos hy] at hf
    obtain ⟨n0, h0, -⟩ := sk_flat hw ha
    exact va_bald hx hb hK hP n0 2 h0 rfl (sk_in_iff.mp hy) hd (kk r hf H locs ls hP hD hS hl)
  · rw [if_neg hy] at hf; cases hf
theorem sk_lald (X : sk_X Γ l G rm nL own cc ret) (i j : Nat) {w : va_W} {a N : Nat} {g : Nat → Int64} {x : Int32} (hw : bs[i]? = some w) (ha : w[j]? = some (a, .inl (G.2 1, N, .inr (.inl g)))) (hd : decode cc pc = .ok (.laload, 1)) (hp : pc + 1 = pc') (kk : sk_S Γ Φ k n f bs lv pc' (.long (g x.toNatClampNeg) :: st)) : sk_S Γ Φ k n (if sk_in x N then f else none) bs lv pc (.int x :: .ref a :: st) := by
  obtain ⟨p, l', e, R, s, m, args, below, meth, c, G', nL', A⟩ := Γ
  obtain ⟨rfl, rfl, rfl, rfl, hx, hb, hml, hown, hts, hK, hlocks, hret⟩ := X
  intro r hf H locs ls hP hD hS hl
  subst hp
  by_cases hy : sk_in x N = true
  · rw [if_pos hy] at hf
    obtain ⟨n0, h0, -⟩ := sk_flat hw ha
    exact va_lald hx hb hK hP n0 1 h0 rfl (sk_in_iff.mp hy) hd (kk r hf H locs ls hP hD hS hl)
  · rw [if_neg hy] at hf; cases hf
theorem sk_iast (X : sk_X Γ l G rm nL own cc ret) (i j : Nat) {w : va_W} {a N : Nat} {g : Nat → Int32} {x : Int32} {v : Int32} {bs' : sk_B} (hw : bs[i]? = some w) (ha : w[j]? = some (a, .inl (G.2 0, N, .inl g))) (hbs : bs.set i (w.set j (a, .inl (G.2 0, N, .inl (upd g x.toNatClampNeg v)))) = bs') (hd : decode cc pc = .ok (.iastore, 1)) (hp : pc + 1 = pc') (kk : sk_S Γ Φ k n f bs' lv pc' st) : sk_S Γ Φ k n (if sk_in x N then f else none) bs lv pc (.int v :: .int x :: .ref a :: st) := by
  obtain ⟨p, l', e, R, s, m, args, below, meth, c, G', nL', A⟩ := Γ
  obtain ⟨rfl, rfl, rfl, rfl, hx, hb, hml, hown, hts, hK, hlocks, hret⟩ := X
  intro r hf H locs ls hP hD hS hl
  subst hp; subst hbs
  by_cases hy : sk_in x N = true
  · rw [if_pos hy] at hf
    obtain ⟨n0, h0, h1⟩ := sk_flat hw ha
    refine va_iast hx hb hK hP hD hS n0 0 h0 rfl (sk_in_iff.mp hy) hd (fun H1 locs1 hP1 hD1 hS1 => ?_)
    rw [h1] at hP1 hD1
    exact kk r hf H1 locs1 ls hP1 hD1 hS1 hl
  · rw [if_neg hy] at hf; cases hf
theorem sk_bast (X : sk_X Γ l G rm nL own cc ret) (i j : Nat) {w : va_W} {a N : Nat} {g : Nat → Int32} {x : Int32} {v : Int32} {bs' : sk_B} (hw : bs[i]? = some w) (ha : w[j]? = some (a, .inl (G.2 2, N, .inl g))) (hbs : bs.set i (w.set j (a, .inl (G.2 2, N, .inl (upd g x.toNatClampNeg (vp_nar .byte v))))) = bs') (hd : decode cc pc = .ok (.bastore, 1)) (hp : pc + 1 = pc') (kk : sk_S Γ Φ k n f bs' lv pc' st) : sk_S Γ Φ k n (if sk_in x N then f else none) bs lv pc (.int v :: .int x :: .ref a :: st) := by
  obtain ⟨p, l', e, R, s, m, args, below, meth, c, G', nL', A⟩ := Γ
  obtain ⟨rfl, rfl, rfl, rfl, hx, hb, hml, hown, hts, hK, hlocks, hret⟩ := X
  intro r hf H locs ls hP hD hS hl
  subst hp; subst hbs
  by_cases hy : sk_in x N = true
  · rw [if_pos hy] at hf
    obtain ⟨n0, h0, h1⟩ := sk_flat hw ha
    refine va_bast hx hb hK hP hD hS n0 2 h0 rfl (sk_in_iff.mp hy) hd (fun H1 locs1 hP1 hD1 hS1 => ?_)
    rw [h1] at hP1 hD1
    exact kk r hf H1 locs1 ls hP1 hD1 hS1 hl
  · rw [if_neg hy] at hf; cases hf
theorem sk_last (X : sk_X Γ l G rm nL own cc ret) (i j : Nat) {w : va_W} {a N : Nat} {g : Nat → Int64} {x : Int32} {v : Int64} {bs' : sk_B} (hw : bs[i]? = some w) (ha : w[j]? = some (a, .inl (G.2 1, N, .inr (.inl g)))) (hbs : bs.set i (w.set j (a, .inl (G.2 1, N, .inr (.inl (vp_updL g x.toNatClampNeg v))))) = bs') (hd : decode cc pc = .ok (.lastore, 1)) (hp : pc + 1 = pc') (kk : sk_S Γ Φ k n f bs' lv pc' st) : sk_S Γ Φ k n (if sk_in x N then f else none) bs lv pc (.long v :: .int x :: .ref a :: st) := by
  obtain ⟨p, l', e, R, s, m, args, below, meth, c, G', nL', A⟩ := Γ
  obtain ⟨rfl, rfl, rfl, rfl, hx, hb, hml, hown, hts, hK, hlocks, hret⟩ := X
  intro r hf H locs ls hP hD hS hl
  subst hp; subst hbs
  by_cases hy : sk_in x N = true
  · rw [if_pos hy] at hf
    obtain ⟨n0, h0, h1⟩ := sk_flat hw ha
    refine va_last hx hb hK hP hD hS n0 1 h0 rfl (sk_in_iff.mp hy) hd (fun H1 locs1 hP1 hD1 hS1 => ?_)
    rw [h1] at hP1 hD1
    exact kk r hf H1 locs1 ls hP1 hD1 hS1 hl
  · rw [if_neg hy] at hf; cases hf
theorem sk_alen (X : sk_X Γ l G rm nL own cc ret) (i j t0 : Nat) {w : va_W} {a : Nat} {cA : ClassId} {x : vp_A} {ty : FieldType} {v : Int32} (hw : bs[i]? = some w) (ha : w[j]? = some (a, .inl (cA, x))) (ht : (sk_T G)[t0]? = some (cA, ty)) (hv : Int32.ofNat x.1 = v) (hd : decode cc pc = .ok (.arraylength, 1)) (hp : pc + 1 = pc') (kk : sk_S Γ Φ k n f bs lv pc' (.int v :: st)) : sk_S Γ Φ k n f bs lv pc (.ref a :: st) := by
  obtain ⟨p, l', e, R, s, m, args, below, meth, c, G', nL', A⟩ := Γ
  obtain ⟨rfl, rfl, rfl, rfl, hx, hb, hml, hown, hts, hK, hlocks, hret⟩ := X
  intro r hf H locs ls hP hD hS hl
  subst hp
  obtain ⟨n0, h0, -⟩ := sk_flat hw ha
  exact va_alen hx hb hK hP n0 t0 h0 ht hv hd (kk r hf H locs ls hP hD hS hl)
theorem sk_getf (X : sk_X Γ l G rm nL own cc ret) (i j q : Nat) {C : String} {T : u_T} {N ci ix : Nat} {w : va_W} {a : Nat} {fs : List Value} {v : Value} (hin : ∀ w ∈ u_ws C T N, w ∈ lw_g) (hw : bs[i]? = some w) (ha : w[j]? = some (a, .inr (ci, fs))) (hc : sk_C[ci]? = some (C, T, N)) (hq : q < N) (hlink : Cond.fieldLink own ix (T q).1 (T q).2.1 (T q).2.2.1 ∈ lw_g) (hv : fs[q]? = some v) (hd : decode cc pc = .ok (.getfield ix, 3)) (hp : pc + 3 = pc') (kk : sk_S Γ Φ k n f bs lv pc' (v :: st)) : sk_S Γ Φ k n f bs lv pc (.ref a :: st) := by
  obtain ⟨p, l', e, R, s, m, args, below, meth, c, G', nL', A⟩ := Γ
  obtain ⟨rfl, rfl, rfl, rfl, hx, hb, hml, hown, hts, hK, hlocks, hret⟩ := X
  intro r hf H locs ls hP hD hS hl
  subst hp
  obtain ⟨n0, h0, -⟩ := sk_flat hw ha
  exact va_get hx hb hts hin hown hK hP n0 h0 hc q hq (hts _ hlink) (fun _ h9 => h9) hv hd (kk r hf H locs ls hP hD hS hl)
theorem sk_putf (X : sk_X Γ l G rm nL own cc ret) (i j q : Nat) {C : String} {T : u_T} {N ci ix : Nat} {w : va_W} {a : Nat} {fs : List Value} {v : Value} {ty : FieldType} {bs' : sk_B} (hin : ∀ w ∈ u_ws C T N, w ∈ lw_g) (ty0 : Nat → FieldType) (hty : ∀ k, k < N → parseFieldDescriptor (T k).2.2.1 = some (ty0 k)) (hnm : ∀ a, a < N → ∀ b, b < N → a ≠ b → (T a).2.1 ≠ (T b).2.1) (hw : bs[i]? = some w) (ha : w[j]? = some (a, .inr (ci, fs))) (hc : sk_C[ci]? = some (C, T, N)) (hq : q < N) (hlink : Cond.fieldLink own ix (T q).1 (T q).2.1 (T q).2.2.1 ∈ lw_g) (hfin : (T q).2.2.2 = false) (hpd : parseFieldDescriptor (T q).2.2.1 = some ty) (hn : narrow ty v = v) (hfit : fits ty v = true) (hl0 : q < fs.length) (hbs : bs.set i (w.set j (a, .inr (ci, fs.set q v))) = bs') (hd : decode cc pc = .ok (.putfield ix, 3)) (hp : pc + 3 = pc') (kk : sk_S Γ Φ k n f bs' lv pc' st) : sk_S Γ Φ k n f bs lv pc (v :: .ref a :: st) := by
  obtain ⟨p, l', e, R, s, m, args, below, meth, c, G', nL', A⟩ := Γ
  obtain ⟨rfl, rfl, rfl, rfl, hx, hb, hml, hown, hts, hK, hlocks, hret⟩ := X
  intro r hf H locs ls hP hD hS hl
  subst hp; subst hbs
  obtain ⟨n0, h0, h1⟩ := sk_flat hw ha
  refine va_put hx hb hts hin ty0 hty hnm hown hK hP hD hS n0 h0 hc q hq (hts _ hlink) (fun _ h9 => h9) hfin hpd hn hfit hl0 hd (fun H1 locs1 hP1 hD1 hS1 => ?_)
  rw [h1] at hP1 hD1
  exact kk r hf H1 locs1 ls hP1 hD1 hS1 hl
theorem sk_loop {σ : Type} {step : (σ → Option ρ) → σ → Option ρ} {bsf : σ → sk_B} {lvf : σ → List (Option Value)} (hstep : ∀ (k' : σ → Option ρ) (s' : σ), (∀ s2, sk_S Γ Φ k n (k' s2) (bsf s2) (lvf s2) pc st) → sk_S Γ Φ k n (step k' s') (bsf s') (lvf s') pc st) : ∀ (fuel : Nat) (s0 : σ), sk_S Γ Φ k n (sk_lp step fuel s0) (bsf s0) (lvf s0) pc st
  | 0, s0 => by
    obtain ⟨p, l', e, R, s, m, args, below, meth, c, G', nL', A⟩ := Γ
    intro r hf
    cases hf
  | fuel + 1, s0 => hstep (sk_lp step fuel) s0 (sk_loop hstep fuel)
theorem sk_none : sk_S Γ Φ k n none bs lv pc st := by
  obtain ⟨p, l', e, R, s, m, args, below, meth, c, G', nL', A⟩ := Γ
  intro r hf
  cases hf
theorem sk_eq {g : Option ρ} (h : f = g) (kk : sk_S Γ Φ k n g bs lv pc st) : sk_S Γ Φ k n f bs lv pc st := h ▸ kk
theorem sk_eqS {bs' : sk_B} {lv' : List (Option Value)} {st' : List Value} (h1 : bs = bs') (h2 : lv = lv') (h3 : st = st') (kk : sk_S Γ Φ k n f bs' lv' pc st') : sk_S Γ Φ k n f bs lv pc st := by
  subst h1; subst h2; subst h3; exact kk
/-- a case by a number's being one or not (switches) -/
theorem sk_ite {c : Prop} [Decidable c] (k1 : c → sk_S Γ Φ k n f1 bs lv pc st) (k2 : ¬ c → sk_S Γ Φ k n f2 bs lv pc st) : sk_S Γ Φ k n (if c then f1 else f2) bs lv pc st := by
  by_cases h : c
  · rw [if_pos h]; exact k1 h
  · rw [if_neg h]; exact k2 h
theorem sk_lookup (X : sk_X Γ l G rm nL own cc ret) {dflt : Int} {ps : Array (Int × Int)} {len : Nat} {x : Int32} {off : Int} (hd : decode cc pc = .ok (.lookupswitch dflt ps, len)) (hp : (ps.toList.zip (ps.toList.drop 1)).all (fun (a, next) => a.1 < next.1) = true) (ho : Op.lookupswitch.offset ps.toList dflt x.toInt = off) (ht : (pc : Int) + off = (tgt : Int)) (kk : sk_S Γ Φ k n f bs lv tgt st) : sk_S Γ Φ k n f bs lv pc (.int x :: st) := by
  obtain ⟨p, l', e, R, s, m, args, below, meth, c, G', nL', A⟩ := Γ
  obtain ⟨rfl, rfl, rfl, rfl, hx, hb, hml, hown, hts, hK, hlocks, hret⟩ := X
  intro r hf H locs ls hP hD hS hl
  exact lv_lookup hx hb hd hp ho ht (kk r hf H locs ls hP hD hS hl)
theorem sk_tableOut (X : sk_X Γ l G rm nL own cc ret) {dflt lo hi : Int} {offs : Array Int} {len : Nat} {x : Int32} (hd : decode cc pc = .ok (.tableswitch dflt lo hi offs, len)) (h : x.toInt < lo ∨ hi < x.toInt) (ht : (pc : Int) + dflt = (tgt : Int)) (kk : sk_S Γ Φ k n f bs lv tgt st) : sk_S Γ Φ k n f bs lv pc (.int x :: st) := by
  obtain ⟨p, l', e, R, s, m, args, below, meth, c, G', nL', A⟩ := Γ
  obtain ⟨rfl, rfl, rfl, rfl, hx, hb, hml, hown, hts, hK, hlocks, hret⟩ := X
  intro r hf H locs ls hP hD hS hl
  exact lv_tableOut hx hb hd h ht (kk r hf H locs ls hP hD hS hl)
theorem sk_tableIn (X : sk_X Γ l G rm nL own cc ret) {dflt lo hi : Int} {offs : Array Int} {len : Nat} {x : Int32} {off : Int} (hd : decode cc pc = .ok (.tableswitch dflt lo hi offs, len)) (h1 : ¬ x.toInt < lo) (h2 : ¬ hi < x.toInt) (ho : offs[(x.toInt - lo).toNat]? = some off) (ht : (pc : Int) + off = (tgt : Int)) (kk : sk_S Γ Φ k n f bs lv tgt st) : sk_S Γ Φ k n f bs lv pc (.int x :: st) := by
  obtain ⟨p, l', e, R, s, m, args, below, meth, c, G', nL', A⟩ := Γ
  obtain ⟨rfl, rfl, rfl, rfl, hx, hb, hml, hown, hts, hK, hlocks, hret⟩ := X
  intro r hf H locs ls hP hD hS hl
  exact lv_tableIn hx hb hd h1 h2 ho ht (kk r hf H locs ls hP hD hS hl)
end SK2
