abbrev sk_N : Type := Nat → Nat → Int32
abbrev sk_M : Type := sk_N × Int64
def sk_up (N : sk_N) (j k : Nat) (v : Int32) : sk_N := va_up N j (upd (N j) k v)
def md_up (M : sk_M) (j k : Nat) (v : Int32) : sk_M := (sk_up M.1 j k v, M.2)
def md_upl (M : sk_M) (v : Int64) : sk_M := (M.1, v)
def sk_fuel : Nat := 2000
def sk_let {α ρ : Type} (a : α) (F : α → Option ρ) : Option ρ := F a
theorem sk_lt {α ρ : Type} {Γ : sk_K} {Φ : ρ → State → Prop} {k n : Nat} {pc : Nat} {a : α} {F : α → Option ρ} {bsf : α → sk_B} {lvf : α → List (Option Value)} {stf : α → List Value} (kk : ∀ x, sk_S Γ Φ k n (F x) (bsf x) (lvf x) pc (stf x)) : sk_S Γ Φ k n (sk_let a F) (bsf a) (lvf a) pc (stf a) := kk a
theorem sk_st {bs bs' : sk_B} {w w' : va_W} (i : Nat) (h : w = w') (h2 : bs.set i w' = bs') : bs.set i w = bs' := h ▸ h2
def lg_W (G : sk_G) (u : Nat → Nat) (S : sk_N) : va_W := [(u 0, .inr (0, [.ref (u 1), .ref (u 2), .int (S 0 2), .int (S 0 3)])), (u 1, .inl (G.2 0, 60, .inl (S 1))), (u 2, .inl (G.2 0, 60, .inl (S 2)))]
theorem lg_st_1 (G : sk_G) (u : Nat → Nat) (S : sk_N) (k : Nat) (v : Int32) : (lg_W G u S).set 1 (u 1, .inl (G.2 0, 60, .inl (upd (S 1) k v))) = lg_W G u (sk_up S 1 k v) := rfl
theorem lg_cp_1 (G : sk_G) (u : Nat → Nat) (S : sk_N) (f : Nat → Int32) : (lg_W G u S).set 1 (u 1, .inl (G.2 0, 60, .inl f)) = lg_W G u (va_up S 1 f) := rfl
theorem lg_st_2 (G : sk_G) (u : Nat → Nat) (S : sk_N) (k : Nat) (v : Int32) : (lg_W G u S).set 2 (u 2, .inl (G.2 0, 60, .inl (upd (S 2) k v))) = lg_W G u (sk_up S 2 k v) := rfl
theorem lg_cp_2 (G : sk_G) (u : Nat → Nat) (S : sk_N) (f : Nat → Int32) : (lg_W G u S).set 2 (u 2, .inl (G.2 0, 60, .inl f)) = lg_W G u (va_up S 2 f) := rfl
theorem lg_pf_2 (G : sk_G) (u : Nat → Nat) (S : sk_N) (v : Int32) : (lg_W G u S).set 0 (u 0, .inr (0, ([.ref (u 1), .ref (u 2), .int (S 0 2), .int (S 0 3)] : List Value).set 2 (.int v))) = lg_W G u (sk_up S 0 2 v) := rfl
theorem lg_pf_3 (G : sk_G) (u : Nat → Nat) (S : sk_N) (v : Int32) : (lg_W G u S).set 0 (u 0, .inr (0, ([.ref (u 1), .ref (u 2), .int (S 0 2), .int (S 0 3)] : List Value).set 3 (.int v))) = lg_W G u (sk_up S 0 3 v) := rfl
def nt_W (G : sk_G) (u : Nat → Nat) (a_log : Nat) (S : sk_N) : va_W := [(u 0, .inr (1, [.int (S 0 0), .int (S 0 1), .ref (u 1), .int (S 0 3), .int (S 0 4), .ref a_log, .ref (u 2), .ref (u 3), .ref (u 4), .ref (u 5), .ref (u 6), .ref (u 7), .ref (u 8), .int (S 0 13)])), (u 1, .inl (G.2 0, 3, .inl (S 1))), (u 2, .inl (G.2 0, 10, .inl (S 2))), (u 3, .inl (G.2 0, 10, .inl (S 3))), (u 4, .inl (G.2 0, 10, .inl (S 4))), (u 5, .inl (G.2 0, 10, .inl (S 5))), (u 6, .inl (G.2 0, 100, .inl (S 6))), (u 7, .inl (G.2 0, 160, .inl (S 7))), (u 8, .inl (G.2 0, 10, .inl (S 8)))]
theorem nt_st_1 (G : sk_G) (u : Nat → Nat) (a_log : Nat) (S : sk_N) (k : Nat) (v : Int32) : (nt_W G u a_log S).set 1 (u 1, .inl (G.2 0, 3, .inl (upd (S 1) k v))) = nt_W G u a_log (sk_up S 1 k v) := rfl
theorem nt_cp_1 (G : sk_G) (u : Nat → Nat) (a_log : Nat) (S : sk_N) (f : Nat → Int32) : (nt_W G u a_log S).set 1 (u 1, .inl (G.2 0, 3, .inl f)) = nt_W G u a_log (va_up S 1 f) := rfl
theorem nt_st_2 (G : sk_G) (u : Nat → Nat) (a_log : Nat) (S : sk_N) (k : Nat) (v : Int32) : (nt_W G u a_log S).set 2 (u 2, .inl (G.2 0, 10, .inl (upd (S 2) k v))) = nt_W G u a_log (sk_up S 2 k v) := rfl
theorem nt_cp_2 (G : sk_G) (u : Nat → Nat) (a_log : Nat) (S : sk_N) (f : Nat → Int32) : (nt_W G u a_log S).set 2 (u 2, .inl (G.2 0, 10, .inl f)) = nt_W G u a_log (va_up S 2 f) := rfl
theorem nt_st_3 (G : sk_G) (u : Nat → Nat) (a_log : Nat) (S : sk_N) (k : Nat) (v : Int32) : (nt_W G u a_log S).set 3 (u 3, .inl (G.2 0, 10, .inl (upd (S 3) k v))) = nt_W G u a_log (sk_up S 3 k v) := rfl
theorem nt_cp_3 (G : sk_G) (u : Nat → Nat) (a_log : Nat) (S : sk_N) (f : Nat → Int32) : (nt_W G u a_log S).set 3 (u 3, .inl (G.2 0, 10, .inl f)) = nt_W G u a_log (va_up S 3 f) := rfl
theorem nt_st_4 (G : sk_G) (u : Nat → Nat) (a_log : Nat) (S : sk_N) (k : Nat) (v : Int32) : (nt_W G u a_log S).set 4 (u 4, .inl (G.2 0, 10, .inl (upd (S 4) k v))) = nt_W G u a_log (sk_up S 4 k v) := rfl
theorem nt_cp_4 (G : sk_G) (u : Nat → Nat) (a_log : Nat) (S : sk_N) (f : Nat → Int32) : (nt_W G u a_log S).set 4 (u 4, .inl (G.2 0, 10, .inl f)) = nt_W G u a_log (va_up S 4 f) := rfl
theorem nt_st_5 (G : sk_G) (u : Nat → Nat) (a_log : Nat) (S : sk_N) (k : Nat) (v : Int32) : (nt_W G u a_log S).set 5 (u 5, .inl (G.2 0, 10, .inl (upd (S 5) k v))) = nt_W G u a_log (sk_up S 5 k v) := rfl
theorem nt_cp_5 (G : sk_G) (u : Nat → Nat) (a_log : Nat) (S : sk_N) (f : Nat → Int32) : (nt_W G u a_log S).set 5 (u 5, .inl (G.2 0, 10, .inl f)) = nt_W G u a_log (va_up S 5 f) := rfl
theorem nt_st_6 (G : sk_G) (u : Nat → Nat) (a_log : Nat) (S : sk_N) (k : Nat) (v : Int32) : (nt_W G u a_log S).set 6 (u 6, .inl (G.2 0, 100, .inl (upd (S 6) k v))) = nt_W G u a_log (sk_up S 6 k v) := rfl
theorem nt_cp_6 (G : sk_G) (u : Nat → Nat) (a_log : Nat) (S : sk_N) (f : Nat → Int32) : (nt_W G u a_log S).set 6 (u 6, .inl (G.2 0, 100, .inl f)) = nt_W G u a_log (va_up S 6 f) := rfl
theorem nt_st_7 (G : sk_G) (u : Nat → Nat) (a_log : Nat) (S : sk_N) (k : Nat) (v : Int32) : (nt_W G u a_log S).set 7 (u 7, .inl (G.2 0, 160, .inl (upd (S 7) k v))) = nt_W G u a_log (sk_up S 7 k v) := rfl
theorem nt_cp_7 (G : sk_G) (u : Nat → Nat) (a_log : Nat) (S : sk_N) (f : Nat → Int32) : (nt_W G u a_log S).set 7 (u 7, .inl (G.2 0, 160, .inl f)) = nt_W G u a_log (va_up S 7 f) := rfl
theorem nt_st_8 (G : sk_G) (u : Nat → Nat) (a_log : Nat) (S : sk_N) (k : Nat) (v : Int32) : (nt_W G u a_log S).set 8 (u 8, .inl (G.2 0, 10, .inl (upd (S 8) k v))) = nt_W G u a_log (sk_up S 8 k v) := rfl
theorem nt_cp_8 (G : sk_G) (u : Nat → Nat) (a_log : Nat) (S : sk_N) (f : Nat → Int32) : (nt_W G u a_log S).set 8 (u 8, .inl (G.2 0, 10, .inl f)) = nt_W G u a_log (va_up S 8 f) := rfl
theorem nt_pf_0 (G : sk_G) (u : Nat → Nat) (a_log : Nat) (S : sk_N) (v : Int32) : (nt_W G u a_log S).set 0 (u 0, .inr (1, ([.int (S 0 0), .int (S 0 1), .ref (u 1), .int (S 0 3), .int (S 0 4), .ref a_log, .ref (u 2), .ref (u 3), .ref (u 4), .ref (u 5), .ref (u 6), .ref (u 7), .ref (u 8), .int (S 0 13)] : List Value).set 0 (.int v))) = nt_W G u a_log (sk_up S 0 0 v) := rfl
theorem nt_pf_1 (G : sk_G) (u : Nat → Nat) (a_log : Nat) (S : sk_N) (v : Int32) : (nt_W G u a_log S).set 0 (u 0, .inr (1, ([.int (S 0 0), .int (S 0 1), .ref (u 1), .int (S 0 3), .int (S 0 4), .ref a_log, .ref (u 2), .ref (u 3), .ref (u 4), .ref (u 5), .ref (u 6), .ref (u 7), .ref (u 8), .int (S 0 13)] : List Value).set 1 (.int v))) = nt_W G u a_log (sk_up S 0 1 v) := rfl
theorem nt_pf_3 (G : sk_G) (u : Nat → Nat) (a_log : Nat) (S : sk_N) (v : Int32) : (nt_W G u a_log S).set 0 (u 0, .inr (1, ([.int (S 0 0), .int (S 0 1), .ref (u 1), .int (S 0 3), .int (S 0 4), .ref a_log, .ref (u 2), .ref (u 3), .ref (u 4), .ref (u 5), .ref (u 6), .ref (u 7), .ref (u 8), .int (S 0 13)] : List Value).set 3 (.int v))) = nt_W G u a_log (sk_up S 0 3 v) := rfl
theorem nt_pf_4 (G : sk_G) (u : Nat → Nat) (a_log : Nat) (S : sk_N) (v : Int32) : (nt_W G u a_log S).set 0 (u 0, .inr (1, ([.int (S 0 0), .int (S 0 1), .ref (u 1), .int (S 0 3), .int (S 0 4), .ref a_log, .ref (u 2), .ref (u 3), .ref (u 4), .ref (u 5), .ref (u 6), .ref (u 7), .ref (u 8), .int (S 0 13)] : List Value).set 4 (.int v))) = nt_W G u a_log (sk_up S 0 4 v) := rfl
theorem nt_pf_13 (G : sk_G) (u : Nat → Nat) (a_log : Nat) (S : sk_N) (v : Int32) : (nt_W G u a_log S).set 0 (u 0, .inr (1, ([.int (S 0 0), .int (S 0 1), .ref (u 1), .int (S 0 3), .int (S 0 4), .ref a_log, .ref (u 2), .ref (u 3), .ref (u 4), .ref (u 5), .ref (u 6), .ref (u 7), .ref (u 8), .int (S 0 13)] : List Value).set 13 (.int v))) = nt_W G u a_log (sk_up S 0 13 v) := rfl
def sc_W (G : sk_G) (u : Nat → Nat) (S : sk_N) : va_W := [(u 0, .inr (3, [.int (S 0 0), .int (S 0 1), .int (S 0 2), .ref (u 1), .ref (u 2), .ref (u 3)])), (u 1, .inl (G.2 2, 100, .inl (S 1))), (u 2, .inl (G.2 0, 34, .inl (S 2))), (u 3, .inl (G.2 0, 102, .inl (S 3)))]
theorem sc_st_1 (G : sk_G) (u : Nat → Nat) (S : sk_N) (k : Nat) (v : Int32) : (sc_W G u S).set 1 (u 1, .inl (G.2 2, 100, .inl (upd (S 1) k v))) = sc_W G u (sk_up S 1 k v) := rfl
theorem sc_st_2 (G : sk_G) (u : Nat → Nat) (S : sk_N) (k : Nat) (v : Int32) : (sc_W G u S).set 2 (u 2, .inl (G.2 0, 34, .inl (upd (S 2) k v))) = sc_W G u (sk_up S 2 k v) := rfl
theorem sc_st_3 (G : sk_G) (u : Nat → Nat) (S : sk_N) (k : Nat) (v : Int32) : (sc_W G u S).set 3 (u 3, .inl (G.2 0, 102, .inl (upd (S 3) k v))) = sc_W G u (sk_up S 3 k v) := rfl
theorem sc_pf_0 (G : sk_G) (u : Nat → Nat) (S : sk_N) (v : Int32) : (sc_W G u S).set 0 (u 0, .inr (3, ([.int (S 0 0), .int (S 0 1), .int (S 0 2), .ref (u 1), .ref (u 2), .ref (u 3)] : List Value).set 0 (.int v))) = sc_W G u (sk_up S 0 0 v) := rfl
theorem sc_pf_1 (G : sk_G) (u : Nat → Nat) (S : sk_N) (v : Int32) : (sc_W G u S).set 0 (u 0, .inr (3, ([.int (S 0 0), .int (S 0 1), .int (S 0 2), .ref (u 1), .ref (u 2), .ref (u 3)] : List Value).set 1 (.int v))) = sc_W G u (sk_up S 0 1 v) := rfl
theorem sc_pf_2 (G : sk_G) (u : Nat → Nat) (S : sk_N) (v : Int32) : (sc_W G u S).set 0 (u 0, .inr (3, ([.int (S 0 0), .int (S 0 1), .int (S 0 2), .ref (u 1), .ref (u 2), .ref (u 3)] : List Value).set 2 (.int v))) = sc_W G u (sk_up S 0 2 v) := rfl
def md_W (G : sk_G) (u : Nat → Nat) (M : sk_M) : va_W := [(u 0, .inr (5, [.ref (u 1), .ref (u 2), .ref (u 3), .int (M.1 0 3), .int (M.1 0 4), .ref (u 4), .int (M.1 0 6), .ref (u 5), .int (M.1 0 8), .ref (u 6), .int (M.1 0 10), .ref (u 7), .ref (u 8), .int (M.1 0 13), .int (M.1 0 14), .long M.2])), (u 1, .inl (G.2 0, 378, .inl (M.1 1))), (u 2, .inl (G.2 0, 1512, .inl (M.1 2))), (u 3, .inl (G.2 0, 378, .inl (M.1 3))), (u 4, .inl (G.2 0, 100, .inl (M.1 4))), (u 5, .inl (G.2 0, 10, .inl (M.1 5))), (u 6, .inl (G.2 0, 100, .inl (M.1 6))), (u 7, .inl (G.2 0, 48120, .inl (M.1 7))), (u 8, .inl (G.2 0, 200, .inl (M.1 8)))]
theorem md_st_1 (G : sk_G) (u : Nat → Nat) (M : sk_M) (k : Nat) (v : Int32) : (md_W G u M).set 1 (u 1, .inl (G.2 0, 378, .inl (upd (M.1 1) k v))) = md_W G u (md_up M 1 k v) := rfl
theorem md_st_2 (G : sk_G) (u : Nat → Nat) (M : sk_M) (k : Nat) (v : Int32) : (md_W G u M).set 2 (u 2, .inl (G.2 0, 1512, .inl (upd (M.1 2) k v))) = md_W G u (md_up M 2 k v) := rfl
theorem md_st_3 (G : sk_G) (u : Nat → Nat) (M : sk_M) (k : Nat) (v : Int32) : (md_W G u M).set 3 (u 3, .inl (G.2 0, 378, .inl (upd (M.1 3) k v))) = md_W G u (md_up M 3 k v) := rfl
theorem md_st_4 (G : sk_G) (u : Nat → Nat) (M : sk_M) (k : Nat) (v : Int32) : (md_W G u M).set 4 (u 4, .inl (G.2 0, 100, .inl (upd (M.1 4) k v))) = md_W G u (md_up M 4 k v) := rfl
theorem md_st_5 (G : sk_G) (u : Nat → Nat) (M : sk_M) (k : Nat) (v : Int32) : (md_W G u M).set 5 (u 5, .inl (G.2 0, 10, .inl (upd (M.1 5) k v))) = md_W G u (md_up M 5 k v) := rfl
theorem md_st_6 (G : sk_G) (u : Nat → Nat) (M : sk_M) (k : Nat) (v : Int32) : (md_W G u M).set 6 (u 6, .inl (G.2 0, 100, .inl (upd (M.1 6) k v))) = md_W G u (md_up M 6 k v) := rfl
theorem md_st_7 (G : sk_G) (u : Nat → Nat) (M : sk_M) (k : Nat) (v : Int32) : (md_W G u M).set 7 (u 7, .inl (G.2 0, 48120, .inl (upd (M.1 7) k v))) = md_W G u (md_up M 7 k v) := rfl
theorem md_st_8 (G : sk_G) (u : Nat → Nat) (M : sk_M) (k : Nat) (v : Int32) : (md_W G u M).set 8 (u 8, .inl (G.2 0, 200, .inl (upd (M.1 8) k v))) = md_W G u (md_up M 8 k v) := rfl
theorem md_pf_3 (G : sk_G) (u : Nat → Nat) (M : sk_M) (v : Int32) : (md_W G u M).set 0 (u 0, .inr (5, ([.ref (u 1), .ref (u 2), .ref (u 3), .int (M.1 0 3), .int (M.1 0 4), .ref (u 4), .int (M.1 0 6), .ref (u 5), .int (M.1 0 8), .ref (u 6), .int (M.1 0 10), .ref (u 7), .ref (u 8), .int (M.1 0 13), .int (M.1 0 14), .long M.2] : List Value).set 3 (.int v))) = md_W G u (md_up M 0 3 v) := rfl
theorem md_pf_4 (G : sk_G) (u : Nat → Nat) (M : sk_M) (v : Int32) : (md_W G u M).set 0 (u 0, .inr (5, ([.ref (u 1), .ref (u 2), .ref (u 3), .int (M.1 0 3), .int (M.1 0 4), .ref (u 4), .int (M.1 0 6), .ref (u 5), .int (M.1 0 8), .ref (u 6), .int (M.1 0 10), .ref (u 7), .ref (u 8), .int (M.1 0 13), .int (M.1 0 14), .long M.2] : List Value).set 4 (.int v))) = md_W G u (md_up M 0 4 v) := rfl
theorem md_pf_6 (G : sk_G) (u : Nat → Nat) (M : sk_M) (v : Int32) : (md_W G u M).set 0 (u 0, .inr (5, ([.ref (u 1), .ref (u 2), .ref (u 3), .int (M.1 0 3), .int (M.1 0 4), .ref (u 4), .int (M.1 0 6), .ref (u 5), .int (M.1 0 8), .ref (u 6), .int (M.1 0 10), .ref (u 7), .ref (u 8), .int (M.1 0 13), .int (M.1 0 14), .long M.2] : List Value).set 6 (.int v))) = md_W G u (md_up M 0 6 v) := rfl
theorem md_pf_8 (G : sk_G) (u : Nat → Nat) (M : sk_M) (v : Int32) : (md_W G u M).set 0 (u 0, .inr (5, ([.ref (u 1), .ref (u 2), .ref (u 3), .int (M.1 0 3), .int (M.1 0 4), .ref (u 4), .int (M.1 0 6), .ref (u 5), .int (M.1 0 8), .ref (u 6), .int (M.1 0 10), .ref (u 7), .ref (u 8), .int (M.1 0 13), .int (M.1 0 14), .long M.2] : List Value).set 8 (.int v))) = md_W G u (md_up M 0 8 v) := rfl
theorem md_pf_10 (G : sk_G) (u : Nat → Nat) (M : sk_M) (v : Int32) : (md_W G u M).set 0 (u 0, .inr (5, ([.ref (u 1), .ref (u 2), .ref (u 3), .int (M.1 0 3), .int (M.1 0 4), .ref (u 4), .int (M.1 0 6), .ref (u 5), .int (M.1 0 8), .ref (u 6), .int (M.1 0 10), .ref (u 7), .ref (u 8), .int (M.1 0 13), .int (M.1 0 14), .long M.2] : List Value).set 10 (.int v))) = md_W G u (md_up M 0 10 v) := rfl
theorem md_pf_13 (G : sk_G) (u : Nat → Nat) (M : sk_M) (v : Int32) : (md_W G u M).set 0 (u 0, .inr (5, ([.ref (u 1), .ref (u 2), .ref (u 3), .int (M.1 0 3), .int (M.1 0 4), .ref (u 4), .int (M.1 0 6), .ref (u 5), .int (M.1 0 8), .ref (u 6), .int (M.1 0 10), .ref (u 7), .ref (u 8), .int (M.1 0 13), .int (M.1 0 14), .long M.2] : List Value).set 13 (.int v))) = md_W G u (md_up M 0 13 v) := rfl
theorem md_pf_14 (G : sk_G) (u : Nat → Nat) (M : sk_M) (v : Int32) : (md_W G u M).set 0 (u 0, .inr (5, ([.ref (u 1), .ref (u 2), .ref (u 3), .int (M.1 0 3), .int (M.1 0 4), .ref (u 4), .int (M.1 0 6), .ref (u 5), .int (M.1 0 8), .ref (u 6), .int (M.1 0 10), .ref (u 7), .ref (u 8), .int (M.1 0 13), .int (M.1 0 14), .long M.2] : List Value).set 14 (.int v))) = md_W G u (md_up M 0 14 v) := rfl
theorem md_pf_15 (G : sk_G) (u : Nat → Nat) (M : sk_M) (v : Int64) : (md_W G u M).set 0 (u 0, .inr (5, ([.ref (u 1), .ref (u 2), .ref (u 3), .int (M.1 0 3), .int (M.1 0 4), .ref (u 4), .int (M.1 0 6), .ref (u 5), .int (M.1 0 8), .ref (u 6), .int (M.1 0 10), .ref (u 7), .ref (u 8), .int (M.1 0 13), .int (M.1 0 14), .long M.2] : List Value).set 15 (.long v))) = md_W G u (md_upl M v) := rfl
def pc_W (u : Nat → Nat) (a_network a_thought a_ahead a_savings a_script : Nat) : va_W := [(u 0, .inr (4, [.ref a_network, .ref a_thought, .ref a_ahead, .ref a_savings, .ref a_script]))]
def sv_f (b0 b1 b2 b3 : Nat) : Nat → Option Nat := fun k => some (if k = 0 then b0 else if k = 1 then b1 else if k = 2 then b2 else b3)
def sv_W (G : sk_G) (u : Nat → Nat) (b0 b1 b2 b3 : Nat) (S : sk_N) : va_W := [(u 0, .inr (2, [.ref (u 1), .int (S 0 1), .int (S 0 2)])), (u 1, .inl (G.2 3, 4, .inr (.inr (.inr (.inr (sv_f b0 b1 b2 b3))))))]
theorem sv_pf_1 (G : sk_G) (u : Nat → Nat) (b0 b1 b2 b3 : Nat) (S : sk_N) (v : Int32) : (sv_W G u b0 b1 b2 b3 S).set 0 (u 0, .inr (2, ([.ref (u 1), .int (S 0 1), .int (S 0 2)] : List Value).set 1 (.int v))) = sv_W G u b0 b1 b2 b3 (sk_up S 0 1 v) := rfl
theorem sv_pf_2 (G : sk_G) (u : Nat → Nat) (b0 b1 b2 b3 : Nat) (S : sk_N) (v : Int32) : (sv_W G u b0 b1 b2 b3 S).set 0 (u 0, .inr (2, ([.ref (u 1), .int (S 0 1), .int (S 0 2)] : List Value).set 2 (.int v))) = sv_W G u b0 b1 b2 b3 (sk_up S 0 2 v) := rfl
set_option maxRecDepth 20000 in
theorem in_RX0 : ∀ w ∈ u_ws RX0 TX0 4, w ∈ lw_g := by
  intro w hw
  obtain ⟨k, hk, rfl⟩ := List.mem_map.mp hw
  have hk := List.mem_range.mp hk
  match k, hk with
  | 0, _ => exact q_120
  | 1, _ => exact q_122
  | 2, _ => exact q_124
  | 3, _ => exact q_126
  | k + 4, hk => exact absurd hk (by omega)
set_option maxRecDepth 20000 in
theorem in_RX1 : ∀ w ∈ u_ws RX1 TX1 14, w ∈ lw_g := by
  intro w hw
  obtain ⟨k, hk, rfl⟩ := List.mem_map.mp hw
  have hk := List.mem_range.mp hk
  match k, hk with
  | 0, _ => exact q_150
  | 1, _ => exact q_152
  | 2, _ => exact q_154
  | 3, _ => exact q_156
  | 4, _ => exact q_158
  | 5, _ => exact q_160
  | 6, _ => exact q_162
  | 7, _ => exact q_164
  | 8, _ => exact q_166
  | 9, _ => exact q_168
  | 10, _ => exact q_170
  | 11, _ => exact q_172
  | 12, _ => exact q_174
  | 13, _ => exact q_176
  | k + 14, hk => exact absurd hk (by omega)
set_option maxRecDepth 20000 in
theorem in_RX2 : ∀ w ∈ u_ws RX2 TX2 3, w ∈ lw_g := by
  intro w hw
  obtain ⟨k, hk, rfl⟩ := List.mem_map.mp hw
  have hk := List.mem_range.mp hk
  match k, hk with
  | 0, _ => exact q_192
  | 1, _ => exact q_194
  | 2, _ => exact q_196
  | k + 3, hk => exact absurd hk (by omega)
set_option maxRecDepth 20000 in
theorem in_RX3 : ∀ w ∈ u_ws RX3 TX3 6, w ∈ lw_g := by
  intro w hw
  obtain ⟨k, hk, rfl⟩ := List.mem_map.mp hw
  have hk := List.mem_range.mp hk
  match k, hk with
  | 0, _ => exact q_214
  | 1, _ => exact q_216
  | 2, _ => exact q_218
  | 3, _ => exact q_220
  | 4, _ => exact q_222
  | 5, _ => exact q_224
  | k + 6, hk => exact absurd hk (by omega)
set_option maxRecDepth 20000 in
theorem in_RX4 : ∀ w ∈ u_ws RX4 TX4 5, w ∈ lw_g := by
  intro w hw
  obtain ⟨k, hk, rfl⟩ := List.mem_map.mp hw
  have hk := List.mem_range.mp hk
  match k, hk with
  | 0, _ => exact q_233
  | 1, _ => exact q_235
  | 2, _ => exact q_237
  | 3, _ => exact q_239
  | 4, _ => exact q_241
  | k + 5, hk => exact absurd hk (by omega)
set_option maxRecDepth 20000 in
theorem in_RX5 : ∀ w ∈ u_ws RX5 TX5 16, w ∈ lw_g := by
  intro w hw
  obtain ⟨k, hk, rfl⟩ := List.mem_map.mp hw
  have hk := List.mem_range.mp hk
  match k, hk with
  | 0, _ => exact q_961
  | 1, _ => exact q_963
  | 2, _ => exact q_965
  | 3, _ => exact q_967
  | 4, _ => exact q_969
  | 5, _ => exact q_971
  | 6, _ => exact q_973
  | 7, _ => exact q_975
  | 8, _ => exact q_977
  | 9, _ => exact q_979
  | 10, _ => exact q_981
  | 11, _ => exact q_983
  | 12, _ => exact q_985
  | 13, _ => exact q_987
  | 14, _ => exact q_989
  | 15, _ => exact q_991
  | k + 16, hk => exact absurd hk (by omega)
theorem sk_copy {ρ : Type} {Γ : sk_K} {Φ : ρ → State → Prop} {k n : Nat} {f : Option ρ} {bs bs' : sk_B} {lv : List (Option Value)} {pc pc' : Nat} {st : List Value} {l : Launch} {G : sk_G} {rm : Room} {nL : Nat} {own : String} {cc : ByteArray} {ret : Option FieldType} (X : sk_X Γ l G rm nL own cc ret) {ix : Nat} (L : Cond.methodLink own ix arraycopyName ∈ lw_g) (i0 j0 i1 j1 : Nat) {N : Nat} {v : Int32} {w0 w1 : va_W} {a0 a1 n0 n1 : Nat} {f0 f1 : Nat → Int32}
    (hw0 : bs[i0]? = some w0) (ha0 : w0[j0]? = some (a0, .inl (G.2 0, n0, .inl f0))) (hw1 : bs[i1]? = some w1) (ha1 : w1[j1]? = some (a1, .inl (G.2 0, n1, .inl f1))) (hv : v.toNatClampNeg = N) (hv0 : ¬ v < 0) (h4 : N ≤ n0) (h5 : N ≤ n1)
    (hbs : bs.set i1 (w1.set j1 (a1, .inl (G.2 0, n1, .inl (va_cpy f0 f1 0 0 N)))) = bs') (hfr : 1 ≤ rm.frames) (hlo : (st.map fun v => v.category).sum + 18 ≤ rm.locals) (hd : decode cc pc = .ok (.invokestatic ix, 3)) (hp : pc + 3 = pc') (kk : sk_S Γ Φ k n f bs' lv pc' st) : sk_S Γ Φ k n f bs lv pc (.int v :: .int 0 :: .ref a1 :: .int 0 :: .ref a0 :: st) := by
  obtain ⟨p, l', e, R, s, m, args, below, meth, c, G', nL', A⟩ := Γ
  obtain ⟨rfl, rfl, rfl, rfl, hx, hb, hml, hown, hts, hK, hlocks, hret⟩ := X
  intro r hf H locs ls hP hD hS hl
  subst hp; subst hbs; subst hv
  obtain ⟨m0, g0, -⟩ := sk_flat hw0 ha0
  obtain ⟨m1, g1, g2⟩ := sk_flat hw1 ha1
  refine va_copyi (ty := .int) hx hb (hml.trans hl.1.symm) hown (hts _ L) (hts _ q_384) (hts _ q_383) (hts _ q_89) hK hP hD hS m0 m1 0 0 g0 g1 rfl rfl rfl (by decide) (by decide) hv0 (by simpa using h4) (by simpa using h5) (fun i _ => rfl) hfr (Nat.le_trans (Nat.add_le_add_left (by decide) _) hlo) hd (fun H1 locs1 hP1 hD1 hS1 => ?_)
  rw [g2] at hP1 hD1
  exact kk r hf H1 locs1 ls hP1 hD1 hS1 hl
def sk_max (x y : Int32) : Int32 := if x < y then y else x
theorem sk_mmax {ρ : Type} {Γ : sk_K} {Φ : ρ → State → Prop} {k n : Nat} {f : Option ρ} {bs : sk_B} {lv : List (Option Value)} {pc pc' : Nat} {st : List Value} {l : Launch} {G : sk_G} {rm : Room} {nL : Nat} {own : String} {cc : ByteArray} {ret : Option FieldType} (X : sk_X Γ l G rm nL own cc ret) {ix : Nat} (L : Cond.methodLink own ix Lib.Math.max.name ∈ lw_g) {x y : Int32} (hfr : 1 ≤ rm.frames) (hlo : (st.map fun v => v.category).sum + 13 ≤ rm.locals) (hkn : k ≤ rm.cells ∧ n ≤ rm.slots) (hd : decode cc pc = .ok (.invokestatic ix, 3)) (hp : pc + 3 = pc') (kk : sk_S Γ Φ k n f bs lv pc' (.int (sk_max x y) :: st)) : sk_S Γ Φ k n f bs lv pc (.int y :: .int x :: st) := by
  obtain ⟨p, l', e, R, s, m, args, below, meth, c, G', nL', A⟩ := Γ
  obtain ⟨rfl, rfl, rfl, rfl, hx, hb, hml, hown, hts, hK, hlocks, hret⟩ := X
  intro r hf H locs ls hP hD hS hl
  subst hp
  exact va_mmax hx hb (hml.trans hl.1.symm) hown (hts _ L) (hts _ q_339) (hts _ q_92) (hts _ q_340) hfr hlo hkn.1 hkn.2 hd (kk r hf H locs ls hP hD hS hl)
theorem mm_RX1_max : Cond.methodLink RX1 153 Lib.Math.max.name ∈ lw_g := q_338
def sk_min (x y : Int32) : Int32 := if y < x then y else x
theorem sk_mmin {ρ : Type} {Γ : sk_K} {Φ : ρ → State → Prop} {k n : Nat} {f : Option ρ} {bs : sk_B} {lv : List (Option Value)} {pc pc' : Nat} {st : List Value} {l : Launch} {G : sk_G} {rm : Room} {nL : Nat} {own : String} {cc : ByteArray} {ret : Option FieldType} (X : sk_X Γ l G rm nL own cc ret) {ix : Nat} (L : Cond.methodLink own ix Lib.Math.min.name ∈ lw_g) {x y : Int32} (hfr : 1 ≤ rm.frames) (hlo : (st.map fun v => v.category).sum + 13 ≤ rm.locals) (hkn : k ≤ rm.cells ∧ n ≤ rm.slots) (hd : decode cc pc = .ok (.invokestatic ix, 3)) (hp : pc + 3 = pc') (kk : sk_S Γ Φ k n f bs lv pc' (.int (sk_min x y) :: st)) : sk_S Γ Φ k n f bs lv pc (.int y :: .int x :: st) := by
  obtain ⟨p, l', e, R, s, m, args, below, meth, c, G', nL', A⟩ := Γ
  obtain ⟨rfl, rfl, rfl, rfl, hx, hb, hml, hown, hts, hK, hlocks, hret⟩ := X
  intro r hf H locs ls hP hD hS hl
  subst hp
  exact va_mmin hx hb (hml.trans hl.1.symm) hown (hts _ L) (hts _ q_342) (hts _ q_92) (hts _ q_343) hfr hlo hkn.1 hkn.2 hd (kk r hf H locs ls hP hD hS hl)
theorem mm_RX1_min : Cond.methodLink RX1 148 Lib.Math.min.name ∈ lw_g := q_341
theorem ac_RX0 : Cond.methodLink RX0 25 arraycopyName ∈ lw_g := q_389
theorem ac_RX1 : Cond.methodLink RX1 50 arraycopyName ∈ lw_g := q_382
