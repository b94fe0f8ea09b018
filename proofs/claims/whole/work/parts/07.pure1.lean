/-! PulseClocks$Log.placeOf(I)I -/
def m_X0_placeOf (S0 : sk_N) (p1 : Int32) : Option (Int32) := (if p1 < 0 then (some (-1 : Int32)) else (if p1 < (S0 0 3) then sk_let (((S0 0 2) - (1 : Int32)) - p1) (fun x22 => (if x22 < 0 then (some (x22 + (60 : Int32))) else (some x22))) else (some (-1 : Int32))))
/-! PulseClocks$Log.copyNotes(LPulseClocks$Log;)V -/
def m_X0_copyNotes (S0 : sk_N) (S1 : sk_N) : Option (sk_N) := sk_let (va_up S0 1 (va_cpy (S1 1) (S0 1) 0 0 60)) (fun N12 => sk_let (va_up N12 2 (va_cpy (S1 2) (N12 2) 0 0 60)) (fun N27 => sk_let (sk_up N27 0 2 (S1 0 2)) (fun N35 => sk_let (sk_up N35 0 3 (S1 0 3)) (fun N43 => (some N43)))))
/-! PulseClocks$Log.note(II)V -/
def m_X0_note_42 (p1 : Int32) (p2 : Int32) (s42 : sk_N × Int32) : Option (sk_N) := sk_let (sk_up s42.1 0 2 s42.2) (fun N42 => (if (60 : Int32) ≤ (N42 0 3) then (some N42) else sk_let (sk_up N42 0 3 ((N42 0 3) + (1 : Int32))) (fun N61 => (some N61))))
def m_X0_note (S0 : sk_N) (p1 : Int32) (p2 : Int32) : Option (sk_N) := if sk_in (S0 0 2) 60 then sk_let (sk_up S0 1 ((S0 0 2)).toNatClampNeg p1) (fun N9 => if sk_in (N9 0 2) 60 then sk_let (sk_up N9 2 ((N9 0 2)).toNatClampNeg p2) (fun N19 => (if (60 : Int32) ≤ ((N19 0 2) + (1 : Int32)) then (m_X0_note_42 p1 p2 (N19, (0 : Int32))) else (m_X0_note_42 p1 p2 (N19, ((N19 0 2) + (1 : Int32)))))) else none) else none
/-! PulseClocks$Network.allClocks()I -/
def m_X1_allClocks (S0 : sk_N) : Option (Int32) := (some ((sk_shl (1 : Int32) (S0 0 0)) - (1 : Int32)))
/-! PulseClocks$Network.delayBetween(II)I -/
def m_X1_delayBetween (S0 : sk_N) (p1 : Int32) (p2 : Int32) : Option (Int32) := if sk_in ((p1 * (10 : Int32)) + p2) 100 then (some ((S0 6) (((p1 * (10 : Int32)) + p2)).toNatClampNeg)) else none
/-! PulseClocks$Network.neighboursOf(I)I -/
def m_X1_neighboursOf_4_step (S0 : sk_N) (p1 : Int32) (k4 : (Int32 × Int32) → Option (Int32)) (s4 : Int32 × Int32) : Option (Int32) := (if (S0 0 0) ≤ s4.2 then (some s4.1) else (m_X1_delayBetween S0 p1 s4.2).bind (fun r15 => (if r15 = (-1 : Int32) then (k4 (s4.1, (s4.2 + (1 : Int32)))) else sk_let (s4.1 ||| (sk_shl (1 : Int32) s4.2)) (fun x27 => (k4 (x27, (s4.2 + (1 : Int32))))))))
def m_X1_neighboursOf_4 (S0 : sk_N) (p1 : Int32) (s4 : Int32 × Int32) : Option (Int32) := sk_lp (m_X1_neighboursOf_4_step S0 p1) sk_fuel s4
def m_X1_neighboursOf (S0 : sk_N) (p1 : Int32) : Option (Int32) := (m_X1_neighboursOf_4 S0 p1 ((0 : Int32), (0 : Int32)))
/-! PulseClocks$Network.withNeighbours(I)I -/
def m_X1_withNeighbours_4_step (S0 : sk_N) (p1 : Int32) (k4 : (Int32 × Int32) → Option (Int32)) (s4 : Int32 × Int32) : Option (Int32) := (if (S0 0 0) ≤ s4.2 then (some s4.1) else (if (p1 &&& (sk_shl (1 : Int32) s4.2)) = 0 then (k4 (s4.1, (s4.2 + (1 : Int32)))) else (m_X1_neighboursOf S0 s4.2).bind (fun r23 => sk_let (s4.1 ||| r23) (fun x27 => (k4 (x27, (s4.2 + (1 : Int32))))))))
def m_X1_withNeighbours_4 (S0 : sk_N) (p1 : Int32) (s4 : Int32 × Int32) : Option (Int32) := sk_lp (m_X1_withNeighbours_4_step S0 p1) sk_fuel s4
def m_X1_withNeighbours (S0 : sk_N) (p1 : Int32) : Option (Int32) := (m_X1_withNeighbours_4 S0 p1 (p1, (0 : Int32)))
/-! PulseClocks$Network.partOf(II)I -/
def m_X1_partOf_7_step (S0 : sk_N) (p1 : Int32) (p2 : Int32) (k7 : (Int32 × Int32) → Option (Int32)) (s7 : Int32 × Int32) : Option (Int32) := (if (S0 0 0) ≤ s7.2 then (some s7.1) else (m_X1_withNeighbours S0 s7.1).bind (fun r18 => sk_let (r18 &&& p2) (fun x23 => (k7 (x23, (s7.2 + (1 : Int32)))))))
def m_X1_partOf_7 (S0 : sk_N) (p1 : Int32) (p2 : Int32) (s7 : Int32 × Int32) : Option (Int32) := sk_lp (m_X1_partOf_7_step S0 p1 p2) sk_fuel s7
def m_X1_partOf (S0 : sk_N) (p1 : Int32) (p2 : Int32) : Option (Int32) := sk_let (sk_shl (1 : Int32) p1) (fun x3 => (m_X1_partOf_7 S0 p1 p2 (x3, (1 : Int32))))
/-! PulseClocks$Network.partsWithin(I)I -/
def m_X1_partsWithin_7_step (S0 : sk_N) (p1 : Int32) (k7 : (Int32 × Int32 × Int32) → Option (Int32)) (s7 : Int32 × Int32 × Int32) : Option (Int32) := (if (S0 0 0) ≤ s7.2.2 then (some s7.2.1) else (if (s7.1 &&& (sk_shl (1 : Int32) s7.2.2)) = 0 then (k7 (s7.1, s7.2.1, (s7.2.2 + (1 : Int32)))) else (m_X1_partOf S0 s7.2.2 p1).bind (fun r30 => sk_let (s7.1 &&& (r30 ^^^ (-1 : Int32))) (fun x36 => (k7 (x36, (s7.2.1 + (1 : Int32)), (s7.2.2 + (1 : Int32))))))))
def m_X1_partsWithin_7 (S0 : sk_N) (p1 : Int32) (s7 : Int32 × Int32 × Int32) : Option (Int32) := sk_lp (m_X1_partsWithin_7_step S0 p1) sk_fuel s7
def m_X1_partsWithin (S0 : sk_N) (p1 : Int32) : Option (Int32) := (m_X1_partsWithin_7 S0 p1 (p1, (0 : Int32), (0 : Int32)))
/-! java/lang/Integer.bitCount(I)I -/
def m_J6_bitCount_0f7a4 (p1 : Int32) : Option (Int32) := sk_let (p1 - ((sk_ushr p1 (1 : Int32)) &&& (1431655765 : Int32))) (fun x9 => sk_let ((x9 &&& (858993459 : Int32)) + ((sk_ushr x9 (2 : Int32)) &&& (858993459 : Int32))) (fun x23 => sk_let ((x23 + (sk_ushr x23 (4 : Int32))) &&& (252645135 : Int32)) (fun x33 => sk_let (x33 + (sk_ushr x33 (8 : Int32))) (fun x40 => sk_let (x40 + (sk_ushr x40 (16 : Int32))) (fun x47 => (some (x47 &&& (63 : Int32))))))))
/-! PulseClocks$Network.pulsesTo(I)I -/
def m_X1_pulsesTo_4_step (S0 : sk_N) (p1 : Int32) (k4 : (Int32 × Int32) → Option (Int32)) (s4 : Int32 × Int32) : Option (Int32) := (if (16 : Int32) ≤ s4.2 then (some s4.1) else if sk_in ((s4.2 * (10 : Int32)) + p1) 160 then (m_J6_bitCount_0f7a4 ((S0 7) (((s4.2 * (10 : Int32)) + p1)).toNatClampNeg)).bind (fun r22 => sk_let (s4.1 + r22) (fun x26 => (k4 (x26, (s4.2 + (1 : Int32)))))) else none)
def m_X1_pulsesTo_4 (S0 : sk_N) (p1 : Int32) (s4 : Int32 × Int32) : Option (Int32) := sk_lp (m_X1_pulsesTo_4_step S0 p1) sk_fuel s4
def m_X1_pulsesTo (S0 : sk_N) (p1 : Int32) : Option (Int32) := (m_X1_pulsesTo_4 S0 p1 ((0 : Int32), (0 : Int32)))
/-! PulseClocks$Network.pulseCount()I -/
def m_X1_pulseCount_4_step (S0 : sk_N) (k4 : (Int32 × Int32) → Option (Int32)) (s4 : Int32 × Int32) : Option (Int32) := (if (S0 0 0) ≤ s4.2 then (some s4.1) else (m_X1_pulsesTo S0 s4.2).bind (fun r15 => sk_let (s4.1 + r15) (fun x19 => (k4 (x19, (s4.2 + (1 : Int32)))))))
def m_X1_pulseCount_4 (S0 : sk_N) (s4 : Int32 × Int32) : Option (Int32) := sk_lp (m_X1_pulseCount_4_step S0) sk_fuel s4
def m_X1_pulseCount (S0 : sk_N) : Option (Int32) := (m_X1_pulseCount_4 S0 ((0 : Int32), (0 : Int32)))
/-! PulseClocks$Network.isGood(I)Z -/
def m_X1_isGood (S0 : sk_N) (p1 : Int32) : Option (Int32) := if sk_in p1 10 then (if ((S0 4) (p1).toNatClampNeg) = 0 then (some (1 : Int32)) else (some (0 : Int32))) else none
/-! PulseClocks$Network.isFirstOfGroup(I)Z -/
def m_X1_isFirstOfGroup_2_step (S0 : sk_N) (p1 : Int32) (k2 : (Int32) → Option (Int32)) (s2 : Int32) : Option (Int32) := (if p1 ≤ s2 then (some (1 : Int32)) else (m_X1_isGood S0 s2).bind (fun r9 => (if r9 = 0 then (k2 (s2 + (1 : Int32))) else if sk_in s2 10 then if sk_in p1 10 then (if ((S0 2) (s2).toNatClampNeg) = ((S0 2) (p1).toNatClampNeg) then (some (0 : Int32)) else (k2 (s2 + (1 : Int32)))) else none else none)))
def m_X1_isFirstOfGroup_2 (S0 : sk_N) (p1 : Int32) (s2 : Int32) : Option (Int32) := sk_lp (m_X1_isFirstOfGroup_2_step S0 p1) sk_fuel s2
def m_X1_isFirstOfGroup (S0 : sk_N) (p1 : Int32) : Option (Int32) := (m_X1_isFirstOfGroup_2 S0 p1 (0 : Int32))
/-! PulseClocks$Network.groupCount(I)I -/
def m_X1_groupCount_4_step (S0 : sk_N) (p1 : Int32) (k4 : (Int32 × Int32) → Option (Int32)) (s4 : Int32 × Int32) : Option (Int32) := (if (S0 0 0) ≤ s4.2 then (some s4.1) else (if p1 < s4.1 then (some s4.1) else (m_X1_isGood S0 s4.2).bind (fun r19 => (if r19 = 0 then (k4 (s4.1, (s4.2 + (1 : Int32)))) else (m_X1_isFirstOfGroup S0 s4.2).bind (fun r27 => (if r27 = 0 then (k4 (s4.1, (s4.2 + (1 : Int32)))) else (k4 ((s4.1 + (1 : Int32)), (s4.2 + (1 : Int32))))))))))
def m_X1_groupCount_4 (S0 : sk_N) (p1 : Int32) (s4 : Int32 × Int32) : Option (Int32) := sk_lp (m_X1_groupCount_4_step S0 p1) sk_fuel s4
def m_X1_groupCount (S0 : sk_N) (p1 : Int32) : Option (Int32) := (m_X1_groupCount_4 S0 p1 ((0 : Int32), (0 : Int32)))
/-! PulseClocks$Network.stretchFrom(I)I -/
def m_X1_stretchFrom_48 (S0 : sk_N) (p1 : Int32) (k4 : (Int32 × Int32) → Option (Int32)) (s48 : Int32 × Int32 × Int32) : Option (Int32) := sk_let (sk_max s48.2.1 s48.2.2) (fun x51 => (k4 (x51, (s48.1 + (1 : Int32)))))
def m_X1_stretchFrom_4_step (S0 : sk_N) (p1 : Int32) (k4 : (Int32 × Int32) → Option (Int32)) (s4 : Int32 × Int32) : Option (Int32) := (if (S0 0 0) ≤ s4.2 then (some s4.1) else (m_X1_isGood S0 s4.2).bind (fun r14 => (if r14 = 0 then (k4 (s4.1, (s4.2 + (1 : Int32)))) else if sk_in s4.2 10 then sk_let (((S0 2) (s4.2).toNatClampNeg) - p1) (fun x28 => (if x28 < 0 then (m_X1_stretchFrom_48 S0 p1 k4 (s4.2, s4.1, (x28 + (S0 0 1)))) else (m_X1_stretchFrom_48 S0 p1 k4 (s4.2, s4.1, x28)))) else none)))
def m_X1_stretchFrom_4 (S0 : sk_N) (p1 : Int32) (s4 : Int32 × Int32) : Option (Int32) := sk_lp (m_X1_stretchFrom_4_step S0 p1) sk_fuel s4
def m_X1_stretchFrom (S0 : sk_N) (p1 : Int32) : Option (Int32) := (m_X1_stretchFrom_4 S0 p1 ((0 : Int32), (0 : Int32)))
/-! PulseClocks$Network.spreadOfGood()I -/
def m_X1_spreadOfGood_4_step (S0 : sk_N) (k4 : (Int32 × Int32) → Option (Int32)) (s4 : Int32 × Int32) : Option (Int32) := (if (S0 0 0) ≤ s4.2 then (if s4.1 = (-1 : Int32) then (some (0 : Int32)) else (some s4.1)) else (m_X1_isGood S0 s4.2).bind (fun r14 => (if r14 = 0 then (k4 (s4.1, (s4.2 + (1 : Int32)))) else if sk_in s4.2 10 then (m_X1_stretchFrom S0 ((S0 2) (s4.2).toNatClampNeg)).bind (fun r27 => (if s4.1 = (-1 : Int32) then (k4 (r27, (s4.2 + (1 : Int32)))) else sk_let (sk_min s4.1 r27) (fun x45 => (k4 (x45, (s4.2 + (1 : Int32))))))) else none)))
def m_X1_spreadOfGood_4 (S0 : sk_N) (s4 : Int32 × Int32) : Option (Int32) := sk_lp (m_X1_spreadOfGood_4_step S0) sk_fuel s4
def m_X1_spreadOfGood (S0 : sk_N) : Option (Int32) := (m_X1_spreadOfGood_4 S0 ((-1 : Int32), (0 : Int32)))
/-! PulseClocks$Network.copyFrom(LPulseClocks$Network;)V -/
def m_X1_copyFrom (S0 : sk_N) (S1 : sk_N) (S2 : sk_N) (S3 : sk_N) : Option (sk_N × sk_N) := sk_let (sk_up S0 0 0 (S2 0 0)) (fun N5 => sk_let (sk_up N5 0 1 (S2 0 1)) (fun N13 => sk_let (va_up N13 1 (va_cpy (S2 1) (N13 1) 0 0 3)) (fun N31 => sk_let (sk_up N31 0 3 (S2 0 3)) (fun N39 => sk_let (sk_up N39 0 4 (S2 0 4)) (fun N47 => (m_X0_copyNotes S1 S3).bind (fun r58 => sk_let (va_up N47 2 (va_cpy (S2 2) (N47 2) 0 0 10)) (fun N76 => sk_let (va_up N76 3 (va_cpy (S2 3) (N76 3) 0 0 10)) (fun N94 => sk_let (va_up N94 4 (va_cpy (S2 4) (N94 4) 0 0 10)) (fun N112 => sk_let (va_up N112 5 (va_cpy (S2 5) (N112 5) 0 0 10)) (fun N130 => sk_let (va_up N130 6 (va_cpy (S2 6) (N130 6) 0 0 100)) (fun N148 => sk_let (va_up N148 7 (va_cpy (S2 7) (N148 7) 0 0 160)) (fun N166 => (some (N166, r58))))))))))))))
/-! PulseClocks$Network.isPhase(I)Z -/
def m_X1_isPhase (S0 : sk_N) (p1 : Int32) : Option (Int32) := (if p1 < 0 then (some (0 : Int32)) else (if (S0 0 1) ≤ p1 then (some (0 : Int32)) else (some (1 : Int32))))
/-! PulseClocks$Network.isFull()Z -/
def m_X1_isFull (S0 : sk_N) : Option (Int32) := (if (S0 0 0) < (10 : Int32) then (some (0 : Int32)) else (some (1 : Int32)))
/-! PulseClocks$Network.addClock(I)I -/
def m_X1_addClock (S0 : sk_N) (p1 : Int32) : Option (Int32 × sk_N) := sk_let (S0 0 0) (fun x4 => if sk_in x4 10 then sk_let (sk_up S0 2 (x4).toNatClampNeg p1) (fun N11 => sk_let (sk_up N11 0 0 ((N11 0 0) + (1 : Int32))) (fun N19 => (some (x4, N19)))) else none)
/-! PulseClocks$Network.hasClock(I)Z -/
def m_X1_hasClock (S0 : sk_N) (p1 : Int32) : Option (Int32) := (if p1 < 0 then (some (0 : Int32)) else (if (S0 0 0) ≤ p1 then (some (0 : Int32)) else (some (1 : Int32))))
/-! PulseClocks$Network.changePhase(II)I -/
def m_X1_changePhase (S0 : sk_N) (p1 : Int32) (p2 : Int32) : Option (Int32 × sk_N) := if sk_in p1 10 then sk_let ((S0 2) (p1).toNatClampNeg) (fun x6 => if sk_in p1 10 then sk_let (sk_up S0 2 (p1).toNatClampNeg p2) (fun N13 => (some (x6, N13))) else none) else none
/-! PulseClocks$Network.dropPulses(II)V -/
def m_X1_dropPulses_2_step (p1 : Int32) (p2 : Int32) (k2 : (sk_N × Int32) → Option (sk_N)) (s2 : sk_N × Int32) : Option (sk_N) := (if (16 : Int32) ≤ s2.2 then (some s2.1) else if sk_in ((s2.2 * (10 : Int32)) + p2) 160 then if sk_in ((s2.2 * (10 : Int32)) + p2) 160 then sk_let (sk_up s2.1 7 (((s2.2 * (10 : Int32)) + p2)).toNatClampNeg (((s2.1 7) (((s2.2 * (10 : Int32)) + p2)).toNatClampNeg) &&& ((sk_shl (1 : Int32) p1) ^^^ (-1 : Int32)))) (fun N26 => (k2 (N26, (s2.2 + (1 : Int32))))) else none else none)
def m_X1_dropPulses_2 (p1 : Int32) (p2 : Int32) (s2 : sk_N × Int32) : Option (sk_N) := sk_lp (m_X1_dropPulses_2_step p1 p2) sk_fuel s2
def m_X1_dropPulses (S0 : sk_N) (p1 : Int32) (p2 : Int32) : Option (sk_N) := (m_X1_dropPulses_2 p1 p2 (S0, (0 : Int32)))
/-! PulseClocks$Network.changeLink(III)I -/
def m_X1_changeLink (S0 : sk_N) (p1 : Int32) (p2 : Int32) (p3 : Int32) : Option (Int32 × sk_N) := (m_X1_delayBetween S0 p1 p2).bind (fun r3 => (if r3 = p3 then (some (r3, S0)) else (m_X1_dropPulses S0 p1 p2).bind (fun r17 => (m_X1_dropPulses r17 p2 p1).bind (fun r23 => if sk_in ((p1 * (10 : Int32)) + p2) 100 then sk_let (sk_up r23 6 (((p1 * (10 : Int32)) + p2)).toNatClampNeg p3) (fun N37 => if sk_in ((p2 * (10 : Int32)) + p1) 100 then sk_let (sk_up N37 6 (((p2 * (10 : Int32)) + p1)).toNatClampNeg p3) (fun N49 => (some (r3, N49))) else none) else none))))
/-! PulseClocks$Network.makeBlinker(III)V -/
def m_X1_makeBlinker (S0 : sk_N) (p1 : Int32) (p2 : Int32) (p3 : Int32) : Option (sk_N) := if sk_in p1 10 then sk_let (sk_up S0 4 (p1).toNatClampNeg p2) (fun N6 => if sk_in p1 10 then sk_let (sk_up N6 5 (p1).toNatClampNeg p3) (fun N13 => (some N13)) else none) else none
/-! PulseClocks$Network.stepOf(I)I -/
def m_X1_stepOf (S0 : sk_N) (p1 : Int32) : Option (Int32) := if sk_in p1 10 then sk_let ((S0 3) (p1).toNatClampNeg) (fun x6 => (if x6 = 0 then (some (1 : Int32)) else if x6 = 0 then none else (if (sk_rem (S0 0 3) x6) = 0 then (if x6 ≤ 0 then (some (0 : Int32)) else (some (2 : Int32))) else (some (1 : Int32))))) else none
/-! PulseClocks$Network.advancePhases()V -/
def m_X1_advancePhases_2_step (k2 : (sk_N × Int32) → Option (sk_N)) (s2 : sk_N × Int32) : Option (sk_N) := (if (s2.1 0 0) ≤ s2.2 then (some s2.1) else (m_X1_isGood s2.1 s2.2).bind (fun r12 => (if r12 = 0 then (k2 (s2.1, (s2.2 + (1 : Int32)))) else if sk_in s2.2 10 then (m_X1_stepOf s2.1 s2.2).bind (fun r27 => if sk_in s2.2 10 then sk_let (sk_up s2.1 2 (s2.2).toNatClampNeg (((s2.1 2) (s2.2).toNatClampNeg) + r27)) (fun N31 => (k2 (N31, (s2.2 + (1 : Int32))))) else none) else none)))
def m_X1_advancePhases_2 (s2 : sk_N × Int32) : Option (sk_N) := sk_lp (m_X1_advancePhases_2_step) sk_fuel s2
def m_X1_advancePhases (S0 : sk_N) : Option (sk_N) := (m_X1_advancePhases_2 (S0, (0 : Int32)))
/-! PulseClocks$Network.hasFired(I)Z -/
def m_X1_hasFired (S0 : sk_N) (p1 : Int32) : Option (Int32) := (if ((S0 0 4) &&& (sk_shl (1 : Int32) p1)) = 0 then (some (0 : Int32)) else (some (1 : Int32)))
/-! PulseClocks$Network.slotOf(I)I -/
def m_X1_slotOf (p1 : Int32) : Option (Int32) := (some ((p1 &&& (15 : Int32)) * (10 : Int32)))
/-! PulseClocks$Network.fire(I)V -/
def m_X1_fire_70_step (p1 : Int32) (k70 : (sk_N × Int32) → Option (sk_N)) (s70 : sk_N × Int32) : Option (sk_N) := (if (s70.1 0 0) ≤ s70.2 then (some s70.1) else (m_X1_delayBetween s70.1 p1 s70.2).bind (fun r81 => (if r81 ≤ 0 then (k70 (s70.1, (s70.2 + (1 : Int32)))) else (m_X1_slotOf ((s70.1 0 3) + r81)).bind (fun r99 => if sk_in (r99 + s70.2) 160 then if sk_in (r99 + s70.2) 160 then sk_let (sk_up s70.1 7 ((r99 + s70.2)).toNatClampNeg (((s70.1 7) ((r99 + s70.2)).toNatClampNeg) ||| (sk_shl (1 : Int32) p1))) (fun N110 => (k70 (N110, (s70.2 + (1 : Int32))))) else none else none))))
def m_X1_fire_70 (p1 : Int32) (s70 : sk_N × Int32) : Option (sk_N) := sk_lp (m_X1_fire_70_step p1) sk_fuel s70
def m_X1_fire (S0 : sk_N) (p1 : Int32) : Option (sk_N) := (m_X1_hasFired S0 p1).bind (fun r2 => (if r2 = 0 then (if (S0 0 13) < (10 : Int32) then sk_let (sk_up S0 0 4 ((S0 0 4) ||| (sk_shl (1 : Int32) p1))) (fun N30 => if sk_in (N30 0 13) 10 then sk_let (sk_up N30 8 ((N30 0 13)).toNatClampNeg p1) (fun N42 => sk_let (sk_up N42 0 13 ((N42 0 13) + (1 : Int32))) (fun N50 => (m_X1_isGood N50 p1).bind (fun r55 => (if r55 = 0 then (m_X1_fire_70 p1 (N50, (0 : Int32))) else if sk_in p1 10 then sk_let (sk_up N50 2 (p1).toNatClampNeg (0 : Int32)) (fun N67 => (m_X1_fire_70 p1 (N67, (0 : Int32)))) else none)))) else none) else (some S0)) else (some S0)))
/-! PulseClocks$Network.fireRipeClocks()V -/
def m_X1_fireRipeClocks_2_step (k2 : (sk_N × Int32) → Option (sk_N)) (s2 : sk_N × Int32) : Option (sk_N) := (if (s2.1 0 0) ≤ s2.2 then (some s2.1) else (m_X1_isGood s2.1 s2.2).bind (fun r12 => (if r12 = 0 then (k2 (s2.1, (s2.2 + (1 : Int32)))) else if sk_in s2.2 10 then (if ((s2.1 2) (s2.2).toNatClampNeg) < (s2.1 0 1) then (k2 (s2.1, (s2.2 + (1 : Int32)))) else (m_X1_fire s2.1 s2.2).bind (fun r33 => (k2 (r33, (s2.2 + (1 : Int32)))))) else none)))
def m_X1_fireRipeClocks_2 (s2 : sk_N × Int32) : Option (sk_N) := sk_lp (m_X1_fireRipeClocks_2_step) sk_fuel s2
def m_X1_fireRipeClocks (S0 : sk_N) : Option (sk_N) := (m_X1_fireRipeClocks_2 (S0, (0 : Int32)))
/-! PulseClocks$Network.fireBlinkers()V -/
def m_X1_fireBlinkers_2_step (k2 : (sk_N × Int32) → Option (sk_N)) (s2 : sk_N × Int32) : Option (sk_N) := (if (s2.1 0 0) ≤ s2.2 then (some s2.1) else if sk_in s2.2 10 then sk_let ((s2.1 4) (s2.2).toNatClampNeg) (fun x16 => (if x16 = 0 then (k2 (s2.1, (s2.2 + (1 : Int32)))) else if sk_in s2.2 10 then if x16 = 0 then none else (if (sk_rem ((s2.1 0 3) + ((s2.1 5) (s2.2).toNatClampNeg)) x16) = 0 then (m_X1_fire s2.1 s2.2).bind (fun r39 => (k2 (r39, (s2.2 + (1 : Int32))))) else (k2 (s2.1, (s2.2 + (1 : Int32))))) else none)) else none)
def m_X1_fireBlinkers_2 (s2 : sk_N × Int32) : Option (sk_N) := sk_lp (m_X1_fireBlinkers_2_step) sk_fuel s2
def m_X1_fireBlinkers (S0 : sk_N) : Option (sk_N) := (m_X1_fireBlinkers_2 (S0, (0 : Int32)))
/-! PulseClocks$Network.movedBy(I)I -/
def m_X1_movedBy (S0 : sk_N) (p1 : Int32) : Option (Int32) := if sk_in (1 : Int32) 3 then sk_let ((S0 1) ((1 : Int32)).toNatClampNeg) (fun x6 => sk_let ((16 : Int32) * (S0 0 1)) (fun x14 => if sk_in (2 : Int32) 3 then (if ((S0 1) ((2 : Int32)).toNatClampNeg) = (0 : Int32) then if (16 : Int32) = 0 then none else (some (p1 + ((p1 * x6) / (16 : Int32)))) else (if ((S0 1) ((2 : Int32)).toNatClampNeg) = (1 : Int32) then (some (p1 + x6)) else (if x14 = 0 then (some p1) else if x14 = 0 then none else (some (p1 + (((p1 * p1) * x6) / x14)))))) else none)) else none
/-! PulseClocks$Network.reach(I)V -/
def m_X1_reach (S0 : sk_N) (p1 : Int32) : Option (sk_N) := (m_X1_isGood S0 p1).bind (fun r2 => (if r2 = 0 then (some S0) else (m_X1_hasFired S0 p1).bind (fun r10 => (if r10 = 0 then if sk_in p1 10 then if sk_in (0 : Int32) 3 then (if ((S0 1) ((0 : Int32)).toNatClampNeg) ≤ ((S0 2) (p1).toNatClampNeg) then if sk_in p1 10 then (m_X1_movedBy S0 ((S0 2) (p1).toNatClampNeg)).bind (fun r44 => if sk_in p1 10 then sk_let (sk_up S0 2 (p1).toNatClampNeg r44) (fun N47 => if sk_in p1 10 then (if ((N47 2) (p1).toNatClampNeg) < (N47 0 1) then (some N47) else (m_X1_fire N47 p1).bind (fun r63 => (some r63))) else none) else none) else none else (some S0)) else none else none else (some S0)))))
/-! PulseClocks$Network.deliverDelayedPulses()V -/
def m_X1_deliverDelayedPulses_42_step (k10 : (sk_N × Int32 × Int32) → Option (sk_N)) (k42 : (sk_N × Int32 × Int32 × Int32 × Int32) → Option (sk_N)) (s42 : sk_N × Int32 × Int32 × Int32 × Int32) : Option (sk_N) := (if s42.2.2.2.1 ≤ s42.2.2.2.2 then (k10 (s42.1, s42.2.1, (s42.2.2.1 + (1 : Int32)))) else (m_X1_reach s42.1 s42.2.2.1).bind (fun r50 => (k42 (r50, s42.2.1, s42.2.2.1, s42.2.2.2.1, (s42.2.2.2.2 + (1 : Int32))))))
def m_X1_deliverDelayedPulses_42 (k10 : (sk_N × Int32 × Int32) → Option (sk_N)) (s42 : sk_N × Int32 × Int32 × Int32 × Int32) : Option (sk_N) := sk_lp (m_X1_deliverDelayedPulses_42_step k10) sk_fuel s42
def m_X1_deliverDelayedPulses_10_step (k10 : (sk_N × Int32 × Int32) → Option (sk_N)) (s10 : sk_N × Int32 × Int32) : Option (sk_N) := (if (s10.1 0 0) ≤ s10.2.2 then (some s10.1) else if sk_in (s10.2.1 + s10.2.2) 160 then (m_J6_bitCount_0f7a4 ((s10.1 7) ((s10.2.1 + s10.2.2)).toNatClampNeg)).bind (fun r26 => if sk_in (s10.2.1 + s10.2.2) 160 then sk_let (sk_up s10.1 7 ((s10.2.1 + s10.2.2)).toNatClampNeg (0 : Int32)) (fun N38 => (m_X1_deliverDelayedPulses_42 k10 (N38, s10.2.1, s10.2.2, r26, (0 : Int32)))) else none) else none)
def m_X1_deliverDelayedPulses_10 (s10 : sk_N × Int32 × Int32) : Option (sk_N) := sk_lp (m_X1_deliverDelayedPulses_10_step) sk_fuel s10
def m_X1_deliverDelayedPulses (S0 : sk_N) : Option (sk_N) := (m_X1_slotOf (S0 0 3)).bind (fun r4 => (m_X1_deliverDelayedPulses_10 (S0, r4, (0 : Int32))))
/-! PulseClocks$Network.deliverPulsesAtOnce()V -/
def m_X1_deliverPulsesAtOnce_21_step (k2 : (sk_N × Int32) → Option (sk_N)) (k21 : (sk_N × Int32 × Int32) → Option (sk_N)) (s21 : sk_N × Int32 × Int32) : Option (sk_N) := (if (s21.1 0 0) ≤ s21.2.2 then (k2 (s21.1, (s21.2.1 + (1 : Int32)))) else if sk_in s21.2.1 10 then (m_X1_delayBetween s21.1 ((s21.1 8) (s21.2.1).toNatClampNeg) s21.2.2).bind (fun r37 => (if r37 = 0 then (m_X1_reach s21.1 s21.2.2).bind (fun r45 => (k21 (r45, s21.2.1, (s21.2.2 + (1 : Int32))))) else (k21 (s21.1, s21.2.1, (s21.2.2 + (1 : Int32)))))) else none)
def m_X1_deliverPulsesAtOnce_21 (k2 : (sk_N × Int32) → Option (sk_N)) (s21 : sk_N × Int32 × Int32) : Option (sk_N) := sk_lp (m_X1_deliverPulsesAtOnce_21_step k2) sk_fuel s21
def m_X1_deliverPulsesAtOnce_2_step (k2 : (sk_N × Int32) → Option (sk_N)) (s2 : sk_N × Int32) : Option (sk_N) := (if (10 : Int32) ≤ s2.2 then (some s2.1) else (if (s2.1 0 13) ≤ s2.2 then (some s2.1) else (m_X1_deliverPulsesAtOnce_21 k2 (s2.1, s2.2, (0 : Int32)))))
def m_X1_deliverPulsesAtOnce_2 (s2 : sk_N × Int32) : Option (sk_N) := sk_lp (m_X1_deliverPulsesAtOnce_2_step) sk_fuel s2
def m_X1_deliverPulsesAtOnce (S0 : sk_N) : Option (sk_N) := (m_X1_deliverPulsesAtOnce_2 (S0, (0 : Int32)))
/-! PulseClocks$Network.noteFires()V -/
def m_X1_noteFires_2_step (S0 : sk_N) (k2 : (sk_N × Int32) → Option (sk_N)) (s2 : sk_N × Int32) : Option (sk_N) := (if (10 : Int32) ≤ s2.2 then (some s2.1) else (if (S0 0 13) ≤ s2.2 then (some s2.1) else if sk_in s2.2 10 then (m_X0_note s2.1 (S0 0 3) ((S0 8) (s2.2).toNatClampNeg)).bind (fun r33 => (k2 (r33, (s2.2 + (1 : Int32))))) else none))
def m_X1_noteFires_2 (S0 : sk_N) (s2 : sk_N × Int32) : Option (sk_N) := sk_lp (m_X1_noteFires_2_step S0) sk_fuel s2
def m_X1_noteFires (S0 : sk_N) (S1 : sk_N) : Option (sk_N) := (m_X1_noteFires_2 S0 (S1, (0 : Int32)))
/-! PulseClocks$Network.passTicks(I)I -/
def m_X1_passTicks_4_step (p1 : Int32) (k4 : (sk_N × sk_N × Int32 × Int32) → Option (Int32 × sk_N × sk_N)) (s4 : sk_N × sk_N × Int32 × Int32) : Option (Int32 × sk_N × sk_N) := (if p1 ≤ s4.2.2.2 then (some (s4.2.2.1, s4.1, s4.2.1)) else sk_let (sk_up s4.1 0 3 ((s4.1 0 3) + (1 : Int32))) (fun N16 => sk_let (sk_up N16 0 4 (0 : Int32)) (fun N21 => sk_let (sk_up N21 0 13 (0 : Int32)) (fun N26 => (m_X1_advancePhases N26).bind (fun r30 => (m_X1_fireRipeClocks r30).bind (fun r34 => (m_X1_fireBlinkers r34).bind (fun r38 => (m_X1_deliverDelayedPulses r38).bind (fun r42 => (m_X1_deliverPulsesAtOnce r42).bind (fun r46 => (m_X1_noteFires r46 s4.2.1).bind (fun r50 => sk_let (s4.2.2.1 + (r46 0 13)) (fun x59 => (k4 (r46, r50, x59, (s4.2.2.2 + (1 : Int32)))))))))))))))
def m_X1_passTicks_4 (p1 : Int32) (s4 : sk_N × sk_N × Int32 × Int32) : Option (Int32 × sk_N × sk_N) := sk_lp (m_X1_passTicks_4_step p1) sk_fuel s4
def m_X1_passTicks (S0 : sk_N) (S1 : sk_N) (p1 : Int32) : Option (Int32 × sk_N × sk_N) := (m_X1_passTicks_4 p1 (S0, S1, (0 : Int32), (0 : Int32)))
/-! PulseClocks$Network.about(II)I -/
def m_X1_about (S0 : sk_N) (p1 : Int32) (p2 : Int32) : Option (Int32) := (if p2 = (0 : Int32) then if sk_in p1 10 then (some ((S0 2) (p1).toNatClampNeg)) else none else (if p2 = (1 : Int32) then if sk_in p1 10 then (some ((S0 3) (p1).toNatClampNeg)) else none else (if p2 = (2 : Int32) then (m_X1_isGood S0 p1).bind (fun r56 => (if r56 = 0 then (some (1 : Int32)) else (some (0 : Int32)))) else (if p2 = (3 : Int32) then (m_X1_isGood S0 p1).bind (fun r70 => (if r70 = 0 then if sk_in p1 10 then (some ((S0 4) (p1).toNatClampNeg)) else none else (some (-1 : Int32)))) else (if p2 = (4 : Int32) then (m_X1_isGood S0 p1).bind (fun r89 => (if r89 = 0 then if sk_in p1 10 then (some ((S0 5) (p1).toNatClampNeg)) else none else (some (-1 : Int32)))) else (if p2 = (5 : Int32) then (m_X1_neighboursOf S0 p1).bind (fun r108 => (m_J6_bitCount_0f7a4 r108).bind (fun r111 => (some r111))) else (m_X1_pulsesTo S0 p1).bind (fun r117 => (some r117))))))))
/-! PulseClocks$Network.goodClocksAt(I)I -/
def m_X1_goodClocksAt_4_step (S0 : sk_N) (p1 : Int32) (k4 : (Int32 × Int32) → Option (Int32)) (s4 : Int32 × Int32) : Option (Int32) := (if (S0 0 0) ≤ s4.2 then (some s4.1) else (m_X1_isGood S0 s4.2).bind (fun r14 => (if r14 = 0 then (k4 (s4.1, (s4.2 + (1 : Int32)))) else if sk_in s4.2 10 then (if ((S0 2) (s4.2).toNatClampNeg) = p1 then sk_let (s4.1 ||| (sk_shl (1 : Int32) s4.2)) (fun x35 => (k4 (x35, (s4.2 + (1 : Int32))))) else (k4 (s4.1, (s4.2 + (1 : Int32))))) else none)))
def m_X1_goodClocksAt_4 (S0 : sk_N) (p1 : Int32) (s4 : Int32 × Int32) : Option (Int32) := sk_lp (m_X1_goodClocksAt_4_step S0 p1) sk_fuel s4
def m_X1_goodClocksAt (S0 : sk_N) (p1 : Int32) : Option (Int32) := (m_X1_goodClocksAt_4 S0 p1 ((0 : Int32), (0 : Int32)))
/-! PulseClocks$Network.changeDrift(II)I -/
def m_X1_changeDrift (S0 : sk_N) (p1 : Int32) (p2 : Int32) : Option (Int32 × sk_N) := if sk_in p1 10 then sk_let ((S0 3) (p1).toNatClampNeg) (fun x6 => if sk_in p1 10 then sk_let (sk_up S0 3 (p1).toNatClampNeg p2) (fun N13 => (some (x6, N13))) else none) else none
/-! PulseClocks$Network.blinkerCount()I -/
def m_X1_blinkerCount_4_step (S0 : sk_N) (k4 : (Int32 × Int32) → Option (Int32)) (s4 : Int32 × Int32) : Option (Int32) := (if (S0 0 0) ≤ s4.2 then (some s4.1) else (m_X1_isGood S0 s4.2).bind (fun r14 => (if r14 = 0 then (k4 ((s4.1 + (1 : Int32)), (s4.2 + (1 : Int32)))) else (k4 (s4.1, (s4.2 + (1 : Int32)))))))
def m_X1_blinkerCount_4 (S0 : sk_N) (s4 : Int32 × Int32) : Option (Int32) := sk_lp (m_X1_blinkerCount_4_step S0) sk_fuel s4
def m_X1_blinkerCount (S0 : sk_N) : Option (Int32) := (m_X1_blinkerCount_4 S0 ((0 : Int32), (0 : Int32)))
/-! PulseClocks$Network.makeGood(I)V -/
def m_X1_makeGood (S0 : sk_N) (p1 : Int32) : Option (sk_N) := if sk_in p1 10 then sk_let (sk_up S0 4 (p1).toNatClampNeg (0 : Int32)) (fun N6 => if sk_in p1 10 then sk_let (sk_up N6 5 (p1).toNatClampNeg (0 : Int32)) (fun N13 => (some N13)) else none) else none
/-! PulseClocks$Network.linkCount()I -/
def m_X1_linkCount_4_step (S0 : sk_N) (k4 : (Int32 × Int32) → Option (Int32)) (s4 : Int32 × Int32) : Option (Int32) := (if (S0 0 0) ≤ s4.2 then if (2 : Int32) = 0 then none else (some (s4.1 / (2 : Int32))) else (m_X1_neighboursOf S0 s4.2).bind (fun r15 => (m_J6_bitCount_0f7a4 r15).bind (fun r18 => sk_let (s4.1 + r18) (fun x22 => (k4 (x22, (s4.2 + (1 : Int32))))))))
def m_X1_linkCount_4 (S0 : sk_N) (s4 : Int32 × Int32) : Option (Int32) := sk_lp (m_X1_linkCount_4_step S0) sk_fuel s4
def m_X1_linkCount (S0 : sk_N) : Option (Int32) := (m_X1_linkCount_4 S0 ((0 : Int32), (0 : Int32)))
/-! PulseClocks$Network.changePeriod(I)I -/
def m_X1_changePeriod_16_step (p1 : Int32) (k16 : (sk_N × Int32 × Int32) → Option (Int32 × sk_N)) (s16 : sk_N × Int32 × Int32) : Option (Int32 × sk_N) := (if (s16.1 0 0) ≤ s16.2.2 then (some (s16.2.1, s16.1)) else if sk_in s16.2.2 10 then if p1 = 0 then none else if sk_in s16.2.2 10 then sk_let (sk_up s16.1 2 (s16.2.2).toNatClampNeg (sk_rem ((s16.1 2) (s16.2.2).toNatClampNeg) p1)) (fun N33 => (k16 (N33, s16.2.1, (s16.2.2 + (1 : Int32))))) else none else none)
def m_X1_changePeriod_16 (p1 : Int32) (s16 : sk_N × Int32 × Int32) : Option (Int32 × sk_N) := sk_lp (m_X1_changePeriod_16_step p1) sk_fuel s16
def m_X1_changePeriod (S0 : sk_N) (p1 : Int32) : Option (Int32 × sk_N) := sk_let (S0 0 1) (fun x4 => (if p1 ≤ 0 then (some (x4, S0)) else sk_let (sk_up S0 0 1 p1) (fun N11 => (m_X1_changePeriod_16 p1 (N11, x4, (0 : Int32))))))
/-! PulseClocks$Network.changeResponse(II)I -/
def m_X1_changeResponse (S0 : sk_N) (p1 : Int32) (p2 : Int32) : Option (Int32 × sk_N) := if sk_in p1 3 then sk_let ((S0 1) (p1).toNatClampNeg) (fun x6 => if sk_in p1 3 then sk_let (sk_up S0 1 (p1).toNatClampNeg p2) (fun N13 => (some (x6, N13))) else none) else none
/-! PulseClocks$Network.linksFromTo(II)I -/
def m_X1_linksFromTo_7_step (S0 : sk_N) (p1 : Int32) (p2 : Int32) (k7 : (Int32 × Int32) → Option (Int32)) (s7 : Int32 × Int32) : Option (Int32) := (if (S0 0 0) ≤ s7.2 then (some (-1 : Int32)) else (if (s7.1 &&& (sk_shl (1 : Int32) p2)) = 0 then (m_X1_withNeighbours S0 s7.1).bind (fun r29 => (k7 (r29, (s7.2 + (1 : Int32))))) else (some s7.2)))
def m_X1_linksFromTo_7 (S0 : sk_N) (p1 : Int32) (p2 : Int32) (s7 : Int32 × Int32) : Option (Int32) := sk_lp (m_X1_linksFromTo_7_step S0 p1 p2) sk_fuel s7
def m_X1_linksFromTo (S0 : sk_N) (p1 : Int32) (p2 : Int32) : Option (Int32) := sk_let (sk_shl (1 : Int32) p1) (fun x3 => (m_X1_linksFromTo_7 S0 p1 p2 (x3, (0 : Int32))))
/-! PulseClocks$Network.phaseOfGroup(I)I -/
def m_X1_phaseOfGroup_4_step (S0 : sk_N) (p1 : Int32) (k4 : (Int32 × Int32) → Option (Int32)) (s4 : Int32 × Int32) : Option (Int32) := (if (S0 0 1) ≤ s4.2 then (some (-1 : Int32)) else (m_X1_goodClocksAt S0 s4.2).bind (fun r14 => (if r14 = 0 then (k4 (s4.1, (s4.2 + (1 : Int32)))) else (if s4.1 = p1 then (some s4.2) else (k4 ((s4.1 + (1 : Int32)), (s4.2 + (1 : Int32))))))))
def m_X1_phaseOfGroup_4 (S0 : sk_N) (p1 : Int32) (s4 : Int32 × Int32) : Option (Int32) := sk_lp (m_X1_phaseOfGroup_4_step S0 p1) sk_fuel s4
def m_X1_phaseOfGroup (S0 : sk_N) (p1 : Int32) : Option (Int32) := (m_X1_phaseOfGroup_4 S0 p1 ((0 : Int32), (0 : Int32)))
/-! PulseClocks$Network.numberOfGroup(I)I -/
def m_X1_numberOfGroup_14_step (S0 : sk_N) (p1 : Int32) (k14 : (Int32 × Int32) → Option (Int32)) (s14 : Int32 × Int32) : Option (Int32) := if sk_in p1 10 then (if ((S0 2) (p1).toNatClampNeg) ≤ s14.2 then (some s14.1) else (m_X1_goodClocksAt S0 s14.2).bind (fun r26 => (if r26 = 0 then (k14 (s14.1, (s14.2 + (1 : Int32)))) else (k14 ((s14.1 + (1 : Int32)), (s14.2 + (1 : Int32))))))) else none
def m_X1_numberOfGroup_14 (S0 : sk_N) (p1 : Int32) (s14 : Int32 × Int32) : Option (Int32) := sk_lp (m_X1_numberOfGroup_14_step S0 p1) sk_fuel s14
def m_X1_numberOfGroup (S0 : sk_N) (p1 : Int32) : Option (Int32) := (m_X1_isGood S0 p1).bind (fun r2 => (if r2 = 0 then (some (-1 : Int32)) else (m_X1_numberOfGroup_14 S0 p1 ((0 : Int32), (0 : Int32)))))
/-! PulseClocks$Network.passUntilGroups(II)I -/
def m_X1_passUntilGroups_2_step (p1 : Int32) (p2 : Int32) (k2 : (sk_N × sk_N × Int32) → Option (Int32 × sk_N × sk_N)) (s2 : sk_N × sk_N × Int32) : Option (Int32 × sk_N × sk_N) := (if p2 < s2.2.2 then (some ((-1 : Int32), s2.1, s2.2.1)) else (m_X1_passTicks s2.1 s2.2.1 (1 : Int32)).bind (fun r9 => (m_X1_groupCount r9.2.1 p1).bind (fun r15 => (if p1 < r15 then (k2 (r9.2.1, r9.2.2, (s2.2.2 + (1 : Int32)))) else (some (s2.2.2, r9.2.1, r9.2.2))))))
def m_X1_passUntilGroups_2 (p1 : Int32) (p2 : Int32) (s2 : sk_N × sk_N × Int32) : Option (Int32 × sk_N × sk_N) := sk_lp (m_X1_passUntilGroups_2_step p1 p2) sk_fuel s2
def m_X1_passUntilGroups (S0 : sk_N) (S1 : sk_N) (p1 : Int32) (p2 : Int32) : Option (Int32 × sk_N × sk_N) := (m_X1_passUntilGroups_2 p1 p2 (S0, S1, (1 : Int32)))
/-! PulseClocks$Network.hasSamePulses(LPulseClocks$Network;)Z -/
def m_X1_hasSamePulses_32_step (S0 : sk_N) (S1 : sk_N) (k2 : (Int32) → Option (Int32)) (k32 : (Int32 × Int32 × Int32 × Int32) → Option (Int32)) (s32 : Int32 × Int32 × Int32 × Int32) : Option (Int32) := (if (S0 0 0) ≤ s32.2.2.2 then (k2 (s32.1 + (1 : Int32))) else if sk_in (s32.2.1 + s32.2.2.2) 160 then if sk_in (s32.2.2.1 + s32.2.2.2) 160 then (if ((S0 7) ((s32.2.1 + s32.2.2.2)).toNatClampNeg) = ((S1 7) ((s32.2.2.1 + s32.2.2.2)).toNatClampNeg) then (k32 (s32.1, s32.2.1, s32.2.2.1, (s32.2.2.2 + (1 : Int32)))) else (some (0 : Int32))) else none else none)
def m_X1_hasSamePulses_32 (S0 : sk_N) (S1 : sk_N) (k2 : (Int32) → Option (Int32)) (s32 : Int32 × Int32 × Int32 × Int32) : Option (Int32) := sk_lp (m_X1_hasSamePulses_32_step S0 S1 k2) sk_fuel s32
def m_X1_hasSamePulses_2_step (S0 : sk_N) (S1 : sk_N) (k2 : (Int32) → Option (Int32)) (s2 : Int32) : Option (Int32) := (if (9 : Int32) < s2 then (some (1 : Int32)) else (m_X1_slotOf ((S0 0 3) + s2)).bind (fun r14 => (m_X1_slotOf ((S1 0 3) + s2)).bind (fun r24 => (m_X1_hasSamePulses_32 S0 S1 k2 (s2, r14, r24, (0 : Int32))))))
def m_X1_hasSamePulses_2 (S0 : sk_N) (S1 : sk_N) (s2 : Int32) : Option (Int32) := sk_lp (m_X1_hasSamePulses_2_step S0 S1) sk_fuel s2
def m_X1_hasSamePulses (S0 : sk_N) (S1 : sk_N) : Option (Int32) := (m_X1_hasSamePulses_2 S0 S1 (1 : Int32))
/-! PulseClocks$Network.isAlike(LPulseClocks$Network;)Z -/
def m_X1_isAlike_43 (S0 : sk_N) (S1 : sk_N) (k12 : (Int32 × Int32) → Option (Int32)) (s43 : Int32 × Int32 × Int32) : Option (Int32) := if sk_in s43.2.1 10 then if sk_in s43.2.1 10 then (if ((S0 2) (s43.2.1).toNatClampNeg) = ((S1 2) (s43.2.1).toNatClampNeg) then (if s43.2.2 = 0 then (k12 (s43.1, (s43.2.1 + (1 : Int32)))) else if s43.2.2 = 0 then none else (if (sk_rem s43.1 s43.2.2) = 0 then (k12 (s43.1, (s43.2.1 + (1 : Int32)))) else (some (0 : Int32)))) else (some (0 : Int32))) else none else none
def m_X1_isAlike_12_step (S0 : sk_N) (S1 : sk_N) (k12 : (Int32 × Int32) → Option (Int32)) (s12 : Int32 × Int32) : Option (Int32) := (if (S0 0 0) ≤ s12.2 then (m_X1_hasSamePulses S0 S1).bind (fun r82 => (if sk_bl r82 then some r82 else none)) else (m_X1_isGood S0 s12.2).bind (fun r22 => (if r22 = 0 then if sk_in s12.2 10 then (m_X1_isAlike_43 S0 S1 k12 (s12.1, s12.2, ((S0 4) (s12.2).toNatClampNeg))) else none else if sk_in s12.2 10 then (m_X1_isAlike_43 S0 S1 k12 (s12.1, s12.2, ((S0 3) (s12.2).toNatClampNeg))) else none)))
def m_X1_isAlike_12 (S0 : sk_N) (S1 : sk_N) (s12 : Int32 × Int32) : Option (Int32) := sk_lp (m_X1_isAlike_12_step S0 S1) sk_fuel s12
def m_X1_isAlike (S0 : sk_N) (S1 : sk_N) : Option (Int32) := sk_let ((S0 0 3) - (S1 0 3)) (fun x9 => (m_X1_isAlike_12 S0 S1 (x9, (0 : Int32))))
/-! PulseClocks$Script.here()I -/
def m_X3_here (S0 : sk_N) : Option (Int32) := (if (S0 0 0) ≤ (S0 0 1) then (some (-1 : Int32)) else if sk_in (S0 0 1) 100 then (some ((S0 1) ((S0 0 1)).toNatClampNeg)) else none)
/-! PulseClocks$Script.numbersBehind(I)I -/
def m_X3_numbersBehind (p1 : Int32) : Option (Int32) := (if p1 = (97 : Int32) then (some (1 : Int32)) else (if p1 = (98 : Int32) then (some (3 : Int32)) else (if p1 = (108 : Int32) then (some (3 : Int32)) else (if p1 = (112 : Int32) then (some (2 : Int32)) else (if p1 = (116 : Int32) then (some (1 : Int32)) else (some (0 : Int32)))))))
/-! PulseClocks$Script.isDigit(I)Z -/
def m_X3_isDigit (p1 : Int32) : Option (Int32) := (if p1 < (48 : Int32) then (some (0 : Int32)) else (if (57 : Int32) < p1 then (some (0 : Int32)) else (some (1 : Int32))))
/-! PulseClocks$Script.readNumber(I)Z -/
def m_X3_readNumber_63 (p1 : Int32) (s63 : sk_N × Int32) : Option (Int32 × sk_N) := if sk_in (((s63.1 0 2) * (3 : Int32)) + p1) 102 then sk_let (sk_up s63.1 3 ((((s63.1 0 2) * (3 : Int32)) + p1)).toNatClampNeg s63.2) (fun N76 => (some ((1 : Int32), N76))) else none
def m_X3_readNumber (S0 : sk_N) (p1 : Int32) : Option (Int32 × sk_N) := (m_X3_here S0).bind (fun r1 => (m_X3_isDigit r1).bind (fun r4 => (if r4 = 0 then (some ((0 : Int32), S0)) else (m_X3_here S0).bind (fun r13 => sk_let (r13 - (48 : Int32)) (fun x19 => sk_let (sk_up S0 0 1 ((S0 0 1) + (1 : Int32))) (fun N27 => (m_X3_here N27).bind (fun r31 => (m_X3_isDigit r31).bind (fun r34 => (if r34 = 0 then (m_X3_readNumber_63 p1 (N27, x19)) else (m_X3_here N27).bind (fun r45 => sk_let ((((10 : Int32) * x19) + r45) - (48 : Int32)) (fun x52 => sk_let (sk_up N27 0 1 ((N27 0 1) + (1 : Int32))) (fun N60 => (m_X3_readNumber_63 p1 (N60, x52))))))))))))))
/-! PulseClocks$Script.readSign(I)Z -/
def m_X3_readSign (S0 : sk_N) (p1 : Int32) : Option (Int32 × sk_N) := (m_X3_here S0).bind (fun r1 => (if r1 = p1 then sk_let (sk_up S0 0 1 ((S0 0 1) + (1 : Int32))) (fun N17 => (some ((1 : Int32), N17))) else (some ((0 : Int32), S0))))
/-! PulseClocks$Script.readCommand()Z -/
def m_X3_readCommand_66 (k38 : (sk_N × Int32 × Int32) → Option (Int32 × sk_N)) (s66 : sk_N × Int32 × Int32 × Int32) : Option (Int32 × sk_N) := (m_X3_readSign s66.1 s66.2.2.2).bind (fun r66 => (if r66.1 = 0 then (some ((0 : Int32), r66.2)) else (k38 (r66.2, s66.2.1, (s66.2.2.1 + (1 : Int32))))))
def m_X3_readCommand_38_step (k38 : (sk_N × Int32 × Int32) → Option (Int32 × sk_N)) (s38 : sk_N × Int32 × Int32) : Option (Int32 × sk_N) := (if s38.2.1 ≤ s38.2.2 then sk_let (sk_up s38.1 0 2 ((s38.1 0 2) + (1 : Int32))) (fun N87 => (some ((1 : Int32), N87))) else (m_X3_readNumber s38.1 s38.2.2).bind (fun r45 => (if r45.1 = 0 then (some ((0 : Int32), r45.2)) else (if s38.2.1 ≤ (s38.2.2 + (1 : Int32)) then (m_X3_readCommand_66 k38 (r45.2, s38.2.1, s38.2.2, (59 : Int32))) else (m_X3_readCommand_66 k38 (r45.2, s38.2.1, s38.2.2, (44 : Int32)))))))
def m_X3_readCommand_38 (s38 : sk_N × Int32 × Int32) : Option (Int32 × sk_N) := sk_lp (m_X3_readCommand_38_step) sk_fuel s38
def m_X3_readCommand (S0 : sk_N) : Option (Int32 × sk_N) := (m_X3_here S0).bind (fun r1 => (m_X3_numbersBehind r1).bind (fun r6 => (if r6 = 0 then (some ((0 : Int32), S0)) else sk_let (sk_up S0 0 1 ((S0 0 1) + (1 : Int32))) (fun N23 => if sk_in (N23 0 2) 34 then sk_let (sk_up N23 2 ((N23 0 2)).toNatClampNeg r1) (fun N35 => (m_X3_readCommand_38 (N35, r6, (0 : Int32)))) else none))))
/-! PulseClocks$Script.parse()Z -/
def m_X3_parse_12_step (k12 : (sk_N × Int32) → Option (Int32 × sk_N)) (s12 : sk_N × Int32) : Option (Int32 × sk_N) := (if (34 : Int32) ≤ s12.2 then (some ((1 : Int32), s12.1)) else (if (s12.1 0 0) ≤ (s12.1 0 1) then (some ((1 : Int32), s12.1)) else (m_X3_readCommand s12.1).bind (fun r30 => (if r30.1 = 0 then (some ((0 : Int32), r30.2)) else (k12 (r30.2, (s12.2 + (1 : Int32))))))))
def m_X3_parse_12 (s12 : sk_N × Int32) : Option (Int32 × sk_N) := sk_lp (m_X3_parse_12_step) sk_fuel s12
def m_X3_parse (S0 : sk_N) : Option (Int32 × sk_N) := sk_let (sk_up S0 0 1 (0 : Int32)) (fun N2 => sk_let (sk_up N2 0 2 (0 : Int32)) (fun N7 => (m_X3_parse_12 (N7, (0 : Int32)))))
/-! PulseClocks$Script.numberOf(II)I -/
def m_X3_numberOf (S0 : sk_N) (p1 : Int32) (p2 : Int32) : Option (Int32) := if sk_in ((p1 * (3 : Int32)) + p2) 102 then (some ((S0 3) (((p1 * (3 : Int32)) + p2)).toNatClampNeg)) else none
/-! PulseClocks$Script.letterOf(I)I -/
def m_X3_letterOf (S0 : sk_N) (p1 : Int32) : Option (Int32) := if sk_in p1 34 then (some ((S0 2) (p1).toNatClampNeg)) else none
/-! PulseClocks$Script.isFull()Z -/
def m_X3_isFull (S0 : sk_N) : Option (Int32) := (if (S0 0 0) < (100 : Int32) then (some (0 : Int32)) else (some (1 : Int32)))
/-! PulseClocks$Script.put(I)V -/
def m_X3_put (S0 : sk_N) (p1 : Int32) : Option (sk_N) := if sk_in (S0 0 0) 100 then sk_let (sk_up S0 1 ((S0 0 0)).toNatClampNeg (vp_nar .byte (p1).toInt8.toInt32)) (fun N10 => sk_let (sk_up N10 0 0 ((N10 0 0) + (1 : Int32))) (fun N18 => (some N18))) else none
