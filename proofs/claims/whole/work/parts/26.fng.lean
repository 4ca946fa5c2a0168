-- functions of the methods and their contracts, by program (wip/whole/dec.py): X10_met X10_valueOf X10_value X10_byOf X10_by X10_minutesOf X10_findBest X10_best X10_most X10_greedy X10_next X10_spare X10_minutesFor X10_placeOf X10_leaves X10_queue X10_skip X10_ith X10_learns X10_learn
def FX10_met (a1 : Int32) (a2 : Int32) (h : HI) : Option (Int32 × HI) :=
  Option.bind (FX10_isWant a1 h) fun r1 =>
  if r1 = 0 then
    Option.bind (FX10_finds (-1000000001) h) fun (r2, h3) =>
    some (r2, h3)
  else
    Option.bind (FX10_isSet a2 h) fun r4 =>
    if r4 = 0 then
      Option.bind (FX10_finds (-1000000001) h) fun (r8, h9) =>
      some (r8, h9)
    else
      Option.bind (FX10_hasRope a2 h) fun r5 =>
      Option.bind (FX10_hasMending a2 h) fun r6 =>
      Option.bind (FX10_metOf a1 a2 r5 r6 h) fun r7 =>
      some (r7, h)
set_option maxRecDepth 100000 in
set_option maxHeartbeats 4000000 in
theorem CX10_met (a1 : Int32) (a2 : Int32) (h : HI) (L : HL) : CG mX10_met 4 [aR 8 32, aI a1, aI a2] h L (lfIH L) (FX10_met a1 a2 h) := by
  unfold FX10_met
  refine cg_of [some (aR 8 32), some (aI a1), some (aI a2)] rfl (by decide) rfl rfl (fun T => ?_)
  refine g_aload_n (M := mX10_met) (pc := 0) 1 dX10_met_0 rfl rfl rfl ?_
  refine g_iload_n (M := mX10_met) (pc := 1) 2 dX10_met_1 rfl rfl rfl ?_
  refine g_cV_I (M := mX10_met) (pc := 2) (M' := mX10_isWant) (rest := []) 5 dX10_met_2 rfl kX10_100 okX10_isWant (CX10_isWant a1 h L) oO32 rfl rfl rfl rfl (fun r1 => ?_)
  refine g_if_eq (M := mX10_met) (pc := 5) 16 8 dX10_met_5 (by decide) rfl (fun _ => ?_) (fun _ => ?_)
  · refine g_aload_n (M := mX10_met) (pc := 16) 17 dX10_met_16 rfl rfl rfl ?_
    refine g_ldc (M := mX10_met) (pc := 17) 19 dX10_met_17 rfl cX10_44 ?_
    refine g_cV_IH (M := mX10_met) (pc := 19) (M' := mX10_finds) (rest := []) 22 dX10_met_19 rfl kX10_67 okX10_finds (CX10_finds (-1000000001) h L) oO32 rfl rfl rfl rfl (fun r2 h3 => ?_)
    exact g_iret (M := mX10_met) (pc := 22) dX10_met_22 rfl rfl (fun z => z)
  · refine g_aload_n (M := mX10_met) (pc := 8) 9 dX10_met_8 rfl rfl rfl ?_
    refine g_iload_n (M := mX10_met) (pc := 9) 10 dX10_met_9 rfl rfl rfl ?_
    refine g_cV_I (M := mX10_met) (pc := 10) (M' := mX10_isSet) (rest := []) 13 dX10_met_10 rfl kX10_109 okX10_isSet (CX10_isSet a2 h L) oO32 rfl rfl rfl rfl (fun r4 => ?_)
    refine g_if_ne (M := mX10_met) (pc := 13) 23 16 dX10_met_13 (by decide) rfl (fun _ => ?_) (fun _ => ?_)
    · refine g_aload_n (M := mX10_met) (pc := 23) 24 dX10_met_23 rfl rfl rfl ?_
      refine g_iload_n (M := mX10_met) (pc := 24) 25 dX10_met_24 rfl rfl rfl ?_
      refine g_iload_n (M := mX10_met) (pc := 25) 26 dX10_met_25 rfl rfl rfl ?_
      refine g_aload_n (M := mX10_met) (pc := 26) 27 dX10_met_26 rfl rfl rfl ?_
      refine g_iload_n (M := mX10_met) (pc := 27) 28 dX10_met_27 rfl rfl rfl ?_
      refine g_cV_I (M := mX10_met) (pc := 28) (M' := mX10_hasRope) (rest := [aI a2, aI a1, aR 8 32]) 31 dX10_met_28 rfl kX10_112 okX10_hasRope (CX10_hasRope a2 h L) oO32 rfl rfl rfl rfl (fun r5 => ?_)
      refine g_aload_n (M := mX10_met) (pc := 31) 32 dX10_met_31 rfl rfl rfl ?_
      refine g_iload_n (M := mX10_met) (pc := 32) 33 dX10_met_32 rfl rfl rfl ?_
      refine g_cV_I (M := mX10_met) (pc := 33) (M' := mX10_hasMending) (rest := [aI r5, aI a2, aI a1, aR 8 32]) 36 dX10_met_33 rfl kX10_119 okX10_hasMending (CX10_hasMending a2 h L) oO32 rfl rfl rfl rfl (fun r6 => ?_)
      refine g_cV_I (M := mX10_met) (pc := 36) (M' := mX10_metOf) (rest := []) 39 dX10_met_36 rfl kX10_122 okX10_metOf (CX10_metOf a1 a2 r5 r6 h L) oO32 rfl rfl rfl rfl (fun r7 => ?_)
      exact g_iret (M := mX10_met) (pc := 39) dX10_met_39 rfl rfl (fun z => z)
    · refine g_aload_n (M := mX10_met) (pc := 16) 17 dX10_met_16 rfl rfl rfl ?_
      refine g_ldc (M := mX10_met) (pc := 17) 19 dX10_met_17 rfl cX10_44 ?_
      refine g_cV_IH (M := mX10_met) (pc := 19) (M' := mX10_finds) (rest := []) 22 dX10_met_19 rfl kX10_67 okX10_finds (CX10_finds (-1000000001) h L) oO32 rfl rfl rfl rfl (fun r8 h9 => ?_)
      exact g_iret (M := mX10_met) (pc := 22) dX10_met_22 rfl rfl (fun z => z)
def SX10_valueOf_18 (a1 : Int32) (a2 : Int32) (a3 : Int32) (h : HI) : (Int32 × Int32) → Option ((Int32 × Int32) ⊕ (Int32))
  | (a4, a5) =>
    if (h 8 33 1) ≤ a5 then
      some (Sum.inr a4)
    else
      Option.bind (FX10_metOf a5 a1 a2 a3 h) fun r3 =>
      nm (a4 + r3) fun t4 =>
      some (Sum.inl (t4, (a5 + 1)))
def FX10_valueOf (a1 : Int32) (h : HI) : Option (Int32) :=
  Option.bind (FX10_hasRope a1 h) fun r1 =>
  Option.bind (FX10_hasMending a1 h) fun r2 =>
  Option.bind (loopN (SX10_valueOf_18 a1 r1 r2 h) FU (0, 0)) fun e5 =>
    some e5
set_option maxRecDepth 100000 in
set_option maxHeartbeats 4000000 in
theorem SX10_valueOf_18_ok (a1 : Int32) (a2 : Int32) (a3 : Int32) (h : HI) (L : HL) (T : ZT) (a4 : Int32) (a5 : Int32) : VX mX10_valueOf 4 T (gS (fun s : Int32 × Int32 => V mX10_valueOf 4 T 18 [some (aR 8 32), some (aI a1), some (aI a2), some (aI a3), some (aI (s.1)), some (aI (s.2))] [] h L) (fun s : Int32 => V mX10_valueOf 4 T 49 [none, none, none, none, some (aI s), none] [] h L)) 18 [some (aR 8 32), some (aI a1), some (aI a2), some (aI a3), some (aI a4), some (aI a5)] [] h L (SX10_valueOf_18 a1 a2 a3 h (a4, a5)) := by
  unfold SX10_valueOf_18
  refine g_iload (M := mX10_valueOf) (pc := 18) 20 dX10_valueOf_18 rfl rfl ?_
  refine g_aload_n (M := mX10_valueOf) (pc := 20) 21 dX10_valueOf_20 rfl rfl rfl ?_
  refine g_getR (M := mX10_valueOf) (pc := 21) 24 dX10_valueOf_21 rfl fX10_7 oR32_0 ?_
  refine g_iconst (M := mX10_valueOf) (pc := 24) (v := 1) 25 dX10_valueOf_24 rfl ic1 ?_
  refine g_ialdC (M := mX10_valueOf) (pc := 25) (j := 1) 26 dX10_valueOf_25 rfl oA33 rfl rfl ?_
  refine g_icmp_ge (M := mX10_valueOf) (pc := 26) 49 29 dX10_valueOf_26 (by decide) rfl (fun _ => ?_) (fun _ => ?_)
  · exact g_jmp (fun z => v_fgt [false, false, false, false, true, false] z)
  · refine g_iload (M := mX10_valueOf) (pc := 29) 31 dX10_valueOf_29 rfl rfl ?_
    refine g_aload_n (M := mX10_valueOf) (pc := 31) 32 dX10_valueOf_31 rfl rfl rfl ?_
    refine g_iload (M := mX10_valueOf) (pc := 32) 34 dX10_valueOf_32 rfl rfl ?_
    refine g_iload_n (M := mX10_valueOf) (pc := 34) 35 dX10_valueOf_34 rfl rfl rfl ?_
    refine g_iload_n (M := mX10_valueOf) (pc := 35) 36 dX10_valueOf_35 rfl rfl rfl ?_
    refine g_iload_n (M := mX10_valueOf) (pc := 36) 37 dX10_valueOf_36 rfl rfl rfl ?_
    refine g_cV_I (M := mX10_valueOf) (pc := 37) (M' := mX10_metOf) (rest := [aI a4]) 40 dX10_valueOf_37 rfl kX10_122 okX10_metOf (CX10_metOf a5 a1 a2 a3 h L) oO32 rfl rfl rfl rfl (fun r3 => ?_)
    refine g_iadd (M := mX10_valueOf) (pc := 40) 41 dX10_valueOf_40 rfl ?_
    refine g_nmI (fun t4 => ?_)
    refine g_istore (M := mX10_valueOf) (pc := 41) (ls' := [some (aR 8 32), some (aI a1), some (aI a2), some (aI a3), some (aI t4), some (aI a5)]) 43 dX10_valueOf_41 rfl rfl rfl ?_
    refine g_iinc (M := mX10_valueOf) (pc := 43) (c := 1) (ls' := [some (aR 8 32), some (aI a1), some (aI a2), some (aI a3), some (aI t4), some (aI (a5 + 1))]) 46 dX10_valueOf_43 rfl ic1 rfl rfl rfl ?_
    refine g_goto (M := mX10_valueOf) (pc := 46) 18 dX10_valueOf_46 (by decide) ?_
    exact g_jmp (fun z => v_fgt [true, true, true, true, true, true] z)
set_option maxRecDepth 100000 in
set_option maxHeartbeats 4000000 in
theorem CX10_valueOf (a1 : Int32) (h : HI) (L : HL) : CG mX10_valueOf 4 [aR 8 32, aI a1] h L (lfI h L) (FX10_valueOf a1 h) := by
  unfold FX10_valueOf
  refine cg_of [some (aR 8 32), some (aI a1), none, none, none, none] rfl (by decide) rfl rfl (fun T => ?_)
  refine g_aload_n (M := mX10_valueOf) (pc := 0) 1 dX10_valueOf_0 rfl rfl rfl ?_
  refine g_iload_n (M := mX10_valueOf) (pc := 1) 2 dX10_valueOf_1 rfl rfl rfl ?_
  refine g_cV_I (M := mX10_valueOf) (pc := 2) (M' := mX10_hasRope) (rest := []) 5 dX10_valueOf_2 rfl kX10_112 okX10_hasRope (CX10_hasRope a1 h L) oO32 rfl rfl rfl rfl (fun r1 => ?_)
  refine g_istore_n (M := mX10_valueOf) (pc := 5) (ls' := [some (aR 8 32), some (aI a1), some (aI r1), none, none, none]) 6 dX10_valueOf_5 rfl rfl rfl rfl ?_
  refine g_aload_n (M := mX10_valueOf) (pc := 6) 7 dX10_valueOf_6 rfl rfl rfl ?_
  refine g_iload_n (M := mX10_valueOf) (pc := 7) 8 dX10_valueOf_7 rfl rfl rfl ?_
  refine g_cV_I (M := mX10_valueOf) (pc := 8) (M' := mX10_hasMending) (rest := []) 11 dX10_valueOf_8 rfl kX10_119 okX10_hasMending (CX10_hasMending a1 h L) oO32 rfl rfl rfl rfl (fun r2 => ?_)
  refine g_istore_n (M := mX10_valueOf) (pc := 11) (ls' := [some (aR 8 32), some (aI a1), some (aI r1), some (aI r2), none, none]) 12 dX10_valueOf_11 rfl rfl rfl rfl ?_
  refine g_iconst (M := mX10_valueOf) (pc := 12) (v := 0) 13 dX10_valueOf_12 rfl ic0 ?_
  refine g_istore (M := mX10_valueOf) (pc := 13) (ls' := [some (aR 8 32), some (aI a1), some (aI r1), some (aI r2), some (aI 0), none]) 15 dX10_valueOf_13 rfl rfl rfl ?_
  refine g_iconst (M := mX10_valueOf) (pc := 15) (v := 0) 16 dX10_valueOf_15 rfl ic0 ?_
  refine g_istore (M := mX10_valueOf) (pc := 16) (ls' := [some (aR 8 32), some (aI a1), some (aI r1), some (aI r2), some (aI 0), some (aI 0)]) 18 dX10_valueOf_16 rfl rfl rfl ?_
  refine g_loop (fun s => SX10_valueOf_18_ok a1 r1 r2 h L T s.1 s.2) ?_ (fun z => v_fgt [true, true, true, true, true, true] z)
  intro e5
  show VX mX10_valueOf 4 T _ 49 [none, none, none, none, some (aI e5), none] [] h L _
  refine g_iload (M := mX10_valueOf) (pc := 49) 51 dX10_valueOf_49 rfl rfl ?_
  exact g_iret (M := mX10_valueOf) (pc := 51) dX10_valueOf_51 rfl rfl (fun z => z)
def FX10_value (a1 : Int32) (h : HI) : Option (Int32 × HI) :=
  Option.bind (FX10_isSet a1 h) fun r1 =>
  if r1 = 0 then
    Option.bind (FX10_finds (-1000000001) h) fun (r2, h3) =>
    some (r2, h3)
  else
    Option.bind (FX10_valueOf a1 h) fun r4 =>
    some (r4, h)
set_option maxRecDepth 100000 in
set_option maxHeartbeats 4000000 in
theorem CX10_value (a1 : Int32) (h : HI) (L : HL) : CG mX10_value 5 [aR 8 32, aI a1] h L (lfIH L) (FX10_value a1 h) := by
  unfold FX10_value
  refine cg_of [some (aR 8 32), some (aI a1)] rfl (by decide) rfl rfl (fun T => ?_)
  refine g_aload_n (M := mX10_value) (pc := 0) 1 dX10_value_0 rfl rfl rfl ?_
  refine g_iload_n (M := mX10_value) (pc := 1) 2 dX10_value_1 rfl rfl rfl ?_
  refine g_cV_I (M := mX10_value) (pc := 2) (M' := mX10_isSet) (rest := []) 5 dX10_value_2 rfl kX10_109 okX10_isSet (CX10_isSet a1 h L) oO32 rfl rfl rfl rfl (fun r1 => ?_)
  refine g_if_eq (M := mX10_value) (pc := 5) 16 8 dX10_value_5 (by decide) rfl (fun _ => ?_) (fun _ => ?_)
  · refine g_aload_n (M := mX10_value) (pc := 16) 17 dX10_value_16 rfl rfl rfl ?_
    refine g_ldc (M := mX10_value) (pc := 17) 19 dX10_value_17 rfl cX10_44 ?_
    refine g_cV_IH (M := mX10_value) (pc := 19) (M' := mX10_finds) (rest := []) 22 dX10_value_19 rfl kX10_67 okX10_finds (CX10_finds (-1000000001) h L) oO32 rfl rfl rfl rfl (fun r2 h3 => ?_)
    exact g_iret (M := mX10_value) (pc := 22) dX10_value_22 rfl rfl (fun z => z)
  · refine g_aload_n (M := mX10_value) (pc := 8) 9 dX10_value_8 rfl rfl rfl ?_
    refine g_iload_n (M := mX10_value) (pc := 9) 10 dX10_value_9 rfl rfl rfl ?_
    refine g_cV_I (M := mX10_value) (pc := 10) (M' := mX10_valueOf) (rest := []) 13 dX10_value_10 rfl kX10_126 okX10_valueOf (CX10_valueOf a1 h L) oO32 rfl rfl rfl rfl (fun r4 => ?_)
    refine g_goto (M := mX10_value) (pc := 13) 22 dX10_value_13 (by decide) ?_
    exact g_iret (M := mX10_value) (pc := 22) dX10_value_22 rfl rfl (fun z => z)
def JX10_byOf_71 (a1 : Int32) (a2 : Int32) (a3 : Int32) (a5 : Int32) (a6 : Int32) (a7 : Int32) (s0 : Int32) (h : HI) : Option ((Int32 × Int32 × Int32) ⊕ (Int32)) :=
  if a7 ≤ a5 then
    some (Sum.inl (s0, a5, (a6 + 1)))
  else
    some (Sum.inl (s0, a7, (a6 + 1)))
def JX10_byOf_55 (a1 : Int32) (a2 : Int32) (a3 : Int32) (a4 : Int32) (a5 : Int32) (a6 : Int32) (s0 : Int32) (h : HI) : Option ((Int32 × Int32 × Int32) ⊕ (Int32)) :=
  if s0 ≤ a5 then
    JX10_byOf_71 a1 a2 a3 a5 a6 s0 a4 h
  else
    JX10_byOf_71 a1 a2 a3 a5 a6 s0 a6 h
def SX10_byOf_23 (a1 : Int32) (a2 : Int32) (a3 : Int32) (h : HI) : (Int32 × Int32 × Int32) → Option ((Int32 × Int32 × Int32) ⊕ (Int32))
  | (a4, a5, a6) =>
    if (h 8 33 0) ≤ a6 then
      some (Sum.inr a4)
    else
      Option.bind (FX10_has a2 a6) fun r4 =>
      if r4 = 0 then
        JX10_byOf_55 a1 a2 a3 a4 a5 a6 0 h
      else
        Option.bind (FX10_gainOf a6 a1 a3 h) fun r5 =>
        JX10_byOf_55 a1 a2 a3 a4 a5 a6 r5 h
def FX10_byOf (a1 : Int32) (a2 : Int32) (h : HI) : Option (Int32) :=
  Option.bind (FX10_hasRope a2 h) fun r1 =>
  Option.bind (FX10_wants a1 1 h) fun r2 =>
  nm (r2 / 10) fun t3 =>
  Option.bind (loopN (SX10_byOf_23 a1 a2 r1 h) FU ((-1), t3, 0)) fun e6 =>
    some e6
set_option maxRecDepth 100000 in
set_option maxHeartbeats 4000000 in
theorem JX10_byOf_71_ok (a1 : Int32) (a2 : Int32) (a3 : Int32) (a5 : Int32) (a6 : Int32) (a7 : Int32) (s0 : Int32) (T : ZT) (h : HI) (L : HL) : VX mX10_byOf 3 T (gS (fun s : Int32 × Int32 × Int32 => V mX10_byOf 3 T 23 [some (aR 8 32), some (aI a1), some (aI a2), some (aI a3), some (aI (s.1)), some (aI (s.2.1)), some (aI (s.2.2)), none] [] h L) (fun s : Int32 => V mX10_byOf 3 T 95 [none, none, none, none, some (aI s), none, none, none] [] h L)) 71 [some (aR 8 32), some (aI a1), some (aI a2), some (aI a3), none, some (aI a5), some (aI a6), some (aI a7)] [aI s0] h L (JX10_byOf_71 a1 a2 a3 a5 a6 a7 s0 h) := by
  unfold JX10_byOf_71
  refine g_istore (M := mX10_byOf) (pc := 71) (ls' := [some (aR 8 32), some (aI a1), some (aI a2), some (aI a3), some (aI s0), some (aI a5), some (aI a6), some (aI a7)]) 73 dX10_byOf_71 rfl rfl rfl ?_
  refine g_iload (M := mX10_byOf) (pc := 73) 75 dX10_byOf_73 rfl rfl ?_
  refine g_iload (M := mX10_byOf) (pc := 75) 77 dX10_byOf_75 rfl rfl ?_
  refine g_icmp_le (M := mX10_byOf) (pc := 77) 85 80 dX10_byOf_77 (by decide) rfl (fun _ => ?_) (fun _ => ?_)
  · refine g_iload (M := mX10_byOf) (pc := 85) 87 dX10_byOf_85 rfl rfl ?_
    refine g_istore (M := mX10_byOf) (pc := 87) (ls' := [some (aR 8 32), some (aI a1), some (aI a2), some (aI a3), some (aI s0), some (aI a5), some (aI a6), some (aI a7)]) 89 dX10_byOf_87 rfl rfl rfl ?_
    refine g_iinc (M := mX10_byOf) (pc := 89) (c := 1) (ls' := [some (aR 8 32), some (aI a1), some (aI a2), some (aI a3), some (aI s0), some (aI a5), some (aI (a6 + 1)), some (aI a7)]) 92 dX10_byOf_89 rfl ic1 rfl rfl rfl ?_
    refine g_goto (M := mX10_byOf) (pc := 92) 23 dX10_byOf_92 (by decide) ?_
    exact g_jmp (fun z => v_fgt [true, true, true, true, true, true, true, false] z)
  · refine g_iload (M := mX10_byOf) (pc := 80) 82 dX10_byOf_80 rfl rfl ?_
    refine g_goto (M := mX10_byOf) (pc := 82) 87 dX10_byOf_82 (by decide) ?_
    refine g_istore (M := mX10_byOf) (pc := 87) (ls' := [some (aR 8 32), some (aI a1), some (aI a2), some (aI a3), some (aI s0), some (aI a7), some (aI a6), some (aI a7)]) 89 dX10_byOf_87 rfl rfl rfl ?_
    refine g_iinc (M := mX10_byOf) (pc := 89) (c := 1) (ls' := [some (aR 8 32), some (aI a1), some (aI a2), some (aI a3), some (aI s0), some (aI a7), some (aI (a6 + 1)), some (aI a7)]) 92 dX10_byOf_89 rfl ic1 rfl rfl rfl ?_
    refine g_goto (M := mX10_byOf) (pc := 92) 23 dX10_byOf_92 (by decide) ?_
    exact g_jmp (fun z => v_fgt [true, true, true, true, true, true, true, false] z)
set_option maxRecDepth 100000 in
set_option maxHeartbeats 4000000 in
theorem JX10_byOf_55_ok (a1 : Int32) (a2 : Int32) (a3 : Int32) (a4 : Int32) (a5 : Int32) (a6 : Int32) (s0 : Int32) (T : ZT) (h : HI) (L : HL) : VX mX10_byOf 3 T (gS (fun s : Int32 × Int32 × Int32 => V mX10_byOf 3 T 23 [some (aR 8 32), some (aI a1), some (aI a2), some (aI a3), some (aI (s.1)), some (aI (s.2.1)), some (aI (s.2.2)), none] [] h L) (fun s : Int32 => V mX10_byOf 3 T 95 [none, none, none, none, some (aI s), none, none, none] [] h L)) 55 [some (aR 8 32), some (aI a1), some (aI a2), some (aI a3), some (aI a4), some (aI a5), some (aI a6), none] [aI s0] h L (JX10_byOf_55 a1 a2 a3 a4 a5 a6 s0 h) := by
  unfold JX10_byOf_55
  refine g_istore (M := mX10_byOf) (pc := 55) (ls' := [some (aR 8 32), some (aI a1), some (aI a2), some (aI a3), some (aI a4), some (aI a5), some (aI a6), some (aI s0)]) 57 dX10_byOf_55 rfl rfl rfl ?_
  refine g_iload (M := mX10_byOf) (pc := 57) 59 dX10_byOf_57 rfl rfl ?_
  refine g_iload (M := mX10_byOf) (pc := 59) 61 dX10_byOf_59 rfl rfl ?_
  refine g_icmp_le (M := mX10_byOf) (pc := 61) 69 64 dX10_byOf_61 (by decide) rfl (fun _ => ?_) (fun _ => ?_)
  · refine g_iload (M := mX10_byOf) (pc := 69) 71 dX10_byOf_69 rfl rfl ?_
    exact g_fgt [true, true, true, true, false, true, true, true] (JX10_byOf_71_ok a1 a2 a3 a5 a6 s0 a4 T h L)
  · refine g_iload (M := mX10_byOf) (pc := 64) 66 dX10_byOf_64 rfl rfl ?_
    refine g_goto (M := mX10_byOf) (pc := 66) 71 dX10_byOf_66 (by decide) ?_
    exact g_fgt [true, true, true, true, false, true, true, true] (JX10_byOf_71_ok a1 a2 a3 a5 a6 s0 a6 T h L)
set_option maxRecDepth 100000 in
set_option maxHeartbeats 4000000 in
theorem SX10_byOf_23_ok (a1 : Int32) (a2 : Int32) (a3 : Int32) (h : HI) (L : HL) (T : ZT) (a4 : Int32) (a5 : Int32) (a6 : Int32) : VX mX10_byOf 3 T (gS (fun s : Int32 × Int32 × Int32 => V mX10_byOf 3 T 23 [some (aR 8 32), some (aI a1), some (aI a2), some (aI a3), some (aI (s.1)), some (aI (s.2.1)), some (aI (s.2.2)), none] [] h L) (fun s : Int32 => V mX10_byOf 3 T 95 [none, none, none, none, some (aI s), none, none, none] [] h L)) 23 [some (aR 8 32), some (aI a1), some (aI a2), some (aI a3), some (aI a4), some (aI a5), some (aI a6), none] [] h L (SX10_byOf_23 a1 a2 a3 h (a4, a5, a6)) := by
  unfold SX10_byOf_23
  refine g_iload (M := mX10_byOf) (pc := 23) 25 dX10_byOf_23 rfl rfl ?_
  refine g_aload_n (M := mX10_byOf) (pc := 25) 26 dX10_byOf_25 rfl rfl rfl ?_
  refine g_getR (M := mX10_byOf) (pc := 26) 29 dX10_byOf_26 rfl fX10_7 oR32_0 ?_
  refine g_iconst (M := mX10_byOf) (pc := 29) (v := 0) 30 dX10_byOf_29 rfl ic0 ?_
  refine g_ialdC (M := mX10_byOf) (pc := 30) (j := 0) 31 dX10_byOf_30 rfl oA33 rfl rfl ?_
  refine g_icmp_ge (M := mX10_byOf) (pc := 31) 95 34 dX10_byOf_31 (by decide) rfl (fun _ => ?_) (fun _ => ?_)
  · exact g_jmp (fun z => v_fgt [false, false, false, false, true, false, false, false] z)
  · refine g_iload_n (M := mX10_byOf) (pc := 34) 35 dX10_byOf_34 rfl rfl rfl ?_
    refine g_iload (M := mX10_byOf) (pc := 35) 37 dX10_byOf_35 rfl rfl ?_
    refine g_cS_I (M := mX10_byOf) (pc := 37) (M' := mX10_has) (rest := []) 40 dX10_byOf_37 rfl kX10_106 okX10_has (CX10_has a2 a6 h L) rfl rfl rfl rfl (fun r4 => ?_)
    refine g_if_eq (M := mX10_byOf) (pc := 40) 54 43 dX10_byOf_40 (by decide) rfl (fun _ => ?_) (fun _ => ?_)
    · refine g_iconst (M := mX10_byOf) (pc := 54) (v := 0) 55 dX10_byOf_54 rfl ic0 ?_
      exact g_fgt [true, true, true, true, true, true, true, false] (JX10_byOf_55_ok a1 a2 a3 a4 a5 a6 0 T h L)
    · refine g_aload_n (M := mX10_byOf) (pc := 43) 44 dX10_byOf_43 rfl rfl rfl ?_
      refine g_iload (M := mX10_byOf) (pc := 44) 46 dX10_byOf_44 rfl rfl ?_
      refine g_iload_n (M := mX10_byOf) (pc := 46) 47 dX10_byOf_46 rfl rfl rfl ?_
      refine g_iload_n (M := mX10_byOf) (pc := 47) 48 dX10_byOf_47 rfl rfl rfl ?_
      refine g_cV_I (M := mX10_byOf) (pc := 48) (M' := mX10_gainOf) (rest := []) 51 dX10_byOf_48 rfl kX10_115 okX10_gainOf (CX10_gainOf a6 a1 a3 h L) oO32 rfl rfl rfl rfl (fun r5 => ?_)
      refine g_goto (M := mX10_byOf) (pc := 51) 55 dX10_byOf_51 (by decide) ?_
      exact g_fgt [true, true, true, true, true, true, true, false] (JX10_byOf_55_ok a1 a2 a3 a4 a5 a6 r5 T h L)
set_option maxRecDepth 100000 in
set_option maxHeartbeats 4000000 in
theorem CX10_byOf (a1 : Int32) (a2 : Int32) (h : HI) (L : HL) : CG mX10_byOf 3 [aR 8 32, aI a1, aI a2] h L (lfI h L) (FX10_byOf a1 a2 h) := by
  unfold FX10_byOf
  refine cg_of [some (aR 8 32), some (aI a1), some (aI a2), none, none, none, none, none] rfl (by decide) rfl rfl (fun T => ?_)
  refine g_aload_n (M := mX10_byOf) (pc := 0) 1 dX10_byOf_0 rfl rfl rfl ?_
  refine g_iload_n (M := mX10_byOf) (pc := 1) 2 dX10_byOf_1 rfl rfl rfl ?_
  refine g_cV_I (M := mX10_byOf) (pc := 2) (M' := mX10_hasRope) (rest := []) 5 dX10_byOf_2 rfl kX10_112 okX10_hasRope (CX10_hasRope a2 h L) oO32 rfl rfl rfl rfl (fun r1 => ?_)
  refine g_istore_n (M := mX10_byOf) (pc := 5) (ls' := [some (aR 8 32), some (aI a1), some (aI a2), some (aI r1), none, none, none, none]) 6 dX10_byOf_5 rfl rfl rfl rfl ?_
  refine g_iconst (M := mX10_byOf) (pc := 6) (v := (-1)) 7 dX10_byOf_6 rfl icm1 ?_
  refine g_istore (M := mX10_byOf) (pc := 7) (ls' := [some (aR 8 32), some (aI a1), some (aI a2), some (aI r1), some (aI (-1)), none, none, none]) 9 dX10_byOf_7 rfl rfl rfl ?_
  refine g_aload_n (M := mX10_byOf) (pc := 9) 10 dX10_byOf_9 rfl rfl rfl ?_
  refine g_iload_n (M := mX10_byOf) (pc := 10) 11 dX10_byOf_10 rfl rfl rfl ?_
  refine g_iconst (M := mX10_byOf) (pc := 11) (v := 1) 12 dX10_byOf_11 rfl ic1 ?_
  refine g_cV_I (M := mX10_byOf) (pc := 12) (M' := mX10_wants) (rest := []) 15 dX10_byOf_12 rfl kX10_103 okX10_wants (CX10_wants a1 1 h L) oO32 rfl rfl rfl rfl (fun r2 => ?_)
  refine g_bipush (M := mX10_byOf) (pc := 15) (v := 10) 17 dX10_byOf_15 rfl bp10 ?_
  refine g_idivC (M := mX10_byOf) (pc := 17) 18 dX10_byOf_17 rfl (by decide) ?_
  refine g_nmI (fun t3 => ?_)
  refine g_istore (M := mX10_byOf) (pc := 18) (ls' := [some (aR 8 32), some (aI a1), some (aI a2), some (aI r1), some (aI (-1)), some (aI t3), none, none]) 20 dX10_byOf_18 rfl rfl rfl ?_
  refine g_iconst (M := mX10_byOf) (pc := 20) (v := 0) 21 dX10_byOf_20 rfl ic0 ?_
  refine g_istore (M := mX10_byOf) (pc := 21) (ls' := [some (aR 8 32), some (aI a1), some (aI a2), some (aI r1), some (aI (-1)), some (aI t3), some (aI 0), none]) 23 dX10_byOf_21 rfl rfl rfl ?_
  refine g_loop (fun s => SX10_byOf_23_ok a1 a2 r1 h L T s.1 s.2.1 s.2.2) ?_ (fun z => v_fgt [true, true, true, true, true, true, true, false] z)
  intro e6
  show VX mX10_byOf 3 T _ 95 [none, none, none, none, some (aI e6), none, none, none] [] h L _
  refine g_iload (M := mX10_byOf) (pc := 95) 97 dX10_byOf_95 rfl rfl ?_
  exact g_iret (M := mX10_byOf) (pc := 97) dX10_byOf_97 rfl rfl (fun z => z)
def FX10_by (a1 : Int32) (a2 : Int32) (h : HI) : Option (Int32 × HI) :=
  Option.bind (FX10_isWant a1 h) fun r1 =>
  if r1 = 0 then
    Option.bind (FX10_finds (-1000000001) h) fun (r2, h3) =>
    some (r2, h3)
  else
    Option.bind (FX10_isSet a2 h) fun r4 =>
    if r4 = 0 then
      Option.bind (FX10_finds (-1000000001) h) fun (r8, h9) =>
      some (r8, h9)
    else
      Option.bind (FX10_byOf a1 a2 h) fun r5 =>
      if 0 ≤ r5 then
        some (r5, h)
      else
        Option.bind (FX10_finds (-1000000004) h) fun (r6, h7) =>
        some (r6, h7)
set_option maxRecDepth 100000 in
set_option maxHeartbeats 4000000 in
theorem CX10_by (a1 : Int32) (a2 : Int32) (h : HI) (L : HL) : CG mX10_by 4 [aR 8 32, aI a1, aI a2] h L (lfIH L) (FX10_by a1 a2 h) := by
  unfold FX10_by
  refine cg_of [some (aR 8 32), some (aI a1), some (aI a2), none] rfl (by decide) rfl rfl (fun T => ?_)
  refine g_aload_n (M := mX10_by) (pc := 0) 1 dX10_by_0 rfl rfl rfl ?_
  refine g_iload_n (M := mX10_by) (pc := 1) 2 dX10_by_1 rfl rfl rfl ?_
  refine g_cV_I (M := mX10_by) (pc := 2) (M' := mX10_isWant) (rest := []) 5 dX10_by_2 rfl kX10_100 okX10_isWant (CX10_isWant a1 h L) oO32 rfl rfl rfl rfl (fun r1 => ?_)
  refine g_if_eq (M := mX10_by) (pc := 5) 16 8 dX10_by_5 (by decide) rfl (fun _ => ?_) (fun _ => ?_)
  · refine g_aload_n (M := mX10_by) (pc := 16) 17 dX10_by_16 rfl rfl rfl ?_
    refine g_ldc (M := mX10_by) (pc := 17) 19 dX10_by_17 rfl cX10_44 ?_
    refine g_cV_IH (M := mX10_by) (pc := 19) (M' := mX10_finds) (rest := []) 22 dX10_by_19 rfl kX10_67 okX10_finds (CX10_finds (-1000000001) h L) oO32 rfl rfl rfl rfl (fun r2 h3 => ?_)
    exact g_iret (M := mX10_by) (pc := 22) dX10_by_22 rfl rfl (fun z => z)
  · refine g_aload_n (M := mX10_by) (pc := 8) 9 dX10_by_8 rfl rfl rfl ?_
    refine g_iload_n (M := mX10_by) (pc := 9) 10 dX10_by_9 rfl rfl rfl ?_
    refine g_cV_I (M := mX10_by) (pc := 10) (M' := mX10_isSet) (rest := []) 13 dX10_by_10 rfl kX10_109 okX10_isSet (CX10_isSet a2 h L) oO32 rfl rfl rfl rfl (fun r4 => ?_)
    refine g_if_ne (M := mX10_by) (pc := 13) 23 16 dX10_by_13 (by decide) rfl (fun _ => ?_) (fun _ => ?_)
    · refine g_aload_n (M := mX10_by) (pc := 23) 24 dX10_by_23 rfl rfl rfl ?_
      refine g_iload_n (M := mX10_by) (pc := 24) 25 dX10_by_24 rfl rfl rfl ?_
      refine g_iload_n (M := mX10_by) (pc := 25) 26 dX10_by_25 rfl rfl rfl ?_
      refine g_cV_I (M := mX10_by) (pc := 26) (M' := mX10_byOf) (rest := []) 29 dX10_by_26 rfl kX10_129 okX10_byOf (CX10_byOf a1 a2 h L) oO32 rfl rfl rfl rfl (fun r5 => ?_)
      refine g_istore_n (M := mX10_by) (pc := 29) (ls' := [some (aR 8 32), some (aI a1), some (aI a2), some (aI r5)]) 30 dX10_by_29 rfl rfl rfl rfl ?_
      refine g_iload_n (M := mX10_by) (pc := 30) 31 dX10_by_30 rfl rfl rfl ?_
      refine g_if_ge (M := mX10_by) (pc := 31) 43 34 dX10_by_31 (by decide) rfl (fun _ => ?_) (fun _ => ?_)
      · refine g_iload_n (M := mX10_by) (pc := 43) 44 dX10_by_43 rfl rfl rfl ?_
        exact g_iret (M := mX10_by) (pc := 44) dX10_by_44 rfl rfl (fun z => z)
      · refine g_aload_n (M := mX10_by) (pc := 34) 35 dX10_by_34 rfl rfl rfl ?_
        refine g_ldc (M := mX10_by) (pc := 35) 37 dX10_by_35 rfl cX10_132 ?_
        refine g_cV_IH (M := mX10_by) (pc := 37) (M' := mX10_finds) (rest := []) 40 dX10_by_37 rfl kX10_67 okX10_finds (CX10_finds (-1000000004) h L) oO32 rfl rfl rfl rfl (fun r6 h7 => ?_)
        refine g_goto (M := mX10_by) (pc := 40) 44 dX10_by_40 (by decide) ?_
        exact g_iret (M := mX10_by) (pc := 44) dX10_by_44 rfl rfl (fun z => z)
    · refine g_aload_n (M := mX10_by) (pc := 16) 17 dX10_by_16 rfl rfl rfl ?_
      refine g_ldc (M := mX10_by) (pc := 17) 19 dX10_by_17 rfl cX10_44 ?_
      refine g_cV_IH (M := mX10_by) (pc := 19) (M' := mX10_finds) (rest := []) 22 dX10_by_19 rfl kX10_67 okX10_finds (CX10_finds (-1000000001) h L) oO32 rfl rfl rfl rfl (fun r8 h9 => ?_)
      exact g_iret (M := mX10_by) (pc := 22) dX10_by_22 rfl rfl (fun z => z)
def SX10_minutesOf_4 (a1 : Int32) (h : HI) : (Int32 × Int32) → Option ((Int32 × Int32) ⊕ (Int32))
  | (a2, a3) =>
    if (h 8 33 0) ≤ a3 then
      some (Sum.inr a2)
    else
      Option.bind (FX10_has a1 a3) fun r1 =>
      if r1 = 0 then
        nm (a2 + 0) fun t2 =>
        some (Sum.inl (t2, (a3 + 1)))
      else
        Option.bind (FX10_its a3 2 h) fun r3 =>
        nm (a2 + r3) fun t4 =>
        some (Sum.inl (t4, (a3 + 1)))
def FX10_minutesOf (a1 : Int32) (h : HI) : Option (Int32) :=
  Option.bind (loopN (SX10_minutesOf_4 a1 h) FU (0, 0)) fun e5 =>
    some e5
set_option maxRecDepth 100000 in
set_option maxHeartbeats 4000000 in
theorem SX10_minutesOf_4_ok (a1 : Int32) (h : HI) (L : HL) (T : ZT) (a2 : Int32) (a3 : Int32) : VX mX10_minutesOf 2 T (gS (fun s : Int32 × Int32 => V mX10_minutesOf 2 T 4 [some (aR 8 32), some (aI a1), some (aI (s.1)), some (aI (s.2))] [] h L) (fun s : Int32 => V mX10_minutesOf 2 T 41 [none, none, some (aI s), none] [] h L)) 4 [some (aR 8 32), some (aI a1), some (aI a2), some (aI a3)] [] h L (SX10_minutesOf_4 a1 h (a2, a3)) := by
  unfold SX10_minutesOf_4
  refine g_iload_n (M := mX10_minutesOf) (pc := 4) 5 dX10_minutesOf_4 rfl rfl rfl ?_
  refine g_aload_n (M := mX10_minutesOf) (pc := 5) 6 dX10_minutesOf_5 rfl rfl rfl ?_
  refine g_getR (M := mX10_minutesOf) (pc := 6) 9 dX10_minutesOf_6 rfl fX10_7 oR32_0 ?_
  refine g_iconst (M := mX10_minutesOf) (pc := 9) (v := 0) 10 dX10_minutesOf_9 rfl ic0 ?_
  refine g_ialdC (M := mX10_minutesOf) (pc := 10) (j := 0) 11 dX10_minutesOf_10 rfl oA33 rfl rfl ?_
  refine g_icmp_ge (M := mX10_minutesOf) (pc := 11) 41 14 dX10_minutesOf_11 (by decide) rfl (fun _ => ?_) (fun _ => ?_)
  · exact g_jmp (fun z => v_fgt [false, false, true, false] z)
  · refine g_iload_n (M := mX10_minutesOf) (pc := 14) 15 dX10_minutesOf_14 rfl rfl rfl ?_
    refine g_iload_n (M := mX10_minutesOf) (pc := 15) 16 dX10_minutesOf_15 rfl rfl rfl ?_
    refine g_iload_n (M := mX10_minutesOf) (pc := 16) 17 dX10_minutesOf_16 rfl rfl rfl ?_
    refine g_cS_I (M := mX10_minutesOf) (pc := 17) (M' := mX10_has) (rest := [aI a2]) 20 dX10_minutesOf_17 rfl kX10_106 okX10_has (CX10_has a1 a3 h L) rfl rfl rfl rfl (fun r1 => ?_)
    refine g_if_eq (M := mX10_minutesOf) (pc := 20) 32 23 dX10_minutesOf_20 (by decide) rfl (fun _ => ?_) (fun _ => ?_)
    · refine g_iconst (M := mX10_minutesOf) (pc := 32) (v := 0) 33 dX10_minutesOf_32 rfl ic0 ?_
      refine g_iadd (M := mX10_minutesOf) (pc := 33) 34 dX10_minutesOf_33 rfl ?_
      refine g_nmI (fun t2 => ?_)
      refine g_istore_n (M := mX10_minutesOf) (pc := 34) (ls' := [some (aR 8 32), some (aI a1), some (aI t2), some (aI a3)]) 35 dX10_minutesOf_34 rfl rfl rfl rfl ?_
      refine g_iinc (M := mX10_minutesOf) (pc := 35) (c := 1) (ls' := [some (aR 8 32), some (aI a1), some (aI t2), some (aI (a3 + 1))]) 38 dX10_minutesOf_35 rfl ic1 rfl rfl rfl ?_
      refine g_goto (M := mX10_minutesOf) (pc := 38) 4 dX10_minutesOf_38 (by decide) ?_
      exact g_jmp (fun z => v_fgt [true, true, true, true] z)
    · refine g_aload_n (M := mX10_minutesOf) (pc := 23) 24 dX10_minutesOf_23 rfl rfl rfl ?_
      refine g_iload_n (M := mX10_minutesOf) (pc := 24) 25 dX10_minutesOf_24 rfl rfl rfl ?_
      refine g_iconst (M := mX10_minutesOf) (pc := 25) (v := 2) 26 dX10_minutesOf_25 rfl ic2 ?_
      refine g_cV_I (M := mX10_minutesOf) (pc := 26) (M' := mX10_its) (rest := [aI a2]) 29 dX10_minutesOf_26 rfl kX10_76 okX10_its (CX10_its a3 2 h L) oO32 rfl rfl rfl rfl (fun r3 => ?_)
      refine g_goto (M := mX10_minutesOf) (pc := 29) 33 dX10_minutesOf_29 (by decide) ?_
      refine g_iadd (M := mX10_minutesOf) (pc := 33) 34 dX10_minutesOf_33 rfl ?_
      refine g_nmI (fun t4 => ?_)
      refine g_istore_n (M := mX10_minutesOf) (pc := 34) (ls' := [some (aR 8 32), some (aI a1), some (aI t4), some (aI a3)]) 35 dX10_minutesOf_34 rfl rfl rfl rfl ?_
      refine g_iinc (M := mX10_minutesOf) (pc := 35) (c := 1) (ls' := [some (aR 8 32), some (aI a1), some (aI t4), some (aI (a3 + 1))]) 38 dX10_minutesOf_35 rfl ic1 rfl rfl rfl ?_
      refine g_goto (M := mX10_minutesOf) (pc := 38) 4 dX10_minutesOf_38 (by decide) ?_
      exact g_jmp (fun z => v_fgt [true, true, true, true] z)
set_option maxRecDepth 100000 in
set_option maxHeartbeats 4000000 in
theorem CX10_minutesOf (a1 : Int32) (h : HI) (L : HL) : CG mX10_minutesOf 2 [aR 8 32, aI a1] h L (lfI h L) (FX10_minutesOf a1 h) := by
  unfold FX10_minutesOf
  refine cg_of [some (aR 8 32), some (aI a1), none, none] rfl (by decide) rfl rfl (fun T => ?_)
  refine g_iconst (M := mX10_minutesOf) (pc := 0) (v := 0) 1 dX10_minutesOf_0 rfl ic0 ?_
  refine g_istore_n (M := mX10_minutesOf) (pc := 1) (ls' := [some (aR 8 32), some (aI a1), some (aI 0), none]) 2 dX10_minutesOf_1 rfl rfl rfl rfl ?_
  refine g_iconst (M := mX10_minutesOf) (pc := 2) (v := 0) 3 dX10_minutesOf_2 rfl ic0 ?_
  refine g_istore_n (M := mX10_minutesOf) (pc := 3) (ls' := [some (aR 8 32), some (aI a1), some (aI 0), some (aI 0)]) 4 dX10_minutesOf_3 rfl rfl rfl rfl ?_
  refine g_loop (fun s => SX10_minutesOf_4_ok a1 h L T s.1 s.2) ?_ (fun z => v_fgt [true, true, true, true] z)
  intro e5
  show VX mX10_minutesOf 2 T _ 41 [none, none, some (aI e5), none] [] h L _
  refine g_iload_n (M := mX10_minutesOf) (pc := 41) 42 dX10_minutesOf_41 rfl rfl rfl ?_
  exact g_iret (M := mX10_minutesOf) (pc := 42) dX10_minutesOf_42 rfl rfl (fun z => z)
def JX10_findBest_79 (a1 : Int32) (a2 : Int32) (a3 : Int32) (a4 : Int32) (h : HI) : Option ((Int32 × HI) ⊕ (HI)) :=
  nm (hP1 h 8 32 5 a2) fun h3 =>
  nm (hP1 h3 8 32 6 a4) fun h4 =>
  nm (hP1 h4 8 32 7 a3) fun h5 =>
  some (Sum.inl ((a2 + 1), h5))
def JX10_findBest_39 (a1 : Int32) (a2 : Int32) (a3 : Int32) (s0 : Int32) (h : HI) : Option ((Int32 × HI) ⊕ (HI)) :=
  if a1 < a3 then
    some (Sum.inl ((a2 + 1), h))
  else
    if (h 8 32 5) < 0 then
      JX10_findBest_79 a1 a2 a3 s0 h
    else
      if (h 8 32 6) < s0 then
        JX10_findBest_79 a1 a2 a3 s0 h
      else
        if s0 = (h 8 32 6) then
          if (h 8 32 7) ≤ a3 then
            some (Sum.inl ((a2 + 1), h))
          else
            JX10_findBest_79 a1 a2 a3 s0 h
        else
          some (Sum.inl ((a2 + 1), h))
def SX10_findBest_7 (a1 : Int32) : (Int32 × HI) → Option ((Int32 × HI) ⊕ (HI))
  | (a2, h) =>
    if (1 <<< ((h 8 33 0) &&& 31)) ≤ a2 then
      some (Sum.inr h)
    else
      Option.bind (FX10_minutesOf a2 h) fun r2 =>
      if a1 < r2 then
        JX10_findBest_39 a1 a2 r2 0 h
      else
        Option.bind (FX10_valueOf a2 h) fun r6 =>
        JX10_findBest_39 a1 a2 r2 r6 h
def FX10_findBest (a1 : Int32) (h : HI) : Option (HI) :=
  nm (hP1 h 8 32 5 (-1)) fun h1 =>
  Option.bind (loopN (SX10_findBest_7 a1) FU (0, h1)) fun h7 =>
    some h7
set_option maxRecDepth 100000 in
set_option maxHeartbeats 4000000 in
theorem JX10_findBest_79_ok (a1 : Int32) (a2 : Int32) (a3 : Int32) (a4 : Int32) (T : ZT) (h : HI) (L : HL) : VX mX10_findBest 5 T (gS (fun s : Int32 × HI => V mX10_findBest 5 T 7 [some (aR 8 32), some (aI a1), some (aI (s.1)), none, none] [] (s.2) L) (fun s : HI => V mX10_findBest 5 T 101 [none, none, none, none, none] [] s L)) 79 [some (aR 8 32), some (aI a1), some (aI a2), some (aI a3), some (aI a4)] [] h L (JX10_findBest_79 a1 a2 a3 a4 h) := by
  unfold JX10_findBest_79
  refine g_aload_n (M := mX10_findBest) (pc := 79) 80 dX10_findBest_79 rfl rfl rfl ?_
  refine g_iload_n (M := mX10_findBest) (pc := 80) 81 dX10_findBest_80 rfl rfl rfl ?_
  refine g_put (M := mX10_findBest) (pc := 81) 84 dX10_findBest_81 rfl pX10_133 oF32_5 rfl rfl (fun h3 => ?_)
  refine g_aload_n (M := mX10_findBest) (pc := 84) 85 dX10_findBest_84 rfl rfl rfl ?_
  refine g_iload (M := mX10_findBest) (pc := 85) 87 dX10_findBest_85 rfl rfl ?_
  refine g_put (M := mX10_findBest) (pc := 87) 90 dX10_findBest_87 rfl pX10_140 oF32_6 rfl rfl (fun h4 => ?_)
  refine g_aload_n (M := mX10_findBest) (pc := 90) 91 dX10_findBest_90 rfl rfl rfl ?_
  refine g_iload_n (M := mX10_findBest) (pc := 91) 92 dX10_findBest_91 rfl rfl rfl ?_
  refine g_put (M := mX10_findBest) (pc := 92) 95 dX10_findBest_92 rfl pX10_143 oF32_7 rfl rfl (fun h5 => ?_)
  refine g_iinc (M := mX10_findBest) (pc := 95) (c := 1) (ls' := [some (aR 8 32), some (aI a1), some (aI (a2 + 1)), some (aI a3), some (aI a4)]) 98 dX10_findBest_95 rfl ic1 rfl rfl rfl ?_
  refine g_goto (M := mX10_findBest) (pc := 98) 7 dX10_findBest_98 (by decide) ?_
  exact g_jmp (fun z => v_fgt [true, true, true, false, false] z)
set_option maxRecDepth 100000 in
set_option maxHeartbeats 4000000 in
theorem JX10_findBest_39_ok (a1 : Int32) (a2 : Int32) (a3 : Int32) (s0 : Int32) (T : ZT) (h : HI) (L : HL) : VX mX10_findBest 5 T (gS (fun s : Int32 × HI => V mX10_findBest 5 T 7 [some (aR 8 32), some (aI a1), some (aI (s.1)), none, none] [] (s.2) L) (fun s : HI => V mX10_findBest 5 T 101 [none, none, none, none, none] [] s L)) 39 [some (aR 8 32), some (aI a1), some (aI a2), some (aI a3), none] [aI s0] h L (JX10_findBest_39 a1 a2 a3 s0 h) := by
  unfold JX10_findBest_39
  refine g_istore (M := mX10_findBest) (pc := 39) (ls' := [some (aR 8 32), some (aI a1), some (aI a2), some (aI a3), some (aI s0)]) 41 dX10_findBest_39 rfl rfl rfl ?_
  refine g_iload_n (M := mX10_findBest) (pc := 41) 42 dX10_findBest_41 rfl rfl rfl ?_
  refine g_iload_n (M := mX10_findBest) (pc := 42) 43 dX10_findBest_42 rfl rfl rfl ?_
  refine g_icmp_gt (M := mX10_findBest) (pc := 43) 95 46 dX10_findBest_43 (by decide) rfl (fun _ => ?_) (fun _ => ?_)
  · refine g_iinc (M := mX10_findBest) (pc := 95) (c := 1) (ls' := [some (aR 8 32), some (aI a1), some (aI (a2 + 1)), some (aI a3), some (aI s0)]) 98 dX10_findBest_95 rfl ic1 rfl rfl rfl ?_
    refine g_goto (M := mX10_findBest) (pc := 98) 7 dX10_findBest_98 (by decide) ?_
    exact g_jmp (fun z => v_fgt [true, true, true, false, false] z)
  · refine g_aload_n (M := mX10_findBest) (pc := 46) 47 dX10_findBest_46 rfl rfl rfl ?_
    refine g_getI (M := mX10_findBest) (pc := 47) 50 dX10_findBest_47 rfl fX10_133 oF32_5 ?_
    refine g_if_lt (M := mX10_findBest) (pc := 50) 79 53 dX10_findBest_50 (by decide) rfl (fun _ => ?_) (fun _ => ?_)
    · exact g_fgt [true, true, true, true, true] (JX10_findBest_79_ok a1 a2 a3 s0 T h L)
    · refine g_iload (M := mX10_findBest) (pc := 53) 55 dX10_findBest_53 rfl rfl ?_
      refine g_aload_n (M := mX10_findBest) (pc := 55) 56 dX10_findBest_55 rfl rfl rfl ?_
      refine g_getI (M := mX10_findBest) (pc := 56) 59 dX10_findBest_56 rfl fX10_140 oF32_6 ?_
      refine g_icmp_gt (M := mX10_findBest) (pc := 59) 79 62 dX10_findBest_59 (by decide) rfl (fun _ => ?_) (fun _ => ?_)
      · exact g_fgt [true, true, true, true, true] (JX10_findBest_79_ok a1 a2 a3 s0 T h L)
      · refine g_iload (M := mX10_findBest) (pc := 62) 64 dX10_findBest_62 rfl rfl ?_
        refine g_aload_n (M := mX10_findBest) (pc := 64) 65 dX10_findBest_64 rfl rfl rfl ?_
        refine g_getI (M := mX10_findBest) (pc := 65) 68 dX10_findBest_65 rfl fX10_140 oF32_6 ?_
        refine g_icmp_ne (M := mX10_findBest) (pc := 68) 95 71 dX10_findBest_68 (by decide) rfl (fun _ => ?_) (fun _ => ?_)
        · refine g_iinc (M := mX10_findBest) (pc := 95) (c := 1) (ls' := [some (aR 8 32), some (aI a1), some (aI (a2 + 1)), some (aI a3), some (aI s0)]) 98 dX10_findBest_95 rfl ic1 rfl rfl rfl ?_
          refine g_goto (M := mX10_findBest) (pc := 98) 7 dX10_findBest_98 (by decide) ?_
          exact g_jmp (fun z => v_fgt [true, true, true, false, false] z)
        · refine g_iload_n (M := mX10_findBest) (pc := 71) 72 dX10_findBest_71 rfl rfl rfl ?_
          refine g_aload_n (M := mX10_findBest) (pc := 72) 73 dX10_findBest_72 rfl rfl rfl ?_
          refine g_getI (M := mX10_findBest) (pc := 73) 76 dX10_findBest_73 rfl fX10_143 oF32_7 ?_
          refine g_icmp_ge (M := mX10_findBest) (pc := 76) 95 79 dX10_findBest_76 (by decide) rfl (fun _ => ?_) (fun _ => ?_)
          · refine g_iinc (M := mX10_findBest) (pc := 95) (c := 1) (ls' := [some (aR 8 32), some (aI a1), some (aI (a2 + 1)), some (aI a3), some (aI s0)]) 98 dX10_findBest_95 rfl ic1 rfl rfl rfl ?_
            refine g_goto (M := mX10_findBest) (pc := 98) 7 dX10_findBest_98 (by decide) ?_
            exact g_jmp (fun z => v_fgt [true, true, true, false, false] z)
          · exact g_fgt [true, true, true, true, true] (JX10_findBest_79_ok a1 a2 a3 s0 T h L)
set_option maxRecDepth 100000 in
set_option maxHeartbeats 4000000 in
theorem SX10_findBest_7_ok (a1 : Int32) (L : HL) (T : ZT) (a2 : Int32) (h : HI) : VX mX10_findBest 5 T (gS (fun s : Int32 × HI => V mX10_findBest 5 T 7 [some (aR 8 32), some (aI a1), some (aI (s.1)), none, none] [] (s.2) L) (fun s : HI => V mX10_findBest 5 T 101 [none, none, none, none, none] [] s L)) 7 [some (aR 8 32), some (aI a1), some (aI a2), none, none] [] h L (SX10_findBest_7 a1 (a2, h)) := by
  unfold SX10_findBest_7
  refine g_iload_n (M := mX10_findBest) (pc := 7) 8 dX10_findBest_7 rfl rfl rfl ?_
  refine g_iconst (M := mX10_findBest) (pc := 8) (v := 1) 9 dX10_findBest_8 rfl ic1 ?_
  refine g_aload_n (M := mX10_findBest) (pc := 9) 10 dX10_findBest_9 rfl rfl rfl ?_
  refine g_getR (M := mX10_findBest) (pc := 10) 13 dX10_findBest_10 rfl fX10_7 oR32_0 ?_
  refine g_iconst (M := mX10_findBest) (pc := 13) (v := 0) 14 dX10_findBest_13 rfl ic0 ?_
  refine g_ialdC (M := mX10_findBest) (pc := 14) (j := 0) 15 dX10_findBest_14 rfl oA33 rfl rfl ?_
  refine g_ishl (M := mX10_findBest) (pc := 15) 16 dX10_findBest_15 rfl ?_
  refine g_icmp_ge (M := mX10_findBest) (pc := 16) 101 19 dX10_findBest_16 (by decide) rfl (fun _ => ?_) (fun _ => ?_)
  · exact g_jmp (fun z => v_fgt [false, false, false, false, false] z)
  · refine g_aload_n (M := mX10_findBest) (pc := 19) 20 dX10_findBest_19 rfl rfl rfl ?_
    refine g_iload_n (M := mX10_findBest) (pc := 20) 21 dX10_findBest_20 rfl rfl rfl ?_
    refine g_cV_I (M := mX10_findBest) (pc := 21) (M' := mX10_minutesOf) (rest := []) 24 dX10_findBest_21 rfl kX10_137 okX10_minutesOf (CX10_minutesOf a2 h L) oO32 rfl rfl rfl rfl (fun r2 => ?_)
    refine g_istore_n (M := mX10_findBest) (pc := 24) (ls' := [some (aR 8 32), some (aI a1), some (aI a2), some (aI r2), none]) 25 dX10_findBest_24 rfl rfl rfl rfl ?_
    refine g_iload_n (M := mX10_findBest) (pc := 25) 26 dX10_findBest_25 rfl rfl rfl ?_
    refine g_iload_n (M := mX10_findBest) (pc := 26) 27 dX10_findBest_26 rfl rfl rfl ?_
    refine g_icmp_gt (M := mX10_findBest) (pc := 27) 38 30 dX10_findBest_27 (by decide) rfl (fun _ => ?_) (fun _ => ?_)
    · refine g_iconst (M := mX10_findBest) (pc := 38) (v := 0) 39 dX10_findBest_38 rfl ic0 ?_
      exact g_fgt [true, true, true, true, false] (JX10_findBest_39_ok a1 a2 r2 0 T h L)
    · refine g_aload_n (M := mX10_findBest) (pc := 30) 31 dX10_findBest_30 rfl rfl rfl ?_
      refine g_iload_n (M := mX10_findBest) (pc := 31) 32 dX10_findBest_31 rfl rfl rfl ?_
      refine g_cV_I (M := mX10_findBest) (pc := 32) (M' := mX10_valueOf) (rest := []) 35 dX10_findBest_32 rfl kX10_126 okX10_valueOf (CX10_valueOf a2 h L) oO32 rfl rfl rfl rfl (fun r6 => ?_)
      refine g_goto (M := mX10_findBest) (pc := 35) 39 dX10_findBest_35 (by decide) ?_
      exact g_fgt [true, true, true, true, false] (JX10_findBest_39_ok a1 a2 r2 r6 T h L)
set_option maxRecDepth 100000 in
set_option maxHeartbeats 4000000 in
theorem CX10_findBest (a1 : Int32) (h : HI) (L : HL) : CG mX10_findBest 5 [aR 8 32, aI a1] h L (lfVH L) (FX10_findBest a1 h) := by
  unfold FX10_findBest
  refine cg_of [some (aR 8 32), some (aI a1), none, none, none] rfl (by decide) rfl rfl (fun T => ?_)
  refine g_aload_n (M := mX10_findBest) (pc := 0) 1 dX10_findBest_0 rfl rfl rfl ?_
  refine g_iconst (M := mX10_findBest) (pc := 1) (v := (-1)) 2 dX10_findBest_1 rfl icm1 ?_
  refine g_put (M := mX10_findBest) (pc := 2) 5 dX10_findBest_2 rfl pX10_133 oF32_5 rfl rfl (fun h1 => ?_)
  refine g_iconst (M := mX10_findBest) (pc := 5) (v := 0) 6 dX10_findBest_5 rfl ic0 ?_
  refine g_istore_n (M := mX10_findBest) (pc := 6) (ls' := [some (aR 8 32), some (aI a1), some (aI 0), none, none]) 7 dX10_findBest_6 rfl rfl rfl rfl ?_
  refine g_loop (fun s => SX10_findBest_7_ok a1 L T s.1 s.2) ?_ (fun z => v_fgt [true, true, true, false, false] z)
  intro h7
  show VX mX10_findBest 5 T _ 101 [none, none, none, none, none] [] h7 L _
  exact g_vret (M := mX10_findBest) (pc := 101) dX10_findBest_101 rfl (fun z => z)
def FX10_best (a1 : Int32) (a2 : Int32) (h : HI) : Option (Int32 × HI) :=
  Option.bind (FX10_in (Int32.toInt64 a1) 0 720) fun r1 =>
  if r1 = 0 then
    Option.bind (FX10_finds (-1000000001) h) fun (r2, h3) =>
    some (r2, h3)
  else
    Option.bind (FX10_in (Int32.toInt64 a2) 0 2) fun r4 =>
    if r4 = 0 then
      Option.bind (FX10_finds (-1000000001) h) fun (r6, h7) =>
      some (r6, h7)
    else
      Option.bind (FX10_findBest a1 h) fun h5 =>
      if a2 = 0 then
        some ((h5 8 32 6), h5)
      else
        if a2 = 1 then
          some ((h5 8 32 5), h5)
        else
          some ((h5 8 32 7), h5)
set_option maxRecDepth 100000 in
set_option maxHeartbeats 4000000 in
theorem CX10_best (a1 : Int32) (a2 : Int32) (h : HI) (L : HL) : CG mX10_best 6 [aR 8 32, aI a1, aI a2] h L (lfIH L) (FX10_best a1 a2 h) := by
  unfold FX10_best
  refine cg_of [some (aR 8 32), some (aI a1), some (aI a2)] rfl (by decide) rfl rfl (fun T => ?_)
  refine g_iload_n (M := mX10_best) (pc := 0) 1 dX10_best_0 rfl rfl rfl ?_
  refine g_i2l (M := mX10_best) (pc := 1) 2 dX10_best_1 rfl ?_
  refine g_lconst (M := mX10_best) (pc := 2) (v := 0) 3 dX10_best_2 rfl rfl ?_
  refine g_ldc2 (M := mX10_best) (pc := 3) 6 dX10_best_3 rfl cX10_146 ?_
  refine g_cS_I (M := mX10_best) (pc := 6) (M' := mX10_in) (rest := []) 9 dX10_best_6 rfl kX10_45 okX10_in (CX10_in (Int32.toInt64 a1) 0 720 h L) rfl rfl rfl rfl (fun r1 => ?_)
  refine g_if_eq (M := mX10_best) (pc := 9) 24 12 dX10_best_9 (by decide) rfl (fun _ => ?_) (fun _ => ?_)
  · refine g_aload_n (M := mX10_best) (pc := 24) 25 dX10_best_24 rfl rfl rfl ?_
    refine g_ldc (M := mX10_best) (pc := 25) 27 dX10_best_25 rfl cX10_44 ?_
    refine g_cV_IH (M := mX10_best) (pc := 27) (M' := mX10_finds) (rest := []) 30 dX10_best_27 rfl kX10_67 okX10_finds (CX10_finds (-1000000001) h L) oO32 rfl rfl rfl rfl (fun r2 h3 => ?_)
    exact g_iret (M := mX10_best) (pc := 30) dX10_best_30 rfl rfl (fun z => z)
  · refine g_iload_n (M := mX10_best) (pc := 12) 13 dX10_best_12 rfl rfl rfl ?_
    refine g_i2l (M := mX10_best) (pc := 13) 14 dX10_best_13 rfl ?_
    refine g_lconst (M := mX10_best) (pc := 14) (v := 0) 15 dX10_best_14 rfl rfl ?_
    refine g_ldc2 (M := mX10_best) (pc := 15) 18 dX10_best_15 rfl cX10_148 ?_
    refine g_cS_I (M := mX10_best) (pc := 18) (M' := mX10_in) (rest := []) 21 dX10_best_18 rfl kX10_45 okX10_in (CX10_in (Int32.toInt64 a2) 0 2 h L) rfl rfl rfl rfl (fun r4 => ?_)
    refine g_if_ne (M := mX10_best) (pc := 21) 31 24 dX10_best_21 (by decide) rfl (fun _ => ?_) (fun _ => ?_)
    · refine g_aload_n (M := mX10_best) (pc := 31) 32 dX10_best_31 rfl rfl rfl ?_
      refine g_iload_n (M := mX10_best) (pc := 32) 33 dX10_best_32 rfl rfl rfl ?_
      refine g_cV_VH (M := mX10_best) (pc := 33) (M' := mX10_findBest) (rest := []) 36 dX10_best_33 rfl kX10_150 okX10_findBest (CX10_findBest a1 h L) oO32 rfl rfl rfl rfl (fun h5 => ?_)
      refine g_iload_n (M := mX10_best) (pc := 36) 37 dX10_best_36 rfl rfl rfl ?_
      refine g_if_ne (M := mX10_best) (pc := 37) 47 40 dX10_best_37 (by decide) rfl (fun _ => ?_) (fun _ => ?_)
      · refine g_iload_n (M := mX10_best) (pc := 47) 48 dX10_best_47 rfl rfl rfl ?_
        refine g_iconst (M := mX10_best) (pc := 48) (v := 1) 49 dX10_best_48 rfl ic1 ?_
        refine g_icmp_ne (M := mX10_best) (pc := 49) 59 52 dX10_best_49 (by decide) rfl (fun _ => ?_) (fun _ => ?_)
        · refine g_aload_n (M := mX10_best) (pc := 59) 60 dX10_best_59 rfl rfl rfl ?_
          refine g_getI (M := mX10_best) (pc := 60) 63 dX10_best_60 rfl fX10_143 oF32_7 ?_
          exact g_iret (M := mX10_best) (pc := 63) dX10_best_63 rfl rfl (fun z => z)
        · refine g_aload_n (M := mX10_best) (pc := 52) 53 dX10_best_52 rfl rfl rfl ?_
          refine g_getI (M := mX10_best) (pc := 53) 56 dX10_best_53 rfl fX10_133 oF32_5 ?_
          refine g_goto (M := mX10_best) (pc := 56) 63 dX10_best_56 (by decide) ?_
          exact g_iret (M := mX10_best) (pc := 63) dX10_best_63 rfl rfl (fun z => z)
      · refine g_aload_n (M := mX10_best) (pc := 40) 41 dX10_best_40 rfl rfl rfl ?_
        refine g_getI (M := mX10_best) (pc := 41) 44 dX10_best_41 rfl fX10_140 oF32_6 ?_
        refine g_goto (M := mX10_best) (pc := 44) 63 dX10_best_44 (by decide) ?_
        exact g_iret (M := mX10_best) (pc := 63) dX10_best_63 rfl rfl (fun z => z)
    · refine g_aload_n (M := mX10_best) (pc := 24) 25 dX10_best_24 rfl rfl rfl ?_
      refine g_ldc (M := mX10_best) (pc := 25) 27 dX10_best_25 rfl cX10_44 ?_
      refine g_cV_IH (M := mX10_best) (pc := 27) (M' := mX10_finds) (rest := []) 30 dX10_best_27 rfl kX10_67 okX10_finds (CX10_finds (-1000000001) h L) oO32 rfl rfl rfl rfl (fun r6 h7 => ?_)
      exact g_iret (M := mX10_best) (pc := 30) dX10_best_30 rfl rfl (fun z => z)
def JX10_most_100 (a1 : Int32) (a2 : Int32) (a3 : Int32) (a4 : Int32) (a5 : Int32) (a6 : Int32) (a7 : Int32) (a8 : Int32) (s0 : Int32) (h : HI) : Option ((Int32 × Int32 × Int32) ⊕ (Int32)) :=
  if a6 < a8 then
    some (Sum.inl (a7, a8, (a7 + 1)))
  else
    if s0 = 0 then
      some (Sum.inl (a5, a6, (a7 + 1)))
    else
      some (Sum.inl (a7, a8, (a7 + 1)))
def JX10_most_99 (a1 : Int32) (a2 : Int32) (a3 : Int32) (a4 : Int32) (a5 : Int32) (a6 : Int32) (a7 : Int32) (a8 : Int32) (h : HI) : Option ((Int32 × Int32 × Int32) ⊕ (Int32)) :=
  JX10_most_100 a1 a2 a3 a4 a5 a6 a7 a8 0 h
def SX10_most_16 (a1 : Int32) (a2 : Int32) (a3 : Int32) (a4 : Int32) (h : HI) : (Int32 × Int32 × Int32) → Option ((Int32 × Int32 × Int32) ⊕ (Int32))
  | (a5, a6, a7) =>
    if (h 8 33 0) ≤ a7 then
      some (Sum.inr a5)
    else
      Option.bind (FX10_has a1 a7) fun r2 =>
      if r2 = 0 then
        Option.bind (FX10_its a7 2 h) fun r3 =>
        if a2 < r3 then
          some (Sum.inl (a5, a6, (a7 + 1)))
        else
          Option.bind (FX10_valueOf (a1 ||| (1 <<< (a7 &&& 31))) h) fun r4 =>
          nm (r4 - a4) fun t5 =>
          if a3 = 0 then
            JX10_most_99 a1 a2 a3 a4 a5 a6 a7 t5 h
          else
            if a5 < 0 then
              JX10_most_99 a1 a2 a3 a4 a5 a6 a7 t5 h
            else
              if t5 = a6 then
                Option.bind (FX10_its a7 2 h) fun r6 =>
                Option.bind (FX10_its a5 2 h) fun r7 =>
                if r7 ≤ r6 then
                  JX10_most_99 a1 a2 a3 a4 a5 a6 a7 t5 h
                else
                  JX10_most_100 a1 a2 a3 a4 a5 a6 a7 t5 1 h
              else
                JX10_most_99 a1 a2 a3 a4 a5 a6 a7 t5 h
      else
        some (Sum.inl (a5, a6, (a7 + 1)))
def FX10_most (a1 : Int32) (a2 : Int32) (a3 : Int32) (h : HI) : Option (Int32) :=
  Option.bind (FX10_valueOf a1 h) fun r1 =>
  Option.bind (loopN (SX10_most_16 a1 a2 a3 r1 h) FU ((-1), 0, 0)) fun e8 =>
    some e8
set_option maxRecDepth 100000 in
set_option maxHeartbeats 4000000 in
theorem JX10_most_100_ok (a1 : Int32) (a2 : Int32) (a3 : Int32) (a4 : Int32) (a5 : Int32) (a6 : Int32) (a7 : Int32) (a8 : Int32) (s0 : Int32) (T : ZT) (h : HI) (L : HL) : VX mX10_most 5 T (gS (fun s : Int32 × Int32 × Int32 => V mX10_most 5 T 16 [some (aR 8 32), some (aI a1), some (aI a2), some (aI a3), some (aI a4), some (aI (s.1)), some (aI (s.2.1)), some (aI (s.2.2)), none, none] [] h L) (fun s : Int32 => V mX10_most 5 T 128 [none, none, none, none, none, some (aI s), none, none, none, none] [] h L)) 100 [some (aR 8 32), some (aI a1), some (aI a2), some (aI a3), some (aI a4), some (aI a5), some (aI a6), some (aI a7), some (aI a8), none] [aI s0] h L (JX10_most_100 a1 a2 a3 a4 a5 a6 a7 a8 s0 h) := by
  unfold JX10_most_100
  refine g_istore (M := mX10_most) (pc := 100) (ls' := [some (aR 8 32), some (aI a1), some (aI a2), some (aI a3), some (aI a4), some (aI a5), some (aI a6), some (aI a7), some (aI a8), some (aI s0)]) 102 dX10_most_100 rfl rfl rfl ?_
  refine g_iload (M := mX10_most) (pc := 102) 104 dX10_most_102 rfl rfl ?_
  refine g_iload (M := mX10_most) (pc := 104) 106 dX10_most_104 rfl rfl ?_
  refine g_icmp_gt (M := mX10_most) (pc := 106) 114 109 dX10_most_106 (by decide) rfl (fun _ => ?_) (fun _ => ?_)
  · refine g_iload (M := mX10_most) (pc := 114) 116 dX10_most_114 rfl rfl ?_
    refine g_istore (M := mX10_most) (pc := 116) (ls' := [some (aR 8 32), some (aI a1), some (aI a2), some (aI a3), some (aI a4), some (aI a7), some (aI a6), some (aI a7), some (aI a8), some (aI s0)]) 118 dX10_most_116 rfl rfl rfl ?_
    refine g_iload (M := mX10_most) (pc := 118) 120 dX10_most_118 rfl rfl ?_
    refine g_istore (M := mX10_most) (pc := 120) (ls' := [some (aR 8 32), some (aI a1), some (aI a2), some (aI a3), some (aI a4), some (aI a7), some (aI a8), some (aI a7), some (aI a8), some (aI s0)]) 122 dX10_most_120 rfl rfl rfl ?_
    refine g_iinc (M := mX10_most) (pc := 122) (c := 1) (ls' := [some (aR 8 32), some (aI a1), some (aI a2), some (aI a3), some (aI a4), some (aI a7), some (aI a8), some (aI (a7 + 1)), some (aI a8), some (aI s0)]) 125 dX10_most_122 rfl ic1 rfl rfl rfl ?_
    refine g_goto (M := mX10_most) (pc := 125) 16 dX10_most_125 (by decide) ?_
    exact g_jmp (fun z => v_fgt [true, true, true, true, true, true, true, true, false, false] z)
  · refine g_iload (M := mX10_most) (pc := 109) 111 dX10_most_109 rfl rfl ?_
    refine g_if_eq (M := mX10_most) (pc := 111) 122 114 dX10_most_111 (by decide) rfl (fun _ => ?_) (fun _ => ?_)
    · refine g_iinc (M := mX10_most) (pc := 122) (c := 1) (ls' := [some (aR 8 32), some (aI a1), some (aI a2), some (aI a3), some (aI a4), some (aI a5), some (aI a6), some (aI (a7 + 1)), some (aI a8), some (aI s0)]) 125 dX10_most_122 rfl ic1 rfl rfl rfl ?_
      refine g_goto (M := mX10_most) (pc := 125) 16 dX10_most_125 (by decide) ?_
      exact g_jmp (fun z => v_fgt [true, true, true, true, true, true, true, true, false, false] z)
    · refine g_iload (M := mX10_most) (pc := 114) 116 dX10_most_114 rfl rfl ?_
      refine g_istore (M := mX10_most) (pc := 116) (ls' := [some (aR 8 32), some (aI a1), some (aI a2), some (aI a3), some (aI a4), some (aI a7), some (aI a6), some (aI a7), some (aI a8), some (aI s0)]) 118 dX10_most_116 rfl rfl rfl ?_
      refine g_iload (M := mX10_most) (pc := 118) 120 dX10_most_118 rfl rfl ?_
      refine g_istore (M := mX10_most) (pc := 120) (ls' := [some (aR 8 32), some (aI a1), some (aI a2), some (aI a3), some (aI a4), some (aI a7), some (aI a8), some (aI a7), some (aI a8), some (aI s0)]) 122 dX10_most_120 rfl rfl rfl ?_
      refine g_iinc (M := mX10_most) (pc := 122) (c := 1) (ls' := [some (aR 8 32), some (aI a1), some (aI a2), some (aI a3), some (aI a4), some (aI a7), some (aI a8), some (aI (a7 + 1)), some (aI a8), some (aI s0)]) 125 dX10_most_122 rfl ic1 rfl rfl rfl ?_
      refine g_goto (M := mX10_most) (pc := 125) 16 dX10_most_125 (by decide) ?_
      exact g_jmp (fun z => v_fgt [true, true, true, true, true, true, true, true, false, false] z)
set_option maxRecDepth 100000 in
set_option maxHeartbeats 4000000 in
theorem JX10_most_99_ok (a1 : Int32) (a2 : Int32) (a3 : Int32) (a4 : Int32) (a5 : Int32) (a6 : Int32) (a7 : Int32) (a8 : Int32) (T : ZT) (h : HI) (L : HL) : VX mX10_most 5 T (gS (fun s : Int32 × Int32 × Int32 => V mX10_most 5 T 16 [some (aR 8 32), some (aI a1), some (aI a2), some (aI a3), some (aI a4), some (aI (s.1)), some (aI (s.2.1)), some (aI (s.2.2)), none, none] [] h L) (fun s : Int32 => V mX10_most 5 T 128 [none, none, none, none, none, some (aI s), none, none, none, none] [] h L)) 99 [some (aR 8 32), some (aI a1), some (aI a2), some (aI a3), some (aI a4), some (aI a5), some (aI a6), some (aI a7), some (aI a8), none] [] h L (JX10_most_99 a1 a2 a3 a4 a5 a6 a7 a8 h) := by
  unfold JX10_most_99
  refine g_iconst (M := mX10_most) (pc := 99) (v := 0) 100 dX10_most_99 rfl ic0 ?_
  exact g_fgt [true, true, true, true, true, true, true, true, true, false] (JX10_most_100_ok a1 a2 a3 a4 a5 a6 a7 a8 0 T h L)
set_option maxRecDepth 100000 in
set_option maxHeartbeats 4000000 in
theorem SX10_most_16_ok (a1 : Int32) (a2 : Int32) (a3 : Int32) (a4 : Int32) (h : HI) (L : HL) (T : ZT) (a5 : Int32) (a6 : Int32) (a7 : Int32) : VX mX10_most 5 T (gS (fun s : Int32 × Int32 × Int32 => V mX10_most 5 T 16 [some (aR 8 32), some (aI a1), some (aI a2), some (aI a3), some (aI a4), some (aI (s.1)), some (aI (s.2.1)), some (aI (s.2.2)), none, none] [] h L) (fun s : Int32 => V mX10_most 5 T 128 [none, none, none, none, none, some (aI s), none, none, none, none] [] h L)) 16 [some (aR 8 32), some (aI a1), some (aI a2), some (aI a3), some (aI a4), some (aI a5), some (aI a6), some (aI a7), none, none] [] h L (SX10_most_16 a1 a2 a3 a4 h (a5, a6, a7)) := by
  unfold SX10_most_16
  refine g_iload (M := mX10_most) (pc := 16) 18 dX10_most_16 rfl rfl ?_
  refine g_aload_n (M := mX10_most) (pc := 18) 19 dX10_most_18 rfl rfl rfl ?_
  refine g_getR (M := mX10_most) (pc := 19) 22 dX10_most_19 rfl fX10_7 oR32_0 ?_
  refine g_iconst (M := mX10_most) (pc := 22) (v := 0) 23 dX10_most_22 rfl ic0 ?_
  refine g_ialdC (M := mX10_most) (pc := 23) (j := 0) 24 dX10_most_23 rfl oA33 rfl rfl ?_
  refine g_icmp_ge (M := mX10_most) (pc := 24) 128 27 dX10_most_24 (by decide) rfl (fun _ => ?_) (fun _ => ?_)
  · exact g_jmp (fun z => v_fgt [false, false, false, false, false, true, false, false, false, false] z)
  · refine g_iload_n (M := mX10_most) (pc := 27) 28 dX10_most_27 rfl rfl rfl ?_
    refine g_iload (M := mX10_most) (pc := 28) 30 dX10_most_28 rfl rfl ?_
    refine g_cS_I (M := mX10_most) (pc := 30) (M' := mX10_has) (rest := []) 33 dX10_most_30 rfl kX10_106 okX10_has (CX10_has a1 a7 h L) rfl rfl rfl rfl (fun r2 => ?_)
    refine g_if_ne (M := mX10_most) (pc := 33) 122 36 dX10_most_33 (by decide) rfl (fun _ => ?_) (fun _ => ?_)
    · refine g_iinc (M := mX10_most) (pc := 122) (c := 1) (ls' := [some (aR 8 32), some (aI a1), some (aI a2), some (aI a3), some (aI a4), some (aI a5), some (aI a6), some (aI (a7 + 1)), none, none]) 125 dX10_most_122 rfl ic1 rfl rfl rfl ?_
      refine g_goto (M := mX10_most) (pc := 125) 16 dX10_most_125 (by decide) ?_
      exact g_jmp (fun z => v_fgt [true, true, true, true, true, true, true, true, false, false] z)
    · refine g_aload_n (M := mX10_most) (pc := 36) 37 dX10_most_36 rfl rfl rfl ?_
      refine g_iload (M := mX10_most) (pc := 37) 39 dX10_most_37 rfl rfl ?_
      refine g_iconst (M := mX10_most) (pc := 39) (v := 2) 40 dX10_most_39 rfl ic2 ?_
      refine g_cV_I (M := mX10_most) (pc := 40) (M' := mX10_its) (rest := []) 43 dX10_most_40 rfl kX10_76 okX10_its (CX10_its a7 2 h L) oO32 rfl rfl rfl rfl (fun r3 => ?_)
      refine g_iload_n (M := mX10_most) (pc := 43) 44 dX10_most_43 rfl rfl rfl ?_
      refine g_icmp_gt (M := mX10_most) (pc := 44) 122 47 dX10_most_44 (by decide) rfl (fun _ => ?_) (fun _ => ?_)
      · refine g_iinc (M := mX10_most) (pc := 122) (c := 1) (ls' := [some (aR 8 32), some (aI a1), some (aI a2), some (aI a3), some (aI a4), some (aI a5), some (aI a6), some (aI (a7 + 1)), none, none]) 125 dX10_most_122 rfl ic1 rfl rfl rfl ?_
        refine g_goto (M := mX10_most) (pc := 125) 16 dX10_most_125 (by decide) ?_
        exact g_jmp (fun z => v_fgt [true, true, true, true, true, true, true, true, false, false] z)
      · refine g_aload_n (M := mX10_most) (pc := 47) 48 dX10_most_47 rfl rfl rfl ?_
        refine g_iload_n (M := mX10_most) (pc := 48) 49 dX10_most_48 rfl rfl rfl ?_
        refine g_iconst (M := mX10_most) (pc := 49) (v := 1) 50 dX10_most_49 rfl ic1 ?_
        refine g_iload (M := mX10_most) (pc := 50) 52 dX10_most_50 rfl rfl ?_
        refine g_ishl (M := mX10_most) (pc := 52) 53 dX10_most_52 rfl ?_
        refine g_ior (M := mX10_most) (pc := 53) 54 dX10_most_53 rfl ?_
        refine g_cV_I (M := mX10_most) (pc := 54) (M' := mX10_valueOf) (rest := []) 57 dX10_most_54 rfl kX10_126 okX10_valueOf (CX10_valueOf (a1 ||| (1 <<< (a7 &&& 31))) h L) oO32 rfl rfl rfl rfl (fun r4 => ?_)
        refine g_iload (M := mX10_most) (pc := 57) 59 dX10_most_57 rfl rfl ?_
        refine g_isub (M := mX10_most) (pc := 59) 60 dX10_most_59 rfl ?_
        refine g_nmI (fun t5 => ?_)
        refine g_istore (M := mX10_most) (pc := 60) (ls' := [some (aR 8 32), some (aI a1), some (aI a2), some (aI a3), some (aI a4), some (aI a5), some (aI a6), some (aI a7), some (aI t5), none]) 62 dX10_most_60 rfl rfl rfl ?_
        refine g_iload_n (M := mX10_most) (pc := 62) 63 dX10_most_62 rfl rfl rfl ?_
        refine g_if_eq (M := mX10_most) (pc := 63) 99 66 dX10_most_63 (by decide) rfl (fun _ => ?_) (fun _ => ?_)
        · exact g_fgt [true, true, true, true, true, true, true, true, true, false] (JX10_most_99_ok a1 a2 a3 a4 a5 a6 a7 t5 T h L)
        · refine g_iload (M := mX10_most) (pc := 66) 68 dX10_most_66 rfl rfl ?_
          refine g_if_lt (M := mX10_most) (pc := 68) 99 71 dX10_most_68 (by decide) rfl (fun _ => ?_) (fun _ => ?_)
          · exact g_fgt [true, true, true, true, true, true, true, true, true, false] (JX10_most_99_ok a1 a2 a3 a4 a5 a6 a7 t5 T h L)
          · refine g_iload (M := mX10_most) (pc := 71) 73 dX10_most_71 rfl rfl ?_
            refine g_iload (M := mX10_most) (pc := 73) 75 dX10_most_73 rfl rfl ?_
            refine g_icmp_ne (M := mX10_most) (pc := 75) 99 78 dX10_most_75 (by decide) rfl (fun _ => ?_) (fun _ => ?_)
            · exact g_fgt [true, true, true, true, true, true, true, true, true, false] (JX10_most_99_ok a1 a2 a3 a4 a5 a6 a7 t5 T h L)
            · refine g_aload_n (M := mX10_most) (pc := 78) 79 dX10_most_78 rfl rfl rfl ?_
              refine g_iload (M := mX10_most) (pc := 79) 81 dX10_most_79 rfl rfl ?_
              refine g_iconst (M := mX10_most) (pc := 81) (v := 2) 82 dX10_most_81 rfl ic2 ?_
              refine g_cV_I (M := mX10_most) (pc := 82) (M' := mX10_its) (rest := []) 85 dX10_most_82 rfl kX10_76 okX10_its (CX10_its a7 2 h L) oO32 rfl rfl rfl rfl (fun r6 => ?_)
              refine g_aload_n (M := mX10_most) (pc := 85) 86 dX10_most_85 rfl rfl rfl ?_
              refine g_iload (M := mX10_most) (pc := 86) 88 dX10_most_86 rfl rfl ?_
              refine g_iconst (M := mX10_most) (pc := 88) (v := 2) 89 dX10_most_88 rfl ic2 ?_
              refine g_cV_I (M := mX10_most) (pc := 89) (M' := mX10_its) (rest := [aI r6]) 92 dX10_most_89 rfl kX10_76 okX10_its (CX10_its a5 2 h L) oO32 rfl rfl rfl rfl (fun r7 => ?_)
              refine g_icmp_ge (M := mX10_most) (pc := 92) 99 95 dX10_most_92 (by decide) rfl (fun _ => ?_) (fun _ => ?_)
              · exact g_fgt [true, true, true, true, true, true, true, true, true, false] (JX10_most_99_ok a1 a2 a3 a4 a5 a6 a7 t5 T h L)
              · refine g_iconst (M := mX10_most) (pc := 95) (v := 1) 96 dX10_most_95 rfl ic1 ?_
                refine g_goto (M := mX10_most) (pc := 96) 100 dX10_most_96 (by decide) ?_
                exact g_fgt [true, true, true, true, true, true, true, true, true, false] (JX10_most_100_ok a1 a2 a3 a4 a5 a6 a7 t5 1 T h L)
set_option maxRecDepth 100000 in
set_option maxHeartbeats 4000000 in
theorem CX10_most (a1 : Int32) (a2 : Int32) (a3 : Int32) (h : HI) (L : HL) : CG mX10_most 5 [aR 8 32, aI a1, aI a2, aI a3] h L (lfI h L) (FX10_most a1 a2 a3 h) := by
  unfold FX10_most
  refine cg_of [some (aR 8 32), some (aI a1), some (aI a2), some (aI a3), none, none, none, none, none, none] rfl (by decide) rfl rfl (fun T => ?_)
  refine g_aload_n (M := mX10_most) (pc := 0) 1 dX10_most_0 rfl rfl rfl ?_
  refine g_iload_n (M := mX10_most) (pc := 1) 2 dX10_most_1 rfl rfl rfl ?_
  refine g_cV_I (M := mX10_most) (pc := 2) (M' := mX10_valueOf) (rest := []) 5 dX10_most_2 rfl kX10_126 okX10_valueOf (CX10_valueOf a1 h L) oO32 rfl rfl rfl rfl (fun r1 => ?_)
  refine g_istore (M := mX10_most) (pc := 5) (ls' := [some (aR 8 32), some (aI a1), some (aI a2), some (aI a3), some (aI r1), none, none, none, none, none]) 7 dX10_most_5 rfl rfl rfl ?_
  refine g_iconst (M := mX10_most) (pc := 7) (v := (-1)) 8 dX10_most_7 rfl icm1 ?_
  refine g_istore (M := mX10_most) (pc := 8) (ls' := [some (aR 8 32), some (aI a1), some (aI a2), some (aI a3), some (aI r1), some (aI (-1)), none, none, none, none]) 10 dX10_most_8 rfl rfl rfl ?_
  refine g_iconst (M := mX10_most) (pc := 10) (v := 0) 11 dX10_most_10 rfl ic0 ?_
  refine g_istore (M := mX10_most) (pc := 11) (ls' := [some (aR 8 32), some (aI a1), some (aI a2), some (aI a3), some (aI r1), some (aI (-1)), some (aI 0), none, none, none]) 13 dX10_most_11 rfl rfl rfl ?_
  refine g_iconst (M := mX10_most) (pc := 13) (v := 0) 14 dX10_most_13 rfl ic0 ?_
  refine g_istore (M := mX10_most) (pc := 14) (ls' := [some (aR 8 32), some (aI a1), some (aI a2), some (aI a3), some (aI r1), some (aI (-1)), some (aI 0), some (aI 0), none, none]) 16 dX10_most_14 rfl rfl rfl ?_
  refine g_loop (fun s => SX10_most_16_ok a1 a2 a3 r1 h L T s.1 s.2.1 s.2.2) ?_ (fun z => v_fgt [true, true, true, true, true, true, true, true, false, false] z)
  intro e8
  show VX mX10_most 5 T _ 128 [none, none, none, none, none, some (aI e8), none, none, none, none] [] h L _
  refine g_iload (M := mX10_most) (pc := 128) 130 dX10_most_128 rfl rfl ?_
  exact g_iret (M := mX10_most) (pc := 130) dX10_most_130 rfl rfl (fun z => z)
def SX10_greedy_44 (a2 : Int32) (h : HI) : (Int32 × Int32 × Int32) → Option ((Int32 × Int32 × Int32) ⊕ (Int32))
  | (a3, a4, a5) =>
    if a5 < 0 then
      some (Sum.inr a3)
    else
      nm (a3 ||| (1 <<< (a5 &&& 31))) fun t6 =>
      Option.bind (FX10_its a5 2 h) fun r7 =>
      nm (a4 - r7) fun t8 =>
      Option.bind (FX10_most t6 t8 1 h) fun r9 =>
      some (Sum.inl (t6, t8, r9))
def FX10_greedy (a1 : Int32) (a2 : Int32) (h : HI) : Option (Int32 × HI) :=
  Option.bind (FX10_in (Int32.toInt64 a1) 0 720) fun r1 =>
  if r1 = 0 then
    Option.bind (FX10_finds (-1000000001) h) fun (r2, h3) =>
    some (r2, h3)
  else
    Option.bind (FX10_in (Int32.toInt64 a2) 0 1) fun r4 =>
    if r4 = 0 then
      Option.bind (FX10_finds (-1000000001) h) fun (r12, h13) =>
      some (r12, h13)
    else
      Option.bind (FX10_most 0 a1 1 h) fun r5 =>
      Option.bind (loopN (SX10_greedy_44 a2 h) FU (0, a1, r5)) fun e10 =>
        if a2 = 0 then
          Option.bind (FX10_valueOf e10 h) fun r11 =>
          some (r11, h)
        else
          some (e10, h)
set_option maxRecDepth 100000 in
set_option maxHeartbeats 4000000 in
theorem SX10_greedy_44_ok (a2 : Int32) (h : HI) (L : HL) (T : ZT) (a3 : Int32) (a4 : Int32) (a5 : Int32) : VX mX10_greedy 6 T (gS (fun s : Int32 × Int32 × Int32 => V mX10_greedy 6 T 44 [some (aR 8 32), none, some (aI a2), some (aI (s.1)), some (aI (s.2.1)), some (aI (s.2.2))] [] h L) (fun s : Int32 => V mX10_greedy 6 T 81 [some (aR 8 32), none, some (aI a2), some (aI s), none, none] [] h L)) 44 [some (aR 8 32), none, some (aI a2), some (aI a3), some (aI a4), some (aI a5)] [] h L (SX10_greedy_44 a2 h (a3, a4, a5)) := by
  unfold SX10_greedy_44
  refine g_iload (M := mX10_greedy) (pc := 44) 46 dX10_greedy_44 rfl rfl ?_
  refine g_if_lt (M := mX10_greedy) (pc := 46) 81 49 dX10_greedy_46 (by decide) rfl (fun _ => ?_) (fun _ => ?_)
  · exact g_jmp (fun z => v_fgt [true, false, true, true, false, false] z)
  · refine g_iload_n (M := mX10_greedy) (pc := 49) 50 dX10_greedy_49 rfl rfl rfl ?_
    refine g_iconst (M := mX10_greedy) (pc := 50) (v := 1) 51 dX10_greedy_50 rfl ic1 ?_
    refine g_iload (M := mX10_greedy) (pc := 51) 53 dX10_greedy_51 rfl rfl ?_
    refine g_ishl (M := mX10_greedy) (pc := 53) 54 dX10_greedy_53 rfl ?_
    refine g_ior (M := mX10_greedy) (pc := 54) 55 dX10_greedy_54 rfl ?_
    refine g_nmI (fun t6 => ?_)
    refine g_istore_n (M := mX10_greedy) (pc := 55) (ls' := [some (aR 8 32), none, some (aI a2), some (aI t6), some (aI a4), some (aI a5)]) 56 dX10_greedy_55 rfl rfl rfl rfl ?_
    refine g_iload (M := mX10_greedy) (pc := 56) 58 dX10_greedy_56 rfl rfl ?_
    refine g_aload_n (M := mX10_greedy) (pc := 58) 59 dX10_greedy_58 rfl rfl rfl ?_
    refine g_iload (M := mX10_greedy) (pc := 59) 61 dX10_greedy_59 rfl rfl ?_
    refine g_iconst (M := mX10_greedy) (pc := 61) (v := 2) 62 dX10_greedy_61 rfl ic2 ?_
    refine g_cV_I (M := mX10_greedy) (pc := 62) (M' := mX10_its) (rest := [aI a4]) 65 dX10_greedy_62 rfl kX10_76 okX10_its (CX10_its a5 2 h L) oO32 rfl rfl rfl rfl (fun r7 => ?_)
    refine g_isub (M := mX10_greedy) (pc := 65) 66 dX10_greedy_65 rfl ?_
    refine g_nmI (fun t8 => ?_)
    refine g_istore (M := mX10_greedy) (pc := 66) (ls' := [some (aR 8 32), none, some (aI a2), some (aI t6), some (aI t8), some (aI a5)]) 68 dX10_greedy_66 rfl rfl rfl ?_
    refine g_aload_n (M := mX10_greedy) (pc := 68) 69 dX10_greedy_68 rfl rfl rfl ?_
    refine g_iload_n (M := mX10_greedy) (pc := 69) 70 dX10_greedy_69 rfl rfl rfl ?_
    refine g_iload (M := mX10_greedy) (pc := 70) 72 dX10_greedy_70 rfl rfl ?_
    refine g_iconst (M := mX10_greedy) (pc := 72) (v := 1) 73 dX10_greedy_72 rfl ic1 ?_
    refine g_cV_I (M := mX10_greedy) (pc := 73) (M' := mX10_most) (rest := []) 76 dX10_greedy_73 rfl kX10_154 okX10_most (CX10_most t6 t8 1 h L) oO32 rfl rfl rfl rfl (fun r9 => ?_)
    refine g_istore (M := mX10_greedy) (pc := 76) (ls' := [some (aR 8 32), none, some (aI a2), some (aI t6), some (aI t8), some (aI r9)]) 78 dX10_greedy_76 rfl rfl rfl ?_
    refine g_goto (M := mX10_greedy) (pc := 78) 44 dX10_greedy_78 (by decide) ?_
    exact g_jmp (fun z => v_fgt [true, false, true, true, true, true] z)
set_option maxRecDepth 100000 in
set_option maxHeartbeats 4000000 in
theorem CX10_greedy (a1 : Int32) (a2 : Int32) (h : HI) (L : HL) : CG mX10_greedy 6 [aR 8 32, aI a1, aI a2] h L (lfIH L) (FX10_greedy a1 a2 h) := by
  unfold FX10_greedy
  refine cg_of [some (aR 8 32), some (aI a1), some (aI a2), none, none, none] rfl (by decide) rfl rfl (fun T => ?_)
  refine g_iload_n (M := mX10_greedy) (pc := 0) 1 dX10_greedy_0 rfl rfl rfl ?_
  refine g_i2l (M := mX10_greedy) (pc := 1) 2 dX10_greedy_1 rfl ?_
  refine g_lconst (M := mX10_greedy) (pc := 2) (v := 0) 3 dX10_greedy_2 rfl rfl ?_
  refine g_ldc2 (M := mX10_greedy) (pc := 3) 6 dX10_greedy_3 rfl cX10_146 ?_
  refine g_cS_I (M := mX10_greedy) (pc := 6) (M' := mX10_in) (rest := []) 9 dX10_greedy_6 rfl kX10_45 okX10_in (CX10_in (Int32.toInt64 a1) 0 720 h L) rfl rfl rfl rfl (fun r1 => ?_)
  refine g_if_eq (M := mX10_greedy) (pc := 9) 22 12 dX10_greedy_9 (by decide) rfl (fun _ => ?_) (fun _ => ?_)
  · refine g_aload_n (M := mX10_greedy) (pc := 22) 23 dX10_greedy_22 rfl rfl rfl ?_
    refine g_ldc (M := mX10_greedy) (pc := 23) 25 dX10_greedy_23 rfl cX10_44 ?_
    refine g_cV_IH (M := mX10_greedy) (pc := 25) (M' := mX10_finds) (rest := []) 28 dX10_greedy_25 rfl kX10_67 okX10_finds (CX10_finds (-1000000001) h L) oO32 rfl rfl rfl rfl (fun r2 h3 => ?_)
    exact g_iret (M := mX10_greedy) (pc := 28) dX10_greedy_28 rfl rfl (fun z => z)
  · refine g_iload_n (M := mX10_greedy) (pc := 12) 13 dX10_greedy_12 rfl rfl rfl ?_
    refine g_i2l (M := mX10_greedy) (pc := 13) 14 dX10_greedy_13 rfl ?_
    refine g_lconst (M := mX10_greedy) (pc := 14) (v := 0) 15 dX10_greedy_14 rfl rfl ?_
    refine g_lconst (M := mX10_greedy) (pc := 15) (v := 1) 16 dX10_greedy_15 rfl rfl ?_
    refine g_cS_I (M := mX10_greedy) (pc := 16) (M' := mX10_in) (rest := []) 19 dX10_greedy_16 rfl kX10_45 okX10_in (CX10_in (Int32.toInt64 a2) 0 1 h L) rfl rfl rfl rfl (fun r4 => ?_)
    refine g_if_ne (M := mX10_greedy) (pc := 19) 29 22 dX10_greedy_19 (by decide) rfl (fun _ => ?_) (fun _ => ?_)
    · refine g_iconst (M := mX10_greedy) (pc := 29) (v := 0) 30 dX10_greedy_29 rfl ic0 ?_
      refine g_istore_n (M := mX10_greedy) (pc := 30) (ls' := [some (aR 8 32), some (aI a1), some (aI a2), some (aI 0), none, none]) 31 dX10_greedy_30 rfl rfl rfl rfl ?_
      refine g_iload_n (M := mX10_greedy) (pc := 31) 32 dX10_greedy_31 rfl rfl rfl ?_
      refine g_istore (M := mX10_greedy) (pc := 32) (ls' := [some (aR 8 32), some (aI a1), some (aI a2), some (aI 0), some (aI a1), none]) 34 dX10_greedy_32 rfl rfl rfl ?_
      refine g_aload_n (M := mX10_greedy) (pc := 34) 35 dX10_greedy_34 rfl rfl rfl ?_
      refine g_iload_n (M := mX10_greedy) (pc := 35) 36 dX10_greedy_35 rfl rfl rfl ?_
      refine g_iload (M := mX10_greedy) (pc := 36) 38 dX10_greedy_36 rfl rfl ?_
      refine g_iconst (M := mX10_greedy) (pc := 38) (v := 1) 39 dX10_greedy_38 rfl ic1 ?_
      refine g_cV_I (M := mX10_greedy) (pc := 39) (M' := mX10_most) (rest := []) 42 dX10_greedy_39 rfl kX10_154 okX10_most (CX10_most 0 a1 1 h L) oO32 rfl rfl rfl rfl (fun r5 => ?_)
      refine g_istore (M := mX10_greedy) (pc := 42) (ls' := [some (aR 8 32), some (aI a1), some (aI a2), some (aI 0), some (aI a1), some (aI r5)]) 44 dX10_greedy_42 rfl rfl rfl ?_
      refine g_loop (fun s => SX10_greedy_44_ok a2 h L T s.1 s.2.1 s.2.2) ?_ (fun z => v_fgt [true, false, true, true, true, true] z)
      intro e10
      show VX mX10_greedy 6 T _ 81 [some (aR 8 32), none, some (aI a2), some (aI e10), none, none] [] h L _
      refine g_iload_n (M := mX10_greedy) (pc := 81) 82 dX10_greedy_81 rfl rfl rfl ?_
      refine g_if_ne (M := mX10_greedy) (pc := 82) 93 85 dX10_greedy_82 (by decide) rfl (fun _ => ?_) (fun _ => ?_)
      · refine g_iload_n (M := mX10_greedy) (pc := 93) 94 dX10_greedy_93 rfl rfl rfl ?_
        exact g_iret (M := mX10_greedy) (pc := 94) dX10_greedy_94 rfl rfl (fun z => z)
      · refine g_aload_n (M := mX10_greedy) (pc := 85) 86 dX10_greedy_85 rfl rfl rfl ?_
        refine g_iload_n (M := mX10_greedy) (pc := 86) 87 dX10_greedy_86 rfl rfl rfl ?_
        refine g_cV_I (M := mX10_greedy) (pc := 87) (M' := mX10_valueOf) (rest := []) 90 dX10_greedy_87 rfl kX10_126 okX10_valueOf (CX10_valueOf e10 h L) oO32 rfl rfl rfl rfl (fun r11 => ?_)
        refine g_goto (M := mX10_greedy) (pc := 90) 94 dX10_greedy_90 (by decide) ?_
        exact g_iret (M := mX10_greedy) (pc := 94) dX10_greedy_94 rfl rfl (fun z => z)
    · refine g_aload_n (M := mX10_greedy) (pc := 22) 23 dX10_greedy_22 rfl rfl rfl ?_
      refine g_ldc (M := mX10_greedy) (pc := 23) 25 dX10_greedy_23 rfl cX10_44 ?_
      refine g_cV_IH (M := mX10_greedy) (pc := 25) (M' := mX10_finds) (rest := []) 28 dX10_greedy_25 rfl kX10_67 okX10_finds (CX10_finds (-1000000001) h L) oO32 rfl rfl rfl rfl (fun r12 h13 => ?_)
      exact g_iret (M := mX10_greedy) (pc := 28) dX10_greedy_28 rfl rfl (fun z => z)
def FX10_next (a1 : Int32) (h : HI) : Option (Int32 × HI) :=
  Option.bind (FX10_isSet a1 h) fun r1 =>
  if r1 = 0 then
    Option.bind (FX10_finds (-1000000001) h) fun (r5, h6) =>
    some (r5, h6)
  else
    Option.bind (FX10_most a1 60 0 h) fun r2 =>
    if 0 ≤ r2 then
      some (r2, h)
    else
      Option.bind (FX10_finds (-1000000004) h) fun (r3, h4) =>
      some (r3, h4)
set_option maxRecDepth 100000 in
set_option maxHeartbeats 4000000 in
theorem CX10_next (a1 : Int32) (h : HI) (L : HL) : CG mX10_next 6 [aR 8 32, aI a1] h L (lfIH L) (FX10_next a1 h) := by
  unfold FX10_next
  refine cg_of [some (aR 8 32), some (aI a1), none] rfl (by decide) rfl rfl (fun T => ?_)
  refine g_aload_n (M := mX10_next) (pc := 0) 1 dX10_next_0 rfl rfl rfl ?_
  refine g_iload_n (M := mX10_next) (pc := 1) 2 dX10_next_1 rfl rfl rfl ?_
  refine g_cV_I (M := mX10_next) (pc := 2) (M' := mX10_isSet) (rest := []) 5 dX10_next_2 rfl kX10_109 okX10_isSet (CX10_isSet a1 h L) oO32 rfl rfl rfl rfl (fun r1 => ?_)
  refine g_if_ne (M := mX10_next) (pc := 5) 15 8 dX10_next_5 (by decide) rfl (fun _ => ?_) (fun _ => ?_)
  · refine g_aload_n (M := mX10_next) (pc := 15) 16 dX10_next_15 rfl rfl rfl ?_
    refine g_iload_n (M := mX10_next) (pc := 16) 17 dX10_next_16 rfl rfl rfl ?_
    refine g_bipush (M := mX10_next) (pc := 17) (v := 60) 19 dX10_next_17 rfl bp60 ?_
    refine g_iconst (M := mX10_next) (pc := 19) (v := 0) 20 dX10_next_19 rfl ic0 ?_
    refine g_cV_I (M := mX10_next) (pc := 20) (M' := mX10_most) (rest := []) 23 dX10_next_20 rfl kX10_154 okX10_most (CX10_most a1 60 0 h L) oO32 rfl rfl rfl rfl (fun r2 => ?_)
    refine g_istore_n (M := mX10_next) (pc := 23) (ls' := [some (aR 8 32), some (aI a1), some (aI r2)]) 24 dX10_next_23 rfl rfl rfl rfl ?_
    refine g_iload_n (M := mX10_next) (pc := 24) 25 dX10_next_24 rfl rfl rfl ?_
    refine g_if_ge (M := mX10_next) (pc := 25) 37 28 dX10_next_25 (by decide) rfl (fun _ => ?_) (fun _ => ?_)
    · refine g_iload_n (M := mX10_next) (pc := 37) 38 dX10_next_37 rfl rfl rfl ?_
      exact g_iret (M := mX10_next) (pc := 38) dX10_next_38 rfl rfl (fun z => z)
    · refine g_aload_n (M := mX10_next) (pc := 28) 29 dX10_next_28 rfl rfl rfl ?_
      refine g_ldc (M := mX10_next) (pc := 29) 31 dX10_next_29 rfl cX10_132 ?_
      refine g_cV_IH (M := mX10_next) (pc := 31) (M' := mX10_finds) (rest := []) 34 dX10_next_31 rfl kX10_67 okX10_finds (CX10_finds (-1000000004) h L) oO32 rfl rfl rfl rfl (fun r3 h4 => ?_)
      refine g_goto (M := mX10_next) (pc := 34) 38 dX10_next_34 (by decide) ?_
      exact g_iret (M := mX10_next) (pc := 38) dX10_next_38 rfl rfl (fun z => z)
  · refine g_aload_n (M := mX10_next) (pc := 8) 9 dX10_next_8 rfl rfl rfl ?_
    refine g_ldc (M := mX10_next) (pc := 9) 11 dX10_next_9 rfl cX10_44 ?_
    refine g_cV_IH (M := mX10_next) (pc := 11) (M' := mX10_finds) (rest := []) 14 dX10_next_11 rfl kX10_67 okX10_finds (CX10_finds (-1000000001) h L) oO32 rfl rfl rfl rfl (fun r5 h6 => ?_)
    exact g_iret (M := mX10_next) (pc := 14) dX10_next_14 rfl rfl (fun z => z)
def JX10_spare_58 (a1 : Int32) (a2 : Int32) (a3 : Int32) (a4 : Int32) (s0 : Int32) (h : HI) : Option ((Int32 × Int32 × Int32) ⊕ (Int32)) :=
  if s0 < 0 then
    some (Sum.inl (a2, a3, (a4 + 1)))
  else
    if a2 < 0 then
      some (Sum.inl (a4, s0, (a4 + 1)))
    else
      if s0 ≤ a3 then
        some (Sum.inl (a2, a3, (a4 + 1)))
      else
        some (Sum.inl (a4, s0, (a4 + 1)))
def SX10_spare_22 (a1 : Int32) (h : HI) : (Int32 × Int32 × Int32) → Option ((Int32 × Int32 × Int32) ⊕ (Int32))
  | (a2, a3, a4) =>
    if (h 8 33 0) ≤ a4 then
      some (Sum.inr a2)
    else
      Option.bind (FX10_has a1 a4) fun r2 =>
      if r2 = 0 then
        JX10_spare_58 a1 a2 a3 a4 (-1) h
      else
        Option.bind (FX10_valueOf (a1 &&& ((1 <<< (a4 &&& 31)) ^^^ (-1))) h) fun r3 =>
        JX10_spare_58 a1 a2 a3 a4 r3 h
def FX10_spare (a1 : Int32) (h : HI) : Option (Int32 × HI) :=
  Option.bind (FX10_isSet a1 h) fun r1 =>
  if r1 = 0 then
    Option.bind (FX10_finds (-1000000001) h) fun (r7, h8) =>
    some (r7, h8)
  else
    Option.bind (loopN (SX10_spare_22 a1 h) FU ((-1), 0, 0)) fun e4 =>
      if 0 ≤ e4 then
        some (e4, h)
      else
        Option.bind (FX10_finds (-1000000004) h) fun (r5, h6) =>
        some (r5, h6)
set_option maxRecDepth 100000 in
set_option maxHeartbeats 4000000 in
theorem JX10_spare_58_ok (a1 : Int32) (a2 : Int32) (a3 : Int32) (a4 : Int32) (s0 : Int32) (T : ZT) (h : HI) (L : HL) : VX mX10_spare 5 T (gS (fun s : Int32 × Int32 × Int32 => V mX10_spare 5 T 22 [some (aR 8 32), some (aI a1), some (aI (s.1)), some (aI (s.2.1)), some (aI (s.2.2)), none] [] h L) (fun s : Int32 => V mX10_spare 5 T 87 [some (aR 8 32), none, some (aI s), none, none, none] [] h L)) 58 [some (aR 8 32), some (aI a1), some (aI a2), some (aI a3), some (aI a4), none] [aI s0] h L (JX10_spare_58 a1 a2 a3 a4 s0 h) := by
  unfold JX10_spare_58
  refine g_istore (M := mX10_spare) (pc := 58) (ls' := [some (aR 8 32), some (aI a1), some (aI a2), some (aI a3), some (aI a4), some (aI s0)]) 60 dX10_spare_58 rfl rfl rfl ?_
  refine g_iload (M := mX10_spare) (pc := 60) 62 dX10_spare_60 rfl rfl ?_
  refine g_if_lt (M := mX10_spare) (pc := 62) 81 65 dX10_spare_62 (by decide) rfl (fun _ => ?_) (fun _ => ?_)
  · refine g_iinc (M := mX10_spare) (pc := 81) (c := 1) (ls' := [some (aR 8 32), some (aI a1), some (aI a2), some (aI a3), some (aI (a4 + 1)), some (aI s0)]) 84 dX10_spare_81 rfl ic1 rfl rfl rfl ?_
    refine g_goto (M := mX10_spare) (pc := 84) 22 dX10_spare_84 (by decide) ?_
    exact g_jmp (fun z => v_fgt [true, true, true, true, true, false] z)
  · refine g_iload_n (M := mX10_spare) (pc := 65) 66 dX10_spare_65 rfl rfl rfl ?_
    refine g_if_lt (M := mX10_spare) (pc := 66) 75 69 dX10_spare_66 (by decide) rfl (fun _ => ?_) (fun _ => ?_)
    · refine g_iload (M := mX10_spare) (pc := 75) 77 dX10_spare_75 rfl rfl ?_
      refine g_istore_n (M := mX10_spare) (pc := 77) (ls' := [some (aR 8 32), some (aI a1), some (aI a4), some (aI a3), some (aI a4), some (aI s0)]) 78 dX10_spare_77 rfl rfl rfl rfl ?_
      refine g_iload (M := mX10_spare) (pc := 78) 80 dX10_spare_78 rfl rfl ?_
      refine g_istore_n (M := mX10_spare) (pc := 80) (ls' := [some (aR 8 32), some (aI a1), some (aI a4), some (aI s0), some (aI a4), some (aI s0)]) 81 dX10_spare_80 rfl rfl rfl rfl ?_
      refine g_iinc (M := mX10_spare) (pc := 81) (c := 1) (ls' := [some (aR 8 32), some (aI a1), some (aI a4), some (aI s0), some (aI (a4 + 1)), some (aI s0)]) 84 dX10_spare_81 rfl ic1 rfl rfl rfl ?_
      refine g_goto (M := mX10_spare) (pc := 84) 22 dX10_spare_84 (by decide) ?_
      exact g_jmp (fun z => v_fgt [true, true, true, true, true, false] z)
    · refine g_iload (M := mX10_spare) (pc := 69) 71 dX10_spare_69 rfl rfl ?_
      refine g_iload_n (M := mX10_spare) (pc := 71) 72 dX10_spare_71 rfl rfl rfl ?_
      refine g_icmp_le (M := mX10_spare) (pc := 72) 81 75 dX10_spare_72 (by decide) rfl (fun _ => ?_) (fun _ => ?_)
      · refine g_iinc (M := mX10_spare) (pc := 81) (c := 1) (ls' := [some (aR 8 32), some (aI a1), some (aI a2), some (aI a3), some (aI (a4 + 1)), some (aI s0)]) 84 dX10_spare_81 rfl ic1 rfl rfl rfl ?_
        refine g_goto (M := mX10_spare) (pc := 84) 22 dX10_spare_84 (by decide) ?_
        exact g_jmp (fun z => v_fgt [true, true, true, true, true, false] z)
      · refine g_iload (M := mX10_spare) (pc := 75) 77 dX10_spare_75 rfl rfl ?_
        refine g_istore_n (M := mX10_spare) (pc := 77) (ls' := [some (aR 8 32), some (aI a1), some (aI a4), some (aI a3), some (aI a4), some (aI s0)]) 78 dX10_spare_77 rfl rfl rfl rfl ?_
        refine g_iload (M := mX10_spare) (pc := 78) 80 dX10_spare_78 rfl rfl ?_
        refine g_istore_n (M := mX10_spare) (pc := 80) (ls' := [some (aR 8 32), some (aI a1), some (aI a4), some (aI s0), some (aI a4), some (aI s0)]) 81 dX10_spare_80 rfl rfl rfl rfl ?_
        refine g_iinc (M := mX10_spare) (pc := 81) (c := 1) (ls' := [some (aR 8 32), some (aI a1), some (aI a4), some (aI s0), some (aI (a4 + 1)), some (aI s0)]) 84 dX10_spare_81 rfl ic1 rfl rfl rfl ?_
        refine g_goto (M := mX10_spare) (pc := 84) 22 dX10_spare_84 (by decide) ?_
        exact g_jmp (fun z => v_fgt [true, true, true, true, true, false] z)
set_option maxRecDepth 100000 in
set_option maxHeartbeats 4000000 in
theorem SX10_spare_22_ok (a1 : Int32) (h : HI) (L : HL) (T : ZT) (a2 : Int32) (a3 : Int32) (a4 : Int32) : VX mX10_spare 5 T (gS (fun s : Int32 × Int32 × Int32 => V mX10_spare 5 T 22 [some (aR 8 32), some (aI a1), some (aI (s.1)), some (aI (s.2.1)), some (aI (s.2.2)), none] [] h L) (fun s : Int32 => V mX10_spare 5 T 87 [some (aR 8 32), none, some (aI s), none, none, none] [] h L)) 22 [some (aR 8 32), some (aI a1), some (aI a2), some (aI a3), some (aI a4), none] [] h L (SX10_spare_22 a1 h (a2, a3, a4)) := by
  unfold SX10_spare_22
  refine g_iload (M := mX10_spare) (pc := 22) 24 dX10_spare_22 rfl rfl ?_
  refine g_aload_n (M := mX10_spare) (pc := 24) 25 dX10_spare_24 rfl rfl rfl ?_
  refine g_getR (M := mX10_spare) (pc := 25) 28 dX10_spare_25 rfl fX10_7 oR32_0 ?_
  refine g_iconst (M := mX10_spare) (pc := 28) (v := 0) 29 dX10_spare_28 rfl ic0 ?_
  refine g_ialdC (M := mX10_spare) (pc := 29) (j := 0) 30 dX10_spare_29 rfl oA33 rfl rfl ?_
  refine g_icmp_ge (M := mX10_spare) (pc := 30) 87 33 dX10_spare_30 (by decide) rfl (fun _ => ?_) (fun _ => ?_)
  · exact g_jmp (fun z => v_fgt [true, false, true, false, false, false] z)
  · refine g_iload_n (M := mX10_spare) (pc := 33) 34 dX10_spare_33 rfl rfl rfl ?_
    refine g_iload (M := mX10_spare) (pc := 34) 36 dX10_spare_34 rfl rfl ?_
    refine g_cS_I (M := mX10_spare) (pc := 36) (M' := mX10_has) (rest := []) 39 dX10_spare_36 rfl kX10_106 okX10_has (CX10_has a1 a4 h L) rfl rfl rfl rfl (fun r2 => ?_)
    refine g_if_eq (M := mX10_spare) (pc := 39) 57 42 dX10_spare_39 (by decide) rfl (fun _ => ?_) (fun _ => ?_)
    · refine g_iconst (M := mX10_spare) (pc := 57) (v := (-1)) 58 dX10_spare_57 rfl icm1 ?_
      exact g_fgt [true, true, true, true, true, false] (JX10_spare_58_ok a1 a2 a3 a4 (-1) T h L)
    · refine g_aload_n (M := mX10_spare) (pc := 42) 43 dX10_spare_42 rfl rfl rfl ?_
      refine g_iload_n (M := mX10_spare) (pc := 43) 44 dX10_spare_43 rfl rfl rfl ?_
      refine g_iconst (M := mX10_spare) (pc := 44) (v := 1) 45 dX10_spare_44 rfl ic1 ?_
      refine g_iload (M := mX10_spare) (pc := 45) 47 dX10_spare_45 rfl rfl ?_
      refine g_ishl (M := mX10_spare) (pc := 47) 48 dX10_spare_47 rfl ?_
      refine g_iconst (M := mX10_spare) (pc := 48) (v := (-1)) 49 dX10_spare_48 rfl icm1 ?_
      refine g_ixor (M := mX10_spare) (pc := 49) 50 dX10_spare_49 rfl ?_
      refine g_iand (M := mX10_spare) (pc := 50) 51 dX10_spare_50 rfl ?_
      refine g_cV_I (M := mX10_spare) (pc := 51) (M' := mX10_valueOf) (rest := []) 54 dX10_spare_51 rfl kX10_126 okX10_valueOf (CX10_valueOf (a1 &&& ((1 <<< (a4 &&& 31)) ^^^ (-1))) h L) oO32 rfl rfl rfl rfl (fun r3 => ?_)
      refine g_goto (M := mX10_spare) (pc := 54) 58 dX10_spare_54 (by decide) ?_
      exact g_fgt [true, true, true, true, true, false] (JX10_spare_58_ok a1 a2 a3 a4 r3 T h L)
set_option maxRecDepth 100000 in
set_option maxHeartbeats 4000000 in
theorem CX10_spare (a1 : Int32) (h : HI) (L : HL) : CG mX10_spare 5 [aR 8 32, aI a1] h L (lfIH L) (FX10_spare a1 h) := by
  unfold FX10_spare
  refine cg_of [some (aR 8 32), some (aI a1), none, none, none, none] rfl (by decide) rfl rfl (fun T => ?_)
  refine g_aload_n (M := mX10_spare) (pc := 0) 1 dX10_spare_0 rfl rfl rfl ?_
  refine g_iload_n (M := mX10_spare) (pc := 1) 2 dX10_spare_1 rfl rfl rfl ?_
  refine g_cV_I (M := mX10_spare) (pc := 2) (M' := mX10_isSet) (rest := []) 5 dX10_spare_2 rfl kX10_109 okX10_isSet (CX10_isSet a1 h L) oO32 rfl rfl rfl rfl (fun r1 => ?_)
  refine g_if_ne (M := mX10_spare) (pc := 5) 15 8 dX10_spare_5 (by decide) rfl (fun _ => ?_) (fun _ => ?_)
  · refine g_iconst (M := mX10_spare) (pc := 15) (v := (-1)) 16 dX10_spare_15 rfl icm1 ?_
    refine g_istore_n (M := mX10_spare) (pc := 16) (ls' := [some (aR 8 32), some (aI a1), some (aI (-1)), none, none, none]) 17 dX10_spare_16 rfl rfl rfl rfl ?_
    refine g_iconst (M := mX10_spare) (pc := 17) (v := 0) 18 dX10_spare_17 rfl ic0 ?_
    refine g_istore_n (M := mX10_spare) (pc := 18) (ls' := [some (aR 8 32), some (aI a1), some (aI (-1)), some (aI 0), none, none]) 19 dX10_spare_18 rfl rfl rfl rfl ?_
    refine g_iconst (M := mX10_spare) (pc := 19) (v := 0) 20 dX10_spare_19 rfl ic0 ?_
    refine g_istore (M := mX10_spare) (pc := 20) (ls' := [some (aR 8 32), some (aI a1), some (aI (-1)), some (aI 0), some (aI 0), none]) 22 dX10_spare_20 rfl rfl rfl ?_
    refine g_loop (fun s => SX10_spare_22_ok a1 h L T s.1 s.2.1 s.2.2) ?_ (fun z => v_fgt [true, true, true, true, true, false] z)
    intro e4
    show VX mX10_spare 5 T _ 87 [some (aR 8 32), none, some (aI e4), none, none, none] [] h L _
    refine g_iload_n (M := mX10_spare) (pc := 87) 88 dX10_spare_87 rfl rfl rfl ?_
    refine g_if_ge (M := mX10_spare) (pc := 88) 100 91 dX10_spare_88 (by decide) rfl (fun _ => ?_) (fun _ => ?_)
    · refine g_iload_n (M := mX10_spare) (pc := 100) 101 dX10_spare_100 rfl rfl rfl ?_
      exact g_iret (M := mX10_spare) (pc := 101) dX10_spare_101 rfl rfl (fun z => z)
    · refine g_aload_n (M := mX10_spare) (pc := 91) 92 dX10_spare_91 rfl rfl rfl ?_
      refine g_ldc (M := mX10_spare) (pc := 92) 94 dX10_spare_92 rfl cX10_132 ?_
      refine g_cV_IH (M := mX10_spare) (pc := 94) (M' := mX10_finds) (rest := []) 97 dX10_spare_94 rfl kX10_67 okX10_finds (CX10_finds (-1000000004) h L) oO32 rfl rfl rfl rfl (fun r5 h6 => ?_)
      refine g_goto (M := mX10_spare) (pc := 97) 101 dX10_spare_97 (by decide) ?_
      exact g_iret (M := mX10_spare) (pc := 101) dX10_spare_101 rfl rfl (fun z => z)
  · refine g_aload_n (M := mX10_spare) (pc := 8) 9 dX10_spare_8 rfl rfl rfl ?_
    refine g_ldc (M := mX10_spare) (pc := 9) 11 dX10_spare_9 rfl cX10_44 ?_
    refine g_cV_IH (M := mX10_spare) (pc := 11) (M' := mX10_finds) (rest := []) 14 dX10_spare_11 rfl kX10_67 okX10_finds (CX10_finds (-1000000001) h L) oO32 rfl rfl rfl rfl (fun r7 h8 => ?_)
    exact g_iret (M := mX10_spare) (pc := 14) dX10_spare_14 rfl rfl (fun z => z)
def JX10_minutesFor_44 (a1 : Int32) (a2 : Int32) (a3 : Int32) (a4 : Int32) (h : HI) : Option ((Int32 × Int32) ⊕ (Int32)) :=
  Option.bind (FX10_valueOf a3 h) fun r2 =>
  if r2 < a1 then
    some (Sum.inl (a2, (a3 + 1)))
  else
    some (Sum.inl (a4, (a3 + 1)))
def SX10_minutesFor_15 (a1 : Int32) (h : HI) : (Int32 × Int32) → Option ((Int32 × Int32) ⊕ (Int32))
  | (a2, a3) =>
    if (1 <<< ((h 8 33 0) &&& 31)) ≤ a3 then
      some (Sum.inr a2)
    else
      Option.bind (FX10_minutesOf a3 h) fun r1 =>
      if a2 < 0 then
        JX10_minutesFor_44 a1 a2 a3 r1 h
      else
        if a2 ≤ r1 then
          some (Sum.inl (a2, (a3 + 1)))
        else
          JX10_minutesFor_44 a1 a2 a3 r1 h
def FX10_minutesFor (a1 : Int32) (h : HI) : Option (Int32 × HI) :=
  if 0 ≤ a1 then
    Option.bind (loopN (SX10_minutesFor_15 a1 h) FU ((-1), 0)) fun e3 =>
      if 0 ≤ e3 then
        some (e3, h)
      else
        Option.bind (FX10_finds (-1000000004) h) fun (r4, h5) =>
        some (r4, h5)
  else
    Option.bind (FX10_finds (-1000000001) h) fun (r6, h7) =>
    some (r6, h7)
set_option maxRecDepth 100000 in
set_option maxHeartbeats 4000000 in
theorem JX10_minutesFor_44_ok (a1 : Int32) (a2 : Int32) (a3 : Int32) (a4 : Int32) (T : ZT) (h : HI) (L : HL) : VX mX10_minutesFor 5 T (gS (fun s : Int32 × Int32 => V mX10_minutesFor 5 T 15 [some (aR 8 32), some (aI a1), some (aI (s.1)), some (aI (s.2)), none] [] h L) (fun s : Int32 => V mX10_minutesFor 5 T 66 [some (aR 8 32), none, some (aI s), none, none] [] h L)) 44 [some (aR 8 32), some (aI a1), some (aI a2), some (aI a3), some (aI a4)] [] h L (JX10_minutesFor_44 a1 a2 a3 a4 h) := by
  unfold JX10_minutesFor_44
  refine g_aload_n (M := mX10_minutesFor) (pc := 44) 45 dX10_minutesFor_44 rfl rfl rfl ?_
  refine g_iload_n (M := mX10_minutesFor) (pc := 45) 46 dX10_minutesFor_45 rfl rfl rfl ?_
  refine g_cV_I (M := mX10_minutesFor) (pc := 46) (M' := mX10_valueOf) (rest := []) 49 dX10_minutesFor_46 rfl kX10_126 okX10_valueOf (CX10_valueOf a3 h L) oO32 rfl rfl rfl rfl (fun r2 => ?_)
  refine g_iload_n (M := mX10_minutesFor) (pc := 49) 50 dX10_minutesFor_49 rfl rfl rfl ?_
  refine g_icmp_lt (M := mX10_minutesFor) (pc := 50) 58 53 dX10_minutesFor_50 (by decide) rfl (fun _ => ?_) (fun _ => ?_)
  · refine g_iload_n (M := mX10_minutesFor) (pc := 58) 59 dX10_minutesFor_58 rfl rfl rfl ?_
    refine g_istore_n (M := mX10_minutesFor) (pc := 59) (ls' := [some (aR 8 32), some (aI a1), some (aI a2), some (aI a3), some (aI a4)]) 60 dX10_minutesFor_59 rfl rfl rfl rfl ?_
    refine g_iinc (M := mX10_minutesFor) (pc := 60) (c := 1) (ls' := [some (aR 8 32), some (aI a1), some (aI a2), some (aI (a3 + 1)), some (aI a4)]) 63 dX10_minutesFor_60 rfl ic1 rfl rfl rfl ?_
    refine g_goto (M := mX10_minutesFor) (pc := 63) 15 dX10_minutesFor_63 (by decide) ?_
    exact g_jmp (fun z => v_fgt [true, true, true, true, false] z)
  · refine g_iload (M := mX10_minutesFor) (pc := 53) 55 dX10_minutesFor_53 rfl rfl ?_
    refine g_goto (M := mX10_minutesFor) (pc := 55) 59 dX10_minutesFor_55 (by decide) ?_
    refine g_istore_n (M := mX10_minutesFor) (pc := 59) (ls' := [some (aR 8 32), some (aI a1), some (aI a4), some (aI a3), some (aI a4)]) 60 dX10_minutesFor_59 rfl rfl rfl rfl ?_
    refine g_iinc (M := mX10_minutesFor) (pc := 60) (c := 1) (ls' := [some (aR 8 32), some (aI a1), some (aI a4), some (aI (a3 + 1)), some (aI a4)]) 63 dX10_minutesFor_60 rfl ic1 rfl rfl rfl ?_
    refine g_goto (M := mX10_minutesFor) (pc := 63) 15 dX10_minutesFor_63 (by decide) ?_
    exact g_jmp (fun z => v_fgt [true, true, true, true, false] z)
set_option maxRecDepth 100000 in
set_option maxHeartbeats 4000000 in
theorem SX10_minutesFor_15_ok (a1 : Int32) (h : HI) (L : HL) (T : ZT) (a2 : Int32) (a3 : Int32) : VX mX10_minutesFor 5 T (gS (fun s : Int32 × Int32 => V mX10_minutesFor 5 T 15 [some (aR 8 32), some (aI a1), some (aI (s.1)), some (aI (s.2)), none] [] h L) (fun s : Int32 => V mX10_minutesFor 5 T 66 [some (aR 8 32), none, some (aI s), none, none] [] h L)) 15 [some (aR 8 32), some (aI a1), some (aI a2), some (aI a3), none] [] h L (SX10_minutesFor_15 a1 h (a2, a3)) := by
  unfold SX10_minutesFor_15
  refine g_iload_n (M := mX10_minutesFor) (pc := 15) 16 dX10_minutesFor_15 rfl rfl rfl ?_
  refine g_iconst (M := mX10_minutesFor) (pc := 16) (v := 1) 17 dX10_minutesFor_16 rfl ic1 ?_
  refine g_aload_n (M := mX10_minutesFor) (pc := 17) 18 dX10_minutesFor_17 rfl rfl rfl ?_
  refine g_getR (M := mX10_minutesFor) (pc := 18) 21 dX10_minutesFor_18 rfl fX10_7 oR32_0 ?_
  refine g_iconst (M := mX10_minutesFor) (pc := 21) (v := 0) 22 dX10_minutesFor_21 rfl ic0 ?_
  refine g_ialdC (M := mX10_minutesFor) (pc := 22) (j := 0) 23 dX10_minutesFor_22 rfl oA33 rfl rfl ?_
  refine g_ishl (M := mX10_minutesFor) (pc := 23) 24 dX10_minutesFor_23 rfl ?_
  refine g_icmp_ge (M := mX10_minutesFor) (pc := 24) 66 27 dX10_minutesFor_24 (by decide) rfl (fun _ => ?_) (fun _ => ?_)
  · exact g_jmp (fun z => v_fgt [true, false, true, false, false] z)
  · refine g_aload_n (M := mX10_minutesFor) (pc := 27) 28 dX10_minutesFor_27 rfl rfl rfl ?_
    refine g_iload_n (M := mX10_minutesFor) (pc := 28) 29 dX10_minutesFor_28 rfl rfl rfl ?_
    refine g_cV_I (M := mX10_minutesFor) (pc := 29) (M' := mX10_minutesOf) (rest := []) 32 dX10_minutesFor_29 rfl kX10_137 okX10_minutesOf (CX10_minutesOf a3 h L) oO32 rfl rfl rfl rfl (fun r1 => ?_)
    refine g_istore (M := mX10_minutesFor) (pc := 32) (ls' := [some (aR 8 32), some (aI a1), some (aI a2), some (aI a3), some (aI r1)]) 34 dX10_minutesFor_32 rfl rfl rfl ?_
    refine g_iload_n (M := mX10_minutesFor) (pc := 34) 35 dX10_minutesFor_34 rfl rfl rfl ?_
    refine g_if_lt (M := mX10_minutesFor) (pc := 35) 44 38 dX10_minutesFor_35 (by decide) rfl (fun _ => ?_) (fun _ => ?_)
    · exact g_fgt [true, true, true, true, true] (JX10_minutesFor_44_ok a1 a2 a3 r1 T h L)
    · refine g_iload (M := mX10_minutesFor) (pc := 38) 40 dX10_minutesFor_38 rfl rfl ?_
      refine g_iload_n (M := mX10_minutesFor) (pc := 40) 41 dX10_minutesFor_40 rfl rfl rfl ?_
      refine g_icmp_ge (M := mX10_minutesFor) (pc := 41) 58 44 dX10_minutesFor_41 (by decide) rfl (fun _ => ?_) (fun _ => ?_)
      · refine g_iload_n (M := mX10_minutesFor) (pc := 58) 59 dX10_minutesFor_58 rfl rfl rfl ?_
        refine g_istore_n (M := mX10_minutesFor) (pc := 59) (ls' := [some (aR 8 32), some (aI a1), some (aI a2), some (aI a3), some (aI r1)]) 60 dX10_minutesFor_59 rfl rfl rfl rfl ?_
        refine g_iinc (M := mX10_minutesFor) (pc := 60) (c := 1) (ls' := [some (aR 8 32), some (aI a1), some (aI a2), some (aI (a3 + 1)), some (aI r1)]) 63 dX10_minutesFor_60 rfl ic1 rfl rfl rfl ?_
        refine g_goto (M := mX10_minutesFor) (pc := 63) 15 dX10_minutesFor_63 (by decide) ?_
        exact g_jmp (fun z => v_fgt [true, true, true, true, false] z)
      · exact g_fgt [true, true, true, true, true] (JX10_minutesFor_44_ok a1 a2 a3 r1 T h L)
set_option maxRecDepth 100000 in
set_option maxHeartbeats 4000000 in
theorem CX10_minutesFor (a1 : Int32) (h : HI) (L : HL) : CG mX10_minutesFor 5 [aR 8 32, aI a1] h L (lfIH L) (FX10_minutesFor a1 h) := by
  unfold FX10_minutesFor
  refine cg_of [some (aR 8 32), some (aI a1), none, none, none] rfl (by decide) rfl rfl (fun T => ?_)
  refine g_iload_n (M := mX10_minutesFor) (pc := 0) 1 dX10_minutesFor_0 rfl rfl rfl ?_
  refine g_if_ge (M := mX10_minutesFor) (pc := 1) 11 4 dX10_minutesFor_1 (by decide) rfl (fun _ => ?_) (fun _ => ?_)
  · refine g_iconst (M := mX10_minutesFor) (pc := 11) (v := (-1)) 12 dX10_minutesFor_11 rfl icm1 ?_
    refine g_istore_n (M := mX10_minutesFor) (pc := 12) (ls' := [some (aR 8 32), some (aI a1), some (aI (-1)), none, none]) 13 dX10_minutesFor_12 rfl rfl rfl rfl ?_
    refine g_iconst (M := mX10_minutesFor) (pc := 13) (v := 0) 14 dX10_minutesFor_13 rfl ic0 ?_
    refine g_istore_n (M := mX10_minutesFor) (pc := 14) (ls' := [some (aR 8 32), some (aI a1), some (aI (-1)), some (aI 0), none]) 15 dX10_minutesFor_14 rfl rfl rfl rfl ?_
    refine g_loop (fun s => SX10_minutesFor_15_ok a1 h L T s.1 s.2) ?_ (fun z => v_fgt [true, true, true, true, false] z)
    intro e3
    show VX mX10_minutesFor 5 T _ 66 [some (aR 8 32), none, some (aI e3), none, none] [] h L _
    refine g_iload_n (M := mX10_minutesFor) (pc := 66) 67 dX10_minutesFor_66 rfl rfl rfl ?_
    refine g_if_ge (M := mX10_minutesFor) (pc := 67) 79 70 dX10_minutesFor_67 (by decide) rfl (fun _ => ?_) (fun _ => ?_)
    · refine g_iload_n (M := mX10_minutesFor) (pc := 79) 80 dX10_minutesFor_79 rfl rfl rfl ?_
      exact g_iret (M := mX10_minutesFor) (pc := 80) dX10_minutesFor_80 rfl rfl (fun z => z)
    · refine g_aload_n (M := mX10_minutesFor) (pc := 70) 71 dX10_minutesFor_70 rfl rfl rfl ?_
      refine g_ldc (M := mX10_minutesFor) (pc := 71) 73 dX10_minutesFor_71 rfl cX10_132 ?_
      refine g_cV_IH (M := mX10_minutesFor) (pc := 73) (M' := mX10_finds) (rest := []) 76 dX10_minutesFor_73 rfl kX10_67 okX10_finds (CX10_finds (-1000000004) h L) oO32 rfl rfl rfl rfl (fun r4 h5 => ?_)
      refine g_goto (M := mX10_minutesFor) (pc := 76) 80 dX10_minutesFor_76 (by decide) ?_
      exact g_iret (M := mX10_minutesFor) (pc := 80) dX10_minutesFor_80 rfl rfl (fun z => z)
  · refine g_aload_n (M := mX10_minutesFor) (pc := 4) 5 dX10_minutesFor_4 rfl rfl rfl ?_
    refine g_ldc (M := mX10_minutesFor) (pc := 5) 7 dX10_minutesFor_5 rfl cX10_44 ?_
    refine g_cV_IH (M := mX10_minutesFor) (pc := 7) (M' := mX10_finds) (rest := []) 10 dX10_minutesFor_7 rfl kX10_67 okX10_finds (CX10_finds (-1000000001) h L) oO32 rfl rfl rfl rfl (fun r6 h7 => ?_)
    exact g_iret (M := mX10_minutesFor) (pc := 10) dX10_minutesFor_10 rfl rfl (fun z => z)
def SX10_placeOf_4 (a1 : Int32) (h : HI) : (Int32 × Int32) → Option ((Int32 × Int32) ⊕ (Int32))
  | (a2, a3) =>
    if (h 8 33 5) ≤ a3 then
      some (Sum.inr a2)
    else
      gd (ixb (138 + a3) 150) <|
      if (h 8 33 (nC (138 + a3))) = a1 then
        some (Sum.inl (a3, (a3 + 1)))
      else
        some (Sum.inl (a2, (a3 + 1)))
def FX10_placeOf (a1 : Int32) (h : HI) : Option (Int32) :=
  Option.bind (loopN (SX10_placeOf_4 a1 h) FU ((-1), 0)) fun e1 =>
    some e1
set_option maxRecDepth 100000 in
set_option maxHeartbeats 4000000 in
theorem SX10_placeOf_4_ok (a1 : Int32) (h : HI) (L : HL) (T : ZT) (a2 : Int32) (a3 : Int32) : VX mX10_placeOf 0 T (gS (fun s : Int32 × Int32 => V mX10_placeOf 0 T 4 [some (aR 8 32), some (aI a1), some (aI (s.1)), some (aI (s.2))] [] h L) (fun s : Int32 => V mX10_placeOf 0 T 40 [none, none, some (aI s), none] [] h L)) 4 [some (aR 8 32), some (aI a1), some (aI a2), some (aI a3)] [] h L (SX10_placeOf_4 a1 h (a2, a3)) := by
  unfold SX10_placeOf_4
  refine g_iload_n (M := mX10_placeOf) (pc := 4) 5 dX10_placeOf_4 rfl rfl rfl ?_
  refine g_aload_n (M := mX10_placeOf) (pc := 5) 6 dX10_placeOf_5 rfl rfl rfl ?_
  refine g_getR (M := mX10_placeOf) (pc := 6) 9 dX10_placeOf_6 rfl fX10_7 oR32_0 ?_
  refine g_iconst (M := mX10_placeOf) (pc := 9) (v := 5) 10 dX10_placeOf_9 rfl ic5 ?_
  refine g_ialdC (M := mX10_placeOf) (pc := 10) (j := 5) 11 dX10_placeOf_10 rfl oA33 rfl rfl ?_
  refine g_icmp_ge (M := mX10_placeOf) (pc := 11) 40 14 dX10_placeOf_11 (by decide) rfl (fun _ => ?_) (fun _ => ?_)
  · exact g_jmp (fun z => v_fgt [false, false, true, false] z)
  · refine g_aload_n (M := mX10_placeOf) (pc := 14) 15 dX10_placeOf_14 rfl rfl rfl ?_
    refine g_getR (M := mX10_placeOf) (pc := 15) 18 dX10_placeOf_15 rfl fX10_7 oR32_0 ?_
    refine g_sipush (M := mX10_placeOf) (pc := 18) (v := 138) 21 dX10_placeOf_18 rfl sp138 ?_
    refine g_iload_n (M := mX10_placeOf) (pc := 21) 22 dX10_placeOf_21 rfl rfl rfl ?_
    refine g_iadd (M := mX10_placeOf) (pc := 22) 23 dX10_placeOf_22 rfl ?_
    refine g_iald (M := mX10_placeOf) (pc := 23) 24 dX10_placeOf_23 rfl oA33 ?_
    refine g_iload_n (M := mX10_placeOf) (pc := 24) 25 dX10_placeOf_24 rfl rfl rfl ?_
    refine g_icmp_ne (M := mX10_placeOf) (pc := 25) 32 28 dX10_placeOf_25 (by decide) rfl (fun _ => ?_) (fun _ => ?_)
    · refine g_iload_n (M := mX10_placeOf) (pc := 32) 33 dX10_placeOf_32 rfl rfl rfl ?_
      refine g_istore_n (M := mX10_placeOf) (pc := 33) (ls' := [some (aR 8 32), some (aI a1), some (aI a2), some (aI a3)]) 34 dX10_placeOf_33 rfl rfl rfl rfl ?_
      refine g_iinc (M := mX10_placeOf) (pc := 34) (c := 1) (ls' := [some (aR 8 32), some (aI a1), some (aI a2), some (aI (a3 + 1))]) 37 dX10_placeOf_34 rfl ic1 rfl rfl rfl ?_
      refine g_goto (M := mX10_placeOf) (pc := 37) 4 dX10_placeOf_37 (by decide) ?_
      exact g_jmp (fun z => v_fgt [true, true, true, true] z)
    · refine g_iload_n (M := mX10_placeOf) (pc := 28) 29 dX10_placeOf_28 rfl rfl rfl ?_
      refine g_goto (M := mX10_placeOf) (pc := 29) 33 dX10_placeOf_29 (by decide) ?_
      refine g_istore_n (M := mX10_placeOf) (pc := 33) (ls' := [some (aR 8 32), some (aI a1), some (aI a3), some (aI a3)]) 34 dX10_placeOf_33 rfl rfl rfl rfl ?_
      refine g_iinc (M := mX10_placeOf) (pc := 34) (c := 1) (ls' := [some (aR 8 32), some (aI a1), some (aI a3), some (aI (a3 + 1))]) 37 dX10_placeOf_34 rfl ic1 rfl rfl rfl ?_
      refine g_goto (M := mX10_placeOf) (pc := 37) 4 dX10_placeOf_37 (by decide) ?_
      exact g_jmp (fun z => v_fgt [true, true, true, true] z)
set_option maxRecDepth 100000 in
set_option maxHeartbeats 4000000 in
theorem CX10_placeOf (a1 : Int32) (h : HI) (L : HL) : CG mX10_placeOf 0 [aR 8 32, aI a1] h L (lfI h L) (FX10_placeOf a1 h) := by
  unfold FX10_placeOf
  refine cg_of [some (aR 8 32), some (aI a1), none, none] rfl (by decide) rfl rfl (fun T => ?_)
  refine g_iconst (M := mX10_placeOf) (pc := 0) (v := (-1)) 1 dX10_placeOf_0 rfl icm1 ?_
  refine g_istore_n (M := mX10_placeOf) (pc := 1) (ls' := [some (aR 8 32), some (aI a1), some (aI (-1)), none]) 2 dX10_placeOf_1 rfl rfl rfl rfl ?_
  refine g_iconst (M := mX10_placeOf) (pc := 2) (v := 0) 3 dX10_placeOf_2 rfl ic0 ?_
  refine g_istore_n (M := mX10_placeOf) (pc := 3) (ls' := [some (aR 8 32), some (aI a1), some (aI (-1)), some (aI 0)]) 4 dX10_placeOf_3 rfl rfl rfl rfl ?_
  refine g_loop (fun s => SX10_placeOf_4_ok a1 h L T s.1 s.2) ?_ (fun z => v_fgt [true, true, true, true] z)
  intro e1
  show VX mX10_placeOf 0 T _ 40 [none, none, some (aI e1), none] [] h L _
  refine g_iload_n (M := mX10_placeOf) (pc := 40) 41 dX10_placeOf_40 rfl rfl rfl ?_
  exact g_iret (M := mX10_placeOf) (pc := 41) dX10_placeOf_41 rfl rfl (fun z => z)
def SX10_leaves_12 : (Int32 × HI) → Option ((Int32 × HI) ⊕ (HI))
  | (a2, h) =>
    if (h 8 33 5) ≤ a2 then
      some (Sum.inr h)
    else
      gd (ixb ((138 + a2) + 1) 150) <|
      gd (ixb (138 + a2) 150) <|
      nm (hP1 h 8 33 (nC (138 + a2)) (h 8 33 (nC ((138 + a2) + 1)))) fun h2 =>
      some (Sum.inl ((a2 + 1), h2))
def FX10_leaves (a1 : Int32) (h : HI) : Option (HI) :=
  nm (hP1 h 8 33 5 ((h 8 33 5) - 1)) fun h1 =>
  Option.bind (loopN (SX10_leaves_12) FU (a1, h1)) fun h3 =>
    some h3
set_option maxRecDepth 100000 in
set_option maxHeartbeats 4000000 in
theorem SX10_leaves_12_ok (L : HL) (T : ZT) (a2 : Int32) (h : HI) : VX mX10_leaves 0 T (gS (fun s : Int32 × HI => V mX10_leaves 0 T 12 [some (aR 8 32), none, some (aI (s.1))] [] (s.2) L) (fun s : HI => V mX10_leaves 0 T 50 [none, none, none] [] s L)) 12 [some (aR 8 32), none, some (aI a2)] [] h L (SX10_leaves_12 (a2, h)) := by
  unfold SX10_leaves_12
  refine g_iload_n (M := mX10_leaves) (pc := 12) 13 dX10_leaves_12 rfl rfl rfl ?_
  refine g_aload_n (M := mX10_leaves) (pc := 13) 14 dX10_leaves_13 rfl rfl rfl ?_
  refine g_getR (M := mX10_leaves) (pc := 14) 17 dX10_leaves_14 rfl fX10_7 oR32_0 ?_
  refine g_iconst (M := mX10_leaves) (pc := 17) (v := 5) 18 dX10_leaves_17 rfl ic5 ?_
  refine g_ialdC (M := mX10_leaves) (pc := 18) (j := 5) 19 dX10_leaves_18 rfl oA33 rfl rfl ?_
  refine g_icmp_ge (M := mX10_leaves) (pc := 19) 50 22 dX10_leaves_19 (by decide) rfl (fun _ => ?_) (fun _ => ?_)
  · exact g_jmp (fun z => v_fgt [false, false, false] z)
  · refine g_aload_n (M := mX10_leaves) (pc := 22) 23 dX10_leaves_22 rfl rfl rfl ?_
    refine g_getR (M := mX10_leaves) (pc := 23) 26 dX10_leaves_23 rfl fX10_7 oR32_0 ?_
    refine g_sipush (M := mX10_leaves) (pc := 26) (v := 138) 29 dX10_leaves_26 rfl sp138 ?_
    refine g_iload_n (M := mX10_leaves) (pc := 29) 30 dX10_leaves_29 rfl rfl rfl ?_
    refine g_iadd (M := mX10_leaves) (pc := 30) 31 dX10_leaves_30 rfl ?_
    refine g_aload_n (M := mX10_leaves) (pc := 31) 32 dX10_leaves_31 rfl rfl rfl ?_
    refine g_getR (M := mX10_leaves) (pc := 32) 35 dX10_leaves_32 rfl fX10_7 oR32_0 ?_
    refine g_sipush (M := mX10_leaves) (pc := 35) (v := 138) 38 dX10_leaves_35 rfl sp138 ?_
    refine g_iload_n (M := mX10_leaves) (pc := 38) 39 dX10_leaves_38 rfl rfl rfl ?_
    refine g_iadd (M := mX10_leaves) (pc := 39) 40 dX10_leaves_39 rfl ?_
    refine g_iconst (M := mX10_leaves) (pc := 40) (v := 1) 41 dX10_leaves_40 rfl ic1 ?_
    refine g_iadd (M := mX10_leaves) (pc := 41) 42 dX10_leaves_41 rfl ?_
    refine g_iald (M := mX10_leaves) (pc := 42) 43 dX10_leaves_42 rfl oA33 ?_
    refine g_iast (M := mX10_leaves) (pc := 43) 44 dX10_leaves_43 rfl oA33 (fun h2 => ?_)
    refine g_iinc (M := mX10_leaves) (pc := 44) (c := 1) (ls' := [some (aR 8 32), none, some (aI (a2 + 1))]) 47 dX10_leaves_44 rfl ic1 rfl rfl rfl ?_
    refine g_goto (M := mX10_leaves) (pc := 47) 12 dX10_leaves_47 (by decide) ?_
    exact g_jmp (fun z => v_fgt [true, false, true] z)
set_option maxRecDepth 100000 in
set_option maxHeartbeats 4000000 in
theorem CX10_leaves (a1 : Int32) (h : HI) (L : HL) : CG mX10_leaves 0 [aR 8 32, aI a1] h L (lfVH L) (FX10_leaves a1 h) := by
  unfold FX10_leaves
  refine cg_of [some (aR 8 32), some (aI a1), none] rfl (by decide) rfl rfl (fun T => ?_)
  refine g_aload_n (M := mX10_leaves) (pc := 0) 1 dX10_leaves_0 rfl rfl rfl ?_
  refine g_getR (M := mX10_leaves) (pc := 1) 4 dX10_leaves_1 rfl fX10_7 oR32_0 ?_
  refine g_iconst (M := mX10_leaves) (pc := 4) (v := 5) 5 dX10_leaves_4 rfl ic5 ?_
  refine g_dup2 (M := mX10_leaves) (pc := 5) 6 dX10_leaves_5 rfl rfl rfl ?_
  refine g_ialdC (M := mX10_leaves) (pc := 6) (j := 5) 7 dX10_leaves_6 rfl oA33 rfl rfl ?_
  refine g_iconst (M := mX10_leaves) (pc := 7) (v := 1) 8 dX10_leaves_7 rfl ic1 ?_
  refine g_isub (M := mX10_leaves) (pc := 8) 9 dX10_leaves_8 rfl ?_
  refine g_iastC (M := mX10_leaves) (pc := 9) (j := 5) 10 dX10_leaves_9 rfl oA33 rfl rfl (fun h1 => ?_)
  refine g_iload_n (M := mX10_leaves) (pc := 10) 11 dX10_leaves_10 rfl rfl rfl ?_
  refine g_istore_n (M := mX10_leaves) (pc := 11) (ls' := [some (aR 8 32), some (aI a1), some (aI a1)]) 12 dX10_leaves_11 rfl rfl rfl rfl ?_
  refine g_loop (fun s => SX10_leaves_12_ok L T s.1 s.2) ?_ (fun z => v_fgt [true, false, true] z)
  intro h3
  show VX mX10_leaves 0 T _ 50 [none, none, none] [] h3 L _
  exact g_vret (M := mX10_leaves) (pc := 50) dX10_leaves_50 rfl (fun z => z)
def JX10_queue_30 (a1 : Int32) (h : HI) : Option (Int32 × HI) :=
  gd (ixb (138 + (h 8 33 5)) 150) <|
  nm (hP1 h 8 33 (nC (138 + (h 8 33 5))) a1) fun h3 =>
  nm (hP1 h3 8 33 5 ((h3 8 33 5) + 1)) fun h4 =>
  some ((h4 8 33 5), h4)
def FX10_queue (a1 : Int32) (h : HI) : Option (Int32 × HI) :=
  Option.bind (FX10_isPhrase a1 h) fun r1 =>
  if r1 = 0 then
    Option.bind (FX10_finds (-1000000001) h) fun (r6, h7) =>
    some (r6, h7)
  else
    Option.bind (FX10_placeOf a1 h) fun r2 =>
    if r2 < 0 then
      JX10_queue_30 a1 h
    else
      Option.bind (FX10_leaves r2 h) fun h5 =>
      JX10_queue_30 a1 h5
set_option maxRecDepth 100000 in
set_option maxHeartbeats 4000000 in
theorem JX10_queue_30_ok (a1 : Int32) (T : ZT) (h : HI) (L : HL) : VX mX10_queue 2 T (fun r => Zl (lfIH L) r = T) 30 [some (aR 8 32), some (aI a1), none] [] h L (JX10_queue_30 a1 h) := by
  unfold JX10_queue_30
  refine g_aload_n (M := mX10_queue) (pc := 30) 31 dX10_queue_30 rfl rfl rfl ?_
  refine g_getR (M := mX10_queue) (pc := 31) 34 dX10_queue_31 rfl fX10_7 oR32_0 ?_
  refine g_sipush (M := mX10_queue) (pc := 34) (v := 138) 37 dX10_queue_34 rfl sp138 ?_
  refine g_aload_n (M := mX10_queue) (pc := 37) 38 dX10_queue_37 rfl rfl rfl ?_
  refine g_getR (M := mX10_queue) (pc := 38) 41 dX10_queue_38 rfl fX10_7 oR32_0 ?_
  refine g_iconst (M := mX10_queue) (pc := 41) (v := 5) 42 dX10_queue_41 rfl ic5 ?_
  refine g_ialdC (M := mX10_queue) (pc := 42) (j := 5) 43 dX10_queue_42 rfl oA33 rfl rfl ?_
  refine g_iadd (M := mX10_queue) (pc := 43) 44 dX10_queue_43 rfl ?_
  refine g_iload_n (M := mX10_queue) (pc := 44) 45 dX10_queue_44 rfl rfl rfl ?_
  refine g_iast (M := mX10_queue) (pc := 45) 46 dX10_queue_45 rfl oA33 (fun h3 => ?_)
  refine g_aload_n (M := mX10_queue) (pc := 46) 47 dX10_queue_46 rfl rfl rfl ?_
  refine g_getR (M := mX10_queue) (pc := 47) 50 dX10_queue_47 rfl fX10_7 oR32_0 ?_
  refine g_iconst (M := mX10_queue) (pc := 50) (v := 5) 51 dX10_queue_50 rfl ic5 ?_
  refine g_dup2 (M := mX10_queue) (pc := 51) 52 dX10_queue_51 rfl rfl rfl ?_
  refine g_ialdC (M := mX10_queue) (pc := 52) (j := 5) 53 dX10_queue_52 rfl oA33 rfl rfl ?_
  refine g_iconst (M := mX10_queue) (pc := 53) (v := 1) 54 dX10_queue_53 rfl ic1 ?_
  refine g_iadd (M := mX10_queue) (pc := 54) 55 dX10_queue_54 rfl ?_
  refine g_iastC (M := mX10_queue) (pc := 55) (j := 5) 56 dX10_queue_55 rfl oA33 rfl rfl (fun h4 => ?_)
  refine g_aload_n (M := mX10_queue) (pc := 56) 57 dX10_queue_56 rfl rfl rfl ?_
  refine g_getR (M := mX10_queue) (pc := 57) 60 dX10_queue_57 rfl fX10_7 oR32_0 ?_
  refine g_iconst (M := mX10_queue) (pc := 60) (v := 5) 61 dX10_queue_60 rfl ic5 ?_
  refine g_ialdC (M := mX10_queue) (pc := 61) (j := 5) 62 dX10_queue_61 rfl oA33 rfl rfl ?_
  exact g_iret (M := mX10_queue) (pc := 62) dX10_queue_62 rfl rfl (fun z => z)
set_option maxRecDepth 100000 in
set_option maxHeartbeats 4000000 in
theorem CX10_queue (a1 : Int32) (h : HI) (L : HL) : CG mX10_queue 2 [aR 8 32, aI a1] h L (lfIH L) (FX10_queue a1 h) := by
  unfold FX10_queue
  refine cg_of [some (aR 8 32), some (aI a1), none] rfl (by decide) rfl rfl (fun T => ?_)
  refine g_aload_n (M := mX10_queue) (pc := 0) 1 dX10_queue_0 rfl rfl rfl ?_
  refine g_iload_n (M := mX10_queue) (pc := 1) 2 dX10_queue_1 rfl rfl rfl ?_
  refine g_cV_I (M := mX10_queue) (pc := 2) (M' := mX10_isPhrase) (rest := []) 5 dX10_queue_2 rfl kX10_79 okX10_isPhrase (CX10_isPhrase a1 h L) oO32 rfl rfl rfl rfl (fun r1 => ?_)
  refine g_if_ne (M := mX10_queue) (pc := 5) 15 8 dX10_queue_5 (by decide) rfl (fun _ => ?_) (fun _ => ?_)
  · refine g_aload_n (M := mX10_queue) (pc := 15) 16 dX10_queue_15 rfl rfl rfl ?_
    refine g_iload_n (M := mX10_queue) (pc := 16) 17 dX10_queue_16 rfl rfl rfl ?_
    refine g_cV_I (M := mX10_queue) (pc := 17) (M' := mX10_placeOf) (rest := []) 20 dX10_queue_17 rfl kX10_157 okX10_placeOf (CX10_placeOf a1 h L) oO32 rfl rfl rfl rfl (fun r2 => ?_)
    refine g_istore_n (M := mX10_queue) (pc := 20) (ls' := [some (aR 8 32), some (aI a1), some (aI r2)]) 21 dX10_queue_20 rfl rfl rfl rfl ?_
    refine g_iload_n (M := mX10_queue) (pc := 21) 22 dX10_queue_21 rfl rfl rfl ?_
    refine g_if_lt (M := mX10_queue) (pc := 22) 30 25 dX10_queue_22 (by decide) rfl (fun _ => ?_) (fun _ => ?_)
    · exact g_fgt [true, true, false] (JX10_queue_30_ok a1 T h L)
    · refine g_aload_n (M := mX10_queue) (pc := 25) 26 dX10_queue_25 rfl rfl rfl ?_
      refine g_iload_n (M := mX10_queue) (pc := 26) 27 dX10_queue_26 rfl rfl rfl ?_
      refine g_cV_VH (M := mX10_queue) (pc := 27) (M' := mX10_leaves) (rest := []) 30 dX10_queue_27 rfl kX10_160 okX10_leaves (CX10_leaves r2 h L) oO32 rfl rfl rfl rfl (fun h5 => ?_)
      exact g_fgt [true, true, false] (JX10_queue_30_ok a1 T h5 L)
  · refine g_aload_n (M := mX10_queue) (pc := 8) 9 dX10_queue_8 rfl rfl rfl ?_
    refine g_ldc (M := mX10_queue) (pc := 9) 11 dX10_queue_9 rfl cX10_44 ?_
    refine g_cV_IH (M := mX10_queue) (pc := 11) (M' := mX10_finds) (rest := []) 14 dX10_queue_11 rfl kX10_67 okX10_finds (CX10_finds (-1000000001) h L) oO32 rfl rfl rfl rfl (fun r6 h7 => ?_)
    exact g_iret (M := mX10_queue) (pc := 14) dX10_queue_14 rfl rfl (fun z => z)
def FX10_skip (a1 : Int32) (h : HI) : Option (Int32 × HI) :=
  Option.bind (FX10_isPhrase a1 h) fun r1 =>
  if r1 = 0 then
    Option.bind (FX10_finds (-1000000001) h) fun (r6, h7) =>
    some (r6, h7)
  else
    Option.bind (FX10_placeOf a1 h) fun r2 =>
    if 0 ≤ r2 then
      Option.bind (FX10_leaves r2 h) fun h3 =>
      some (r2, h3)
    else
      Option.bind (FX10_finds (-1000000004) h) fun (r4, h5) =>
      some (r4, h5)
set_option maxRecDepth 100000 in
set_option maxHeartbeats 4000000 in
theorem CX10_skip (a1 : Int32) (h : HI) (L : HL) : CG mX10_skip 2 [aR 8 32, aI a1] h L (lfIH L) (FX10_skip a1 h) := by
  unfold FX10_skip
  refine cg_of [some (aR 8 32), some (aI a1), none] rfl (by decide) rfl rfl (fun T => ?_)
  refine g_aload_n (M := mX10_skip) (pc := 0) 1 dX10_skip_0 rfl rfl rfl ?_
  refine g_iload_n (M := mX10_skip) (pc := 1) 2 dX10_skip_1 rfl rfl rfl ?_
  refine g_cV_I (M := mX10_skip) (pc := 2) (M' := mX10_isPhrase) (rest := []) 5 dX10_skip_2 rfl kX10_79 okX10_isPhrase (CX10_isPhrase a1 h L) oO32 rfl rfl rfl rfl (fun r1 => ?_)
  refine g_if_ne (M := mX10_skip) (pc := 5) 15 8 dX10_skip_5 (by decide) rfl (fun _ => ?_) (fun _ => ?_)
  · refine g_aload_n (M := mX10_skip) (pc := 15) 16 dX10_skip_15 rfl rfl rfl ?_
    refine g_iload_n (M := mX10_skip) (pc := 16) 17 dX10_skip_16 rfl rfl rfl ?_
    refine g_cV_I (M := mX10_skip) (pc := 17) (M' := mX10_placeOf) (rest := []) 20 dX10_skip_17 rfl kX10_157 okX10_placeOf (CX10_placeOf a1 h L) oO32 rfl rfl rfl rfl (fun r2 => ?_)
    refine g_istore_n (M := mX10_skip) (pc := 20) (ls' := [some (aR 8 32), some (aI a1), some (aI r2)]) 21 dX10_skip_20 rfl rfl rfl rfl ?_
    refine g_iload_n (M := mX10_skip) (pc := 21) 22 dX10_skip_21 rfl rfl rfl ?_
    refine g_if_ge (M := mX10_skip) (pc := 22) 32 25 dX10_skip_22 (by decide) rfl (fun _ => ?_) (fun _ => ?_)
    · refine g_aload_n (M := mX10_skip) (pc := 32) 33 dX10_skip_32 rfl rfl rfl ?_
      refine g_iload_n (M := mX10_skip) (pc := 33) 34 dX10_skip_33 rfl rfl rfl ?_
      refine g_cV_VH (M := mX10_skip) (pc := 34) (M' := mX10_leaves) (rest := []) 37 dX10_skip_34 rfl kX10_160 okX10_leaves (CX10_leaves r2 h L) oO32 rfl rfl rfl rfl (fun h3 => ?_)
      refine g_iload_n (M := mX10_skip) (pc := 37) 38 dX10_skip_37 rfl rfl rfl ?_
      exact g_iret (M := mX10_skip) (pc := 38) dX10_skip_38 rfl rfl (fun z => z)
    · refine g_aload_n (M := mX10_skip) (pc := 25) 26 dX10_skip_25 rfl rfl rfl ?_
      refine g_ldc (M := mX10_skip) (pc := 26) 28 dX10_skip_26 rfl cX10_132 ?_
      refine g_cV_IH (M := mX10_skip) (pc := 28) (M' := mX10_finds) (rest := []) 31 dX10_skip_28 rfl kX10_67 okX10_finds (CX10_finds (-1000000004) h L) oO32 rfl rfl rfl rfl (fun r4 h5 => ?_)
      exact g_iret (M := mX10_skip) (pc := 31) dX10_skip_31 rfl rfl (fun z => z)
  · refine g_aload_n (M := mX10_skip) (pc := 8) 9 dX10_skip_8 rfl rfl rfl ?_
    refine g_ldc (M := mX10_skip) (pc := 9) 11 dX10_skip_9 rfl cX10_44 ?_
    refine g_cV_IH (M := mX10_skip) (pc := 11) (M' := mX10_finds) (rest := []) 14 dX10_skip_11 rfl kX10_67 okX10_finds (CX10_finds (-1000000001) h L) oO32 rfl rfl rfl rfl (fun r6 h7 => ?_)
    exact g_iret (M := mX10_skip) (pc := 14) dX10_skip_14 rfl rfl (fun z => z)
def FX10_ith (a1 : Int32) (h : HI) : Option (Int32 × HI) :=
  Option.bind (FX10_in (Int32.toInt64 a1) 0 (Int32.toInt64 ((h 8 33 5) - 1))) fun r1 =>
  if r1 = 0 then
    Option.bind (FX10_finds (-1000000001) h) fun (r2, h3) =>
    some (r2, h3)
  else
    gd (ixb (138 + a1) 150) <|
    some ((h 8 33 (nC (138 + a1))), h)
set_option maxRecDepth 100000 in
set_option maxHeartbeats 4000000 in
theorem CX10_ith (a1 : Int32) (h : HI) (L : HL) : CG mX10_ith 1 [aR 8 32, aI a1] h L (lfIH L) (FX10_ith a1 h) := by
  unfold FX10_ith
  refine cg_of [some (aR 8 32), some (aI a1)] rfl (by decide) rfl rfl (fun T => ?_)
  refine g_iload_n (M := mX10_ith) (pc := 0) 1 dX10_ith_0 rfl rfl rfl ?_
  refine g_i2l (M := mX10_ith) (pc := 1) 2 dX10_ith_1 rfl ?_
  refine g_lconst (M := mX10_ith) (pc := 2) (v := 0) 3 dX10_ith_2 rfl rfl ?_
  refine g_aload_n (M := mX10_ith) (pc := 3) 4 dX10_ith_3 rfl rfl rfl ?_
  refine g_getR (M := mX10_ith) (pc := 4) 7 dX10_ith_4 rfl fX10_7 oR32_0 ?_
  refine g_iconst (M := mX10_ith) (pc := 7) (v := 5) 8 dX10_ith_7 rfl ic5 ?_
  refine g_ialdC (M := mX10_ith) (pc := 8) (j := 5) 9 dX10_ith_8 rfl oA33 rfl rfl ?_
  refine g_iconst (M := mX10_ith) (pc := 9) (v := 1) 10 dX10_ith_9 rfl ic1 ?_
  refine g_isub (M := mX10_ith) (pc := 10) 11 dX10_ith_10 rfl ?_
  refine g_i2l (M := mX10_ith) (pc := 11) 12 dX10_ith_11 rfl ?_
  refine g_cS_I (M := mX10_ith) (pc := 12) (M' := mX10_in) (rest := []) 15 dX10_ith_12 rfl kX10_45 okX10_in (CX10_in (Int32.toInt64 a1) 0 (Int32.toInt64 ((h 8 33 5) - 1)) h L) rfl rfl rfl rfl (fun r1 => ?_)
  refine g_if_eq (M := mX10_ith) (pc := 15) 31 18 dX10_ith_15 (by decide) rfl (fun _ => ?_) (fun _ => ?_)
  · refine g_aload_n (M := mX10_ith) (pc := 31) 32 dX10_ith_31 rfl rfl rfl ?_
    refine g_ldc (M := mX10_ith) (pc := 32) 34 dX10_ith_32 rfl cX10_44 ?_
    refine g_cV_IH (M := mX10_ith) (pc := 34) (M' := mX10_finds) (rest := []) 37 dX10_ith_34 rfl kX10_67 okX10_finds (CX10_finds (-1000000001) h L) oO32 rfl rfl rfl rfl (fun r2 h3 => ?_)
    exact g_iret (M := mX10_ith) (pc := 37) dX10_ith_37 rfl rfl (fun z => z)
  · refine g_aload_n (M := mX10_ith) (pc := 18) 19 dX10_ith_18 rfl rfl rfl ?_
    refine g_getR (M := mX10_ith) (pc := 19) 22 dX10_ith_19 rfl fX10_7 oR32_0 ?_
    refine g_sipush (M := mX10_ith) (pc := 22) (v := 138) 25 dX10_ith_22 rfl sp138 ?_
    refine g_iload_n (M := mX10_ith) (pc := 25) 26 dX10_ith_25 rfl rfl rfl ?_
    refine g_iadd (M := mX10_ith) (pc := 26) 27 dX10_ith_26 rfl ?_
    refine g_iald (M := mX10_ith) (pc := 27) 28 dX10_ith_27 rfl oA33 ?_
    refine g_goto (M := mX10_ith) (pc := 28) 37 dX10_ith_28 (by decide) ?_
    exact g_iret (M := mX10_ith) (pc := 37) dX10_ith_37 rfl rfl (fun z => z)
def FX10_learns (a1 : Int32) (a2 : Int32) (h : HI) : Option (HI) :=
  Option.bind (FX10_its a1 4 h) fun r1 =>
  Option.bind (FX10_its a1 2 h) fun r2 =>
  gd (!decide (r2 = 0)) <|
  nm (r1 + ((100 * a2) / r2)) fun t3 =>
  Option.bind (FX10_at a1 4) fun r4 =>
  if 100 ≤ t3 then
    gd (ixb r4 150) <|
    nm (hP1 h 8 33 (nC r4) 100) fun h5 =>
    some h5
  else
    gd (ixb r4 150) <|
    nm (hP1 h 8 33 (nC r4) t3) fun h6 =>
    some h6
set_option maxRecDepth 100000 in
set_option maxHeartbeats 4000000 in
theorem CX10_learns (a1 : Int32) (a2 : Int32) (h : HI) (L : HL) : CG mX10_learns 2 [aR 8 32, aI a1, aI a2] h L (lfVH L) (FX10_learns a1 a2 h) := by
  unfold FX10_learns
  refine cg_of [some (aR 8 32), some (aI a1), some (aI a2), none] rfl (by decide) rfl rfl (fun T => ?_)
  refine g_aload_n (M := mX10_learns) (pc := 0) 1 dX10_learns_0 rfl rfl rfl ?_
  refine g_iload_n (M := mX10_learns) (pc := 1) 2 dX10_learns_1 rfl rfl rfl ?_
  refine g_iconst (M := mX10_learns) (pc := 2) (v := 4) 3 dX10_learns_2 rfl ic4 ?_
  refine g_cV_I (M := mX10_learns) (pc := 3) (M' := mX10_its) (rest := []) 6 dX10_learns_3 rfl kX10_76 okX10_its (CX10_its a1 4 h L) oO32 rfl rfl rfl rfl (fun r1 => ?_)
  refine g_bipush (M := mX10_learns) (pc := 6) (v := 100) 8 dX10_learns_6 rfl bp100 ?_
  refine g_iload_n (M := mX10_learns) (pc := 8) 9 dX10_learns_8 rfl rfl rfl ?_
  refine g_imul (M := mX10_learns) (pc := 9) 10 dX10_learns_9 rfl ?_
  refine g_aload_n (M := mX10_learns) (pc := 10) 11 dX10_learns_10 rfl rfl rfl ?_
  refine g_iload_n (M := mX10_learns) (pc := 11) 12 dX10_learns_11 rfl rfl rfl ?_
  refine g_iconst (M := mX10_learns) (pc := 12) (v := 2) 13 dX10_learns_12 rfl ic2 ?_
  refine g_cV_I (M := mX10_learns) (pc := 13) (M' := mX10_its) (rest := [aI (100 * a2), aI r1]) 16 dX10_learns_13 rfl kX10_76 okX10_its (CX10_its a1 2 h L) oO32 rfl rfl rfl rfl (fun r2 => ?_)
  refine g_idiv (M := mX10_learns) (pc := 16) 17 dX10_learns_16 rfl ?_
  refine g_iadd (M := mX10_learns) (pc := 17) 18 dX10_learns_17 rfl ?_
  refine g_nmI (fun t3 => ?_)
  refine g_istore_n (M := mX10_learns) (pc := 18) (ls' := [some (aR 8 32), some (aI a1), some (aI a2), some (aI t3)]) 19 dX10_learns_18 rfl rfl rfl rfl ?_
  refine g_aload_n (M := mX10_learns) (pc := 19) 20 dX10_learns_19 rfl rfl rfl ?_
  refine g_getR (M := mX10_learns) (pc := 20) 23 dX10_learns_20 rfl fX10_7 oR32_0 ?_
  refine g_iload_n (M := mX10_learns) (pc := 23) 24 dX10_learns_23 rfl rfl rfl ?_
  refine g_iconst (M := mX10_learns) (pc := 24) (v := 4) 25 dX10_learns_24 rfl ic4 ?_
  refine g_cS_I (M := mX10_learns) (pc := 25) (M' := mX10_at) (rest := [aR 8 33]) 28 dX10_learns_25 rfl kX10_49 okX10_at (CX10_at a1 4 h L) rfl rfl rfl rfl (fun r4 => ?_)
  refine g_iload_n (M := mX10_learns) (pc := 28) 29 dX10_learns_28 rfl rfl rfl ?_
  refine g_bipush (M := mX10_learns) (pc := 29) (v := 100) 31 dX10_learns_29 rfl bp100 ?_
  refine g_icmp_ge (M := mX10_learns) (pc := 31) 38 34 dX10_learns_31 (by decide) rfl (fun _ => ?_) (fun _ => ?_)
  · refine g_bipush (M := mX10_learns) (pc := 38) (v := 100) 40 dX10_learns_38 rfl bp100 ?_
    refine g_iast (M := mX10_learns) (pc := 40) 41 dX10_learns_40 rfl oA33 (fun h5 => ?_)
    exact g_vret (M := mX10_learns) (pc := 41) dX10_learns_41 rfl (fun z => z)
  · refine g_iload_n (M := mX10_learns) (pc := 34) 35 dX10_learns_34 rfl rfl rfl ?_
    refine g_goto (M := mX10_learns) (pc := 35) 40 dX10_learns_35 (by decide) ?_
    refine g_iast (M := mX10_learns) (pc := 40) 41 dX10_learns_40 rfl oA33 (fun h6 => ?_)
    exact g_vret (M := mX10_learns) (pc := 41) dX10_learns_41 rfl (fun z => z)
def FX10_learn (a1 : Int32) (a2 : Int32) (h : HI) : Option (Int32 × HI) :=
  Option.bind (FX10_isPhrase a1 h) fun r1 =>
  if r1 = 0 then
    Option.bind (FX10_finds (-1000000001) h) fun (r2, h3) =>
    some (r2, h3)
  else
    Option.bind (FX10_in (Int32.toInt64 a2) 1 600) fun r4 =>
    if r4 = 0 then
      Option.bind (FX10_finds (-1000000001) h) fun (r7, h8) =>
      some (r7, h8)
    else
      Option.bind (FX10_learns a1 a2 h) fun h5 =>
      Option.bind (FX10_its a1 4 h5) fun r6 =>
      some (r6, h5)
set_option maxRecDepth 100000 in
set_option maxHeartbeats 4000000 in
theorem CX10_learn (a1 : Int32) (a2 : Int32) (h : HI) (L : HL) : CG mX10_learn 3 [aR 8 32, aI a1, aI a2] h L (lfIH L) (FX10_learn a1 a2 h) := by
  unfold FX10_learn
  refine cg_of [some (aR 8 32), some (aI a1), some (aI a2)] rfl (by decide) rfl rfl (fun T => ?_)
  refine g_aload_n (M := mX10_learn) (pc := 0) 1 dX10_learn_0 rfl rfl rfl ?_
  refine g_iload_n (M := mX10_learn) (pc := 1) 2 dX10_learn_1 rfl rfl rfl ?_
  refine g_cV_I (M := mX10_learn) (pc := 2) (M' := mX10_isPhrase) (rest := []) 5 dX10_learn_2 rfl kX10_79 okX10_isPhrase (CX10_isPhrase a1 h L) oO32 rfl rfl rfl rfl (fun r1 => ?_)
  refine g_if_eq (M := mX10_learn) (pc := 5) 20 8 dX10_learn_5 (by decide) rfl (fun _ => ?_) (fun _ => ?_)
  · refine g_aload_n (M := mX10_learn) (pc := 20) 21 dX10_learn_20 rfl rfl rfl ?_
    refine g_ldc (M := mX10_learn) (pc := 21) 23 dX10_learn_21 rfl cX10_44 ?_
    refine g_cV_IH (M := mX10_learn) (pc := 23) (M' := mX10_finds) (rest := []) 26 dX10_learn_23 rfl kX10_67 okX10_finds (CX10_finds (-1000000001) h L) oO32 rfl rfl rfl rfl (fun r2 h3 => ?_)
    exact g_iret (M := mX10_learn) (pc := 26) dX10_learn_26 rfl rfl (fun z => z)
  · refine g_iload_n (M := mX10_learn) (pc := 8) 9 dX10_learn_8 rfl rfl rfl ?_
    refine g_i2l (M := mX10_learn) (pc := 9) 10 dX10_learn_9 rfl ?_
    refine g_lconst (M := mX10_learn) (pc := 10) (v := 1) 11 dX10_learn_10 rfl rfl ?_
    refine g_ldc2 (M := mX10_learn) (pc := 11) 14 dX10_learn_11 rfl cX10_163 ?_
    refine g_cS_I (M := mX10_learn) (pc := 14) (M' := mX10_in) (rest := []) 17 dX10_learn_14 rfl kX10_45 okX10_in (CX10_in (Int32.toInt64 a2) 1 600 h L) rfl rfl rfl rfl (fun r4 => ?_)
    refine g_if_ne (M := mX10_learn) (pc := 17) 27 20 dX10_learn_17 (by decide) rfl (fun _ => ?_) (fun _ => ?_)
    · refine g_aload_n (M := mX10_learn) (pc := 27) 28 dX10_learn_27 rfl rfl rfl ?_
      refine g_iload_n (M := mX10_learn) (pc := 28) 29 dX10_learn_28 rfl rfl rfl ?_
      refine g_iload_n (M := mX10_learn) (pc := 29) 30 dX10_learn_29 rfl rfl rfl ?_
      refine g_cV_VH (M := mX10_learn) (pc := 30) (M' := mX10_learns) (rest := []) 33 dX10_learn_30 rfl kX10_165 okX10_learns (CX10_learns a1 a2 h L) oO32 rfl rfl rfl rfl (fun h5 => ?_)
      refine g_aload_n (M := mX10_learn) (pc := 33) 34 dX10_learn_33 rfl rfl rfl ?_
      refine g_iload_n (M := mX10_learn) (pc := 34) 35 dX10_learn_34 rfl rfl rfl ?_
      refine g_iconst (M := mX10_learn) (pc := 35) (v := 4) 36 dX10_learn_35 rfl ic4 ?_
      refine g_cV_I (M := mX10_learn) (pc := 36) (M' := mX10_its) (rest := []) 39 dX10_learn_36 rfl kX10_76 okX10_its (CX10_its a1 4 h5 L) oO32 rfl rfl rfl rfl (fun r6 => ?_)
      exact g_iret (M := mX10_learn) (pc := 39) dX10_learn_39 rfl rfl (fun z => z)
    · refine g_aload_n (M := mX10_learn) (pc := 20) 21 dX10_learn_20 rfl rfl rfl ?_
      refine g_ldc (M := mX10_learn) (pc := 21) 23 dX10_learn_21 rfl cX10_44 ?_
      refine g_cV_IH (M := mX10_learn) (pc := 23) (M' := mX10_finds) (rest := []) 26 dX10_learn_23 rfl kX10_67 okX10_finds (CX10_finds (-1000000001) h L) oO32 rfl rfl rfl rfl (fun r7 h8 => ?_)
      exact g_iret (M := mX10_learn) (pc := 26) dX10_learn_26 rfl rfl (fun z => z)
