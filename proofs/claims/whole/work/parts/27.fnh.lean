-- functions of the methods and their contracts, by program (wip/whole/dec.py): X10_eveningOf X10_evening X10_line X10_knownSet X10_known X10_day X10_daysGo X10_isTooLate X10_days X10_now X10_sumOf X10_on X10_forgot X10_useless X10_scoreOn X10_tonight X10_swaps X10_goesOn X10_triesRow
def JX10_eveningOf_61 (a2 : Int32) (a3 : Int32) (a4 : Int32) (s0 : Int32) (h : HI) : Option ((Int32 × Int32 × HI) ⊕ (Int32 × HI)) :=
  Option.bind (FX10_learns a4 s0 h) fun h4 =>
  nm (a2 - s0) fun t5 =>
  some (Sum.inl (t5, (a3 + 1), h4))
def SX10_eveningOf_4 : (Int32 × Int32 × HI) → Option ((Int32 × Int32 × HI) ⊕ (Int32 × HI))
  | (a2, a3, h) =>
    if (h 8 33 5) ≤ a3 then
      some (Sum.inr (a2, h))
    else
      if a2 ≤ 0 then
        some (Sum.inr (a2, h))
      else
        gd (ixb (138 + a3) 150) <|
        nm (h 8 33 (nC (138 + a3))) fun t1 =>
        Option.bind (FX10_isKnown t1 h) fun r2 =>
        if r2 = 0 then
          Option.bind (FX10_its t1 2 h) fun r3 =>
          if a2 ≤ r3 then
            JX10_eveningOf_61 a2 a3 t1 a2 h
          else
            Option.bind (FX10_its t1 2 h) fun r6 =>
            JX10_eveningOf_61 a2 a3 t1 r6 h
        else
          some (Sum.inl (a2, (a3 + 1), h))
def FX10_eveningOf (a1 : Int32) (h : HI) : Option (Int32 × HI) :=
  Option.bind (loopN (SX10_eveningOf_4) FU (a1, 0, h)) fun (e7, h8) =>
    some (e7, h8)
set_option maxRecDepth 100000 in
set_option maxHeartbeats 4000000 in
theorem JX10_eveningOf_61_ok (a2 : Int32) (a3 : Int32) (a4 : Int32) (s0 : Int32) (T : ZT) (h : HI) (L : HL) : VX mX10_eveningOf 3 T (gS (fun s : Int32 × Int32 × HI => V mX10_eveningOf 3 T 4 [some (aR 8 32), none, some (aI (s.1)), some (aI (s.2.1)), none, none] [] (s.2.2) L) (fun s : Int32 × HI => V mX10_eveningOf 3 T 82 [none, none, some (aI (s.1)), none, none, none] [] (s.2) L)) 61 [some (aR 8 32), none, some (aI a2), some (aI a3), some (aI a4), none] [aI s0] h L (JX10_eveningOf_61 a2 a3 a4 s0 h) := by
  unfold JX10_eveningOf_61
  refine g_istore (M := mX10_eveningOf) (pc := 61) (ls' := [some (aR 8 32), none, some (aI a2), some (aI a3), some (aI a4), some (aI s0)]) 63 dX10_eveningOf_61 rfl rfl rfl ?_
  refine g_aload_n (M := mX10_eveningOf) (pc := 63) 64 dX10_eveningOf_63 rfl rfl rfl ?_
  refine g_iload (M := mX10_eveningOf) (pc := 64) 66 dX10_eveningOf_64 rfl rfl ?_
  refine g_iload (M := mX10_eveningOf) (pc := 66) 68 dX10_eveningOf_66 rfl rfl ?_
  refine g_cV_VH (M := mX10_eveningOf) (pc := 68) (M' := mX10_learns) (rest := []) 71 dX10_eveningOf_68 rfl kX10_165 okX10_learns (CX10_learns a4 s0 h L) oO32 rfl rfl rfl rfl (fun h4 => ?_)
  refine g_iload_n (M := mX10_eveningOf) (pc := 71) 72 dX10_eveningOf_71 rfl rfl rfl ?_
  refine g_iload (M := mX10_eveningOf) (pc := 72) 74 dX10_eveningOf_72 rfl rfl ?_
  refine g_isub (M := mX10_eveningOf) (pc := 74) 75 dX10_eveningOf_74 rfl ?_
  refine g_nmI (fun t5 => ?_)
  refine g_istore_n (M := mX10_eveningOf) (pc := 75) (ls' := [some (aR 8 32), none, some (aI t5), some (aI a3), some (aI a4), some (aI s0)]) 76 dX10_eveningOf_75 rfl rfl rfl rfl ?_
  refine g_iinc (M := mX10_eveningOf) (pc := 76) (c := 1) (ls' := [some (aR 8 32), none, some (aI t5), some (aI (a3 + 1)), some (aI a4), some (aI s0)]) 79 dX10_eveningOf_76 rfl ic1 rfl rfl rfl ?_
  refine g_goto (M := mX10_eveningOf) (pc := 79) 4 dX10_eveningOf_79 (by decide) ?_
  exact g_jmp (fun z => v_fgt [true, false, true, true, false, false] z)
set_option maxRecDepth 100000 in
set_option maxHeartbeats 4000000 in
theorem SX10_eveningOf_4_ok (L : HL) (T : ZT) (a2 : Int32) (a3 : Int32) (h : HI) : VX mX10_eveningOf 3 T (gS (fun s : Int32 × Int32 × HI => V mX10_eveningOf 3 T 4 [some (aR 8 32), none, some (aI (s.1)), some (aI (s.2.1)), none, none] [] (s.2.2) L) (fun s : Int32 × HI => V mX10_eveningOf 3 T 82 [none, none, some (aI (s.1)), none, none, none] [] (s.2) L)) 4 [some (aR 8 32), none, some (aI a2), some (aI a3), none, none] [] h L (SX10_eveningOf_4 (a2, a3, h)) := by
  unfold SX10_eveningOf_4
  refine g_iload_n (M := mX10_eveningOf) (pc := 4) 5 dX10_eveningOf_4 rfl rfl rfl ?_
  refine g_aload_n (M := mX10_eveningOf) (pc := 5) 6 dX10_eveningOf_5 rfl rfl rfl ?_
  refine g_getR (M := mX10_eveningOf) (pc := 6) 9 dX10_eveningOf_6 rfl fX10_7 oR32_0 ?_
  refine g_iconst (M := mX10_eveningOf) (pc := 9) (v := 5) 10 dX10_eveningOf_9 rfl ic5 ?_
  refine g_ialdC (M := mX10_eveningOf) (pc := 10) (j := 5) 11 dX10_eveningOf_10 rfl oA33 rfl rfl ?_
  refine g_icmp_ge (M := mX10_eveningOf) (pc := 11) 82 14 dX10_eveningOf_11 (by decide) rfl (fun _ => ?_) (fun _ => ?_)
  · exact g_jmp (fun z => v_fgt [false, false, true, false, false, false] z)
  · refine g_iload_n (M := mX10_eveningOf) (pc := 14) 15 dX10_eveningOf_14 rfl rfl rfl ?_
    refine g_if_le (M := mX10_eveningOf) (pc := 15) 82 18 dX10_eveningOf_15 (by decide) rfl (fun _ => ?_) (fun _ => ?_)
    · exact g_jmp (fun z => v_fgt [false, false, true, false, false, false] z)
    · refine g_aload_n (M := mX10_eveningOf) (pc := 18) 19 dX10_eveningOf_18 rfl rfl rfl ?_
      refine g_getR (M := mX10_eveningOf) (pc := 19) 22 dX10_eveningOf_19 rfl fX10_7 oR32_0 ?_
      refine g_sipush (M := mX10_eveningOf) (pc := 22) (v := 138) 25 dX10_eveningOf_22 rfl sp138 ?_
      refine g_iload_n (M := mX10_eveningOf) (pc := 25) 26 dX10_eveningOf_25 rfl rfl rfl ?_
      refine g_iadd (M := mX10_eveningOf) (pc := 26) 27 dX10_eveningOf_26 rfl ?_
      refine g_iald (M := mX10_eveningOf) (pc := 27) 28 dX10_eveningOf_27 rfl oA33 ?_
      refine g_nmI (fun t1 => ?_)
      refine g_istore (M := mX10_eveningOf) (pc := 28) (ls' := [some (aR 8 32), none, some (aI a2), some (aI a3), some (aI t1), none]) 30 dX10_eveningOf_28 rfl rfl rfl ?_
      refine g_aload_n (M := mX10_eveningOf) (pc := 30) 31 dX10_eveningOf_30 rfl rfl rfl ?_
      refine g_iload (M := mX10_eveningOf) (pc := 31) 33 dX10_eveningOf_31 rfl rfl ?_
      refine g_cV_I (M := mX10_eveningOf) (pc := 33) (M' := mX10_isKnown) (rest := []) 36 dX10_eveningOf_33 rfl kX10_85 okX10_isKnown (CX10_isKnown t1 h L) oO32 rfl rfl rfl rfl (fun r2 => ?_)
      refine g_if_ne (M := mX10_eveningOf) (pc := 36) 76 39 dX10_eveningOf_36 (by decide) rfl (fun _ => ?_) (fun _ => ?_)
      · refine g_iinc (M := mX10_eveningOf) (pc := 76) (c := 1) (ls' := [some (aR 8 32), none, some (aI a2), some (aI (a3 + 1)), some (aI t1), none]) 79 dX10_eveningOf_76 rfl ic1 rfl rfl rfl ?_
        refine g_goto (M := mX10_eveningOf) (pc := 79) 4 dX10_eveningOf_79 (by decide) ?_
        exact g_jmp (fun z => v_fgt [true, false, true, true, false, false] z)
      · refine g_aload_n (M := mX10_eveningOf) (pc := 39) 40 dX10_eveningOf_39 rfl rfl rfl ?_
        refine g_iload (M := mX10_eveningOf) (pc := 40) 42 dX10_eveningOf_40 rfl rfl ?_
        refine g_iconst (M := mX10_eveningOf) (pc := 42) (v := 2) 43 dX10_eveningOf_42 rfl ic2 ?_
        refine g_cV_I (M := mX10_eveningOf) (pc := 43) (M' := mX10_its) (rest := []) 46 dX10_eveningOf_43 rfl kX10_76 okX10_its (CX10_its t1 2 h L) oO32 rfl rfl rfl rfl (fun r3 => ?_)
        refine g_iload_n (M := mX10_eveningOf) (pc := 46) 47 dX10_eveningOf_46 rfl rfl rfl ?_
        refine g_icmp_ge (M := mX10_eveningOf) (pc := 47) 60 50 dX10_eveningOf_47 (by decide) rfl (fun _ => ?_) (fun _ => ?_)
        · refine g_iload_n (M := mX10_eveningOf) (pc := 60) 61 dX10_eveningOf_60 rfl rfl rfl ?_
          exact g_fgt [true, false, true, true, true, false] (JX10_eveningOf_61_ok a2 a3 t1 a2 T h L)
        · refine g_aload_n (M := mX10_eveningOf) (pc := 50) 51 dX10_eveningOf_50 rfl rfl rfl ?_
          refine g_iload (M := mX10_eveningOf) (pc := 51) 53 dX10_eveningOf_51 rfl rfl ?_
          refine g_iconst (M := mX10_eveningOf) (pc := 53) (v := 2) 54 dX10_eveningOf_53 rfl ic2 ?_
          refine g_cV_I (M := mX10_eveningOf) (pc := 54) (M' := mX10_its) (rest := []) 57 dX10_eveningOf_54 rfl kX10_76 okX10_its (CX10_its t1 2 h L) oO32 rfl rfl rfl rfl (fun r6 => ?_)
          refine g_goto (M := mX10_eveningOf) (pc := 57) 61 dX10_eveningOf_57 (by decide) ?_
          exact g_fgt [true, false, true, true, true, false] (JX10_eveningOf_61_ok a2 a3 t1 r6 T h L)
set_option maxRecDepth 100000 in
set_option maxHeartbeats 4000000 in
theorem CX10_eveningOf (a1 : Int32) (h : HI) (L : HL) : CG mX10_eveningOf 3 [aR 8 32, aI a1] h L (lfIH L) (FX10_eveningOf a1 h) := by
  unfold FX10_eveningOf
  refine cg_of [some (aR 8 32), some (aI a1), none, none, none, none] rfl (by decide) rfl rfl (fun T => ?_)
  refine g_iload_n (M := mX10_eveningOf) (pc := 0) 1 dX10_eveningOf_0 rfl rfl rfl ?_
  refine g_istore_n (M := mX10_eveningOf) (pc := 1) (ls' := [some (aR 8 32), some (aI a1), some (aI a1), none, none, none]) 2 dX10_eveningOf_1 rfl rfl rfl rfl ?_
  refine g_iconst (M := mX10_eveningOf) (pc := 2) (v := 0) 3 dX10_eveningOf_2 rfl ic0 ?_
  refine g_istore_n (M := mX10_eveningOf) (pc := 3) (ls' := [some (aR 8 32), some (aI a1), some (aI a1), some (aI 0), none, none]) 4 dX10_eveningOf_3 rfl rfl rfl rfl ?_
  refine g_loop (fun s => SX10_eveningOf_4_ok L T s.1 s.2.1 s.2.2) ?_ (fun z => v_fgt [true, false, true, true, false, false] z)
  rintro ⟨e7, h8⟩
  show VX mX10_eveningOf 3 T _ 82 [none, none, some (aI e7), none, none, none] [] h8 L _
  refine g_iload_n (M := mX10_eveningOf) (pc := 82) 83 dX10_eveningOf_82 rfl rfl rfl ?_
  exact g_iret (M := mX10_eveningOf) (pc := 83) dX10_eveningOf_83 rfl rfl (fun z => z)
def FX10_evening (a1 : Int32) (h : HI) : Option (Int32 × HI) :=
  Option.bind (FX10_in (Int32.toInt64 a1) 0 600) fun r1 =>
  if r1 = 0 then
    Option.bind (FX10_finds (-1000000001) h) fun (r2, h3) =>
    some (r2, h3)
  else
    Option.bind (FX10_eveningOf a1 h) fun (r4, h5) =>
    some (r4, h5)
set_option maxRecDepth 100000 in
set_option maxHeartbeats 4000000 in
theorem CX10_evening (a1 : Int32) (h : HI) (L : HL) : CG mX10_evening 4 [aR 8 32, aI a1] h L (lfIH L) (FX10_evening a1 h) := by
  unfold FX10_evening
  refine cg_of [some (aR 8 32), some (aI a1)] rfl (by decide) rfl rfl (fun T => ?_)
  refine g_iload_n (M := mX10_evening) (pc := 0) 1 dX10_evening_0 rfl rfl rfl ?_
  refine g_i2l (M := mX10_evening) (pc := 1) 2 dX10_evening_1 rfl ?_
  refine g_lconst (M := mX10_evening) (pc := 2) (v := 0) 3 dX10_evening_2 rfl rfl ?_
  refine g_ldc2 (M := mX10_evening) (pc := 3) 6 dX10_evening_3 rfl cX10_163 ?_
  refine g_cS_I (M := mX10_evening) (pc := 6) (M' := mX10_in) (rest := []) 9 dX10_evening_6 rfl kX10_45 okX10_in (CX10_in (Int32.toInt64 a1) 0 600 h L) rfl rfl rfl rfl (fun r1 => ?_)
  refine g_if_eq (M := mX10_evening) (pc := 9) 20 12 dX10_evening_9 (by decide) rfl (fun _ => ?_) (fun _ => ?_)
  · refine g_aload_n (M := mX10_evening) (pc := 20) 21 dX10_evening_20 rfl rfl rfl ?_
    refine g_ldc (M := mX10_evening) (pc := 21) 23 dX10_evening_21 rfl cX10_44 ?_
    refine g_cV_IH (M := mX10_evening) (pc := 23) (M' := mX10_finds) (rest := []) 26 dX10_evening_23 rfl kX10_67 okX10_finds (CX10_finds (-1000000001) h L) oO32 rfl rfl rfl rfl (fun r2 h3 => ?_)
    exact g_iret (M := mX10_evening) (pc := 26) dX10_evening_26 rfl rfl (fun z => z)
  · refine g_aload_n (M := mX10_evening) (pc := 12) 13 dX10_evening_12 rfl rfl rfl ?_
    refine g_iload_n (M := mX10_evening) (pc := 13) 14 dX10_evening_13 rfl rfl rfl ?_
    refine g_cV_IH (M := mX10_evening) (pc := 14) (M' := mX10_eveningOf) (rest := []) 17 dX10_evening_14 rfl kX10_169 okX10_eveningOf (CX10_eveningOf a1 h L) oO32 rfl rfl rfl rfl (fun r4 h5 => ?_)
    refine g_goto (M := mX10_evening) (pc := 17) 26 dX10_evening_17 (by decide) ?_
    exact g_iret (M := mX10_evening) (pc := 26) dX10_evening_26 rfl rfl (fun z => z)
def FX10_line (a1 : Int32) (h : HI) : Option (Int32 × HI) :=
  Option.bind (FX10_in (Int32.toInt64 a1) 1 100) fun r1 =>
  if r1 = 0 then
    Option.bind (FX10_finds (-1000000001) h) fun (r4, h5) =>
    some (r4, h5)
  else
    nm (h 8 33 2) fun t2 =>
    nm (hP1 h 8 33 2 a1) fun h3 =>
    some (t2, h3)
set_option maxRecDepth 100000 in
set_option maxHeartbeats 4000000 in
theorem CX10_line (a1 : Int32) (h : HI) (L : HL) : CG mX10_line 1 [aR 8 32, aI a1] h L (lfIH L) (FX10_line a1 h) := by
  unfold FX10_line
  refine cg_of [some (aR 8 32), some (aI a1), none] rfl (by decide) rfl rfl (fun T => ?_)
  refine g_iload_n (M := mX10_line) (pc := 0) 1 dX10_line_0 rfl rfl rfl ?_
  refine g_i2l (M := mX10_line) (pc := 1) 2 dX10_line_1 rfl ?_
  refine g_lconst (M := mX10_line) (pc := 2) (v := 1) 3 dX10_line_2 rfl rfl ?_
  refine g_ldc2 (M := mX10_line) (pc := 3) 6 dX10_line_3 rfl cX10_61 ?_
  refine g_cS_I (M := mX10_line) (pc := 6) (M' := mX10_in) (rest := []) 9 dX10_line_6 rfl kX10_45 okX10_in (CX10_in (Int32.toInt64 a1) 1 100 h L) rfl rfl rfl rfl (fun r1 => ?_)
  refine g_if_ne (M := mX10_line) (pc := 9) 19 12 dX10_line_9 (by decide) rfl (fun _ => ?_) (fun _ => ?_)
  · refine g_aload_n (M := mX10_line) (pc := 19) 20 dX10_line_19 rfl rfl rfl ?_
    refine g_getR (M := mX10_line) (pc := 20) 23 dX10_line_20 rfl fX10_7 oR32_0 ?_
    refine g_iconst (M := mX10_line) (pc := 23) (v := 2) 24 dX10_line_23 rfl ic2 ?_
    refine g_ialdC (M := mX10_line) (pc := 24) (j := 2) 25 dX10_line_24 rfl oA33 rfl rfl ?_
    refine g_nmI (fun t2 => ?_)
    refine g_istore_n (M := mX10_line) (pc := 25) (ls' := [some (aR 8 32), some (aI a1), some (aI t2)]) 26 dX10_line_25 rfl rfl rfl rfl ?_
    refine g_aload_n (M := mX10_line) (pc := 26) 27 dX10_line_26 rfl rfl rfl ?_
    refine g_getR (M := mX10_line) (pc := 27) 30 dX10_line_27 rfl fX10_7 oR32_0 ?_
    refine g_iconst (M := mX10_line) (pc := 30) (v := 2) 31 dX10_line_30 rfl ic2 ?_
    refine g_iload_n (M := mX10_line) (pc := 31) 32 dX10_line_31 rfl rfl rfl ?_
    refine g_iastC (M := mX10_line) (pc := 32) (j := 2) 33 dX10_line_32 rfl oA33 rfl rfl (fun h3 => ?_)
    refine g_iload_n (M := mX10_line) (pc := 33) 34 dX10_line_33 rfl rfl rfl ?_
    exact g_iret (M := mX10_line) (pc := 34) dX10_line_34 rfl rfl (fun z => z)
  · refine g_aload_n (M := mX10_line) (pc := 12) 13 dX10_line_12 rfl rfl rfl ?_
    refine g_ldc (M := mX10_line) (pc := 13) 15 dX10_line_13 rfl cX10_44 ?_
    refine g_cV_IH (M := mX10_line) (pc := 15) (M' := mX10_finds) (rest := []) 18 dX10_line_15 rfl kX10_67 okX10_finds (CX10_finds (-1000000001) h L) oO32 rfl rfl rfl rfl (fun r4 h5 => ?_)
    exact g_iret (M := mX10_line) (pc := 18) dX10_line_18 rfl rfl (fun z => z)
def SX10_knownSet_4 (h : HI) : (Int32 × Int32) → Option ((Int32 × Int32) ⊕ (Int32))
  | (a1, a2) =>
    if (h 8 33 0) ≤ a2 then
      some (Sum.inr a1)
    else
      Option.bind (FX10_isKnown a2 h) fun r1 =>
      if r1 = 0 then
        nm (a1 ||| 0) fun t2 =>
        some (Sum.inl (t2, (a2 + 1)))
      else
        nm (a1 ||| (1 <<< (a2 &&& 31))) fun t3 =>
        some (Sum.inl (t3, (a2 + 1)))
def FX10_knownSet (h : HI) : Option (Int32) :=
  Option.bind (loopN (SX10_knownSet_4 h) FU (0, 0)) fun e4 =>
    some e4
set_option maxRecDepth 100000 in
set_option maxHeartbeats 4000000 in
theorem SX10_knownSet_4_ok (h : HI) (L : HL) (T : ZT) (a1 : Int32) (a2 : Int32) : VX mX10_knownSet 3 T (gS (fun s : Int32 × Int32 => V mX10_knownSet 3 T 4 [some (aR 8 32), some (aI (s.1)), some (aI (s.2))] [] h L) (fun s : Int32 => V mX10_knownSet 3 T 38 [none, some (aI s), none] [] h L)) 4 [some (aR 8 32), some (aI a1), some (aI a2)] [] h L (SX10_knownSet_4 h (a1, a2)) := by
  unfold SX10_knownSet_4
  refine g_iload_n (M := mX10_knownSet) (pc := 4) 5 dX10_knownSet_4 rfl rfl rfl ?_
  refine g_aload_n (M := mX10_knownSet) (pc := 5) 6 dX10_knownSet_5 rfl rfl rfl ?_
  refine g_getR (M := mX10_knownSet) (pc := 6) 9 dX10_knownSet_6 rfl fX10_7 oR32_0 ?_
  refine g_iconst (M := mX10_knownSet) (pc := 9) (v := 0) 10 dX10_knownSet_9 rfl ic0 ?_
  refine g_ialdC (M := mX10_knownSet) (pc := 10) (j := 0) 11 dX10_knownSet_10 rfl oA33 rfl rfl ?_
  refine g_icmp_ge (M := mX10_knownSet) (pc := 11) 38 14 dX10_knownSet_11 (by decide) rfl (fun _ => ?_) (fun _ => ?_)
  · exact g_jmp (fun z => v_fgt [false, true, false] z)
  · refine g_iload_n (M := mX10_knownSet) (pc := 14) 15 dX10_knownSet_14 rfl rfl rfl ?_
    refine g_aload_n (M := mX10_knownSet) (pc := 15) 16 dX10_knownSet_15 rfl rfl rfl ?_
    refine g_iload_n (M := mX10_knownSet) (pc := 16) 17 dX10_knownSet_16 rfl rfl rfl ?_
    refine g_cV_I (M := mX10_knownSet) (pc := 17) (M' := mX10_isKnown) (rest := [aI a1]) 20 dX10_knownSet_17 rfl kX10_85 okX10_isKnown (CX10_isKnown a2 h L) oO32 rfl rfl rfl rfl (fun r1 => ?_)
    refine g_if_eq (M := mX10_knownSet) (pc := 20) 29 23 dX10_knownSet_20 (by decide) rfl (fun _ => ?_) (fun _ => ?_)
    · refine g_iconst (M := mX10_knownSet) (pc := 29) (v := 0) 30 dX10_knownSet_29 rfl ic0 ?_
      refine g_ior (M := mX10_knownSet) (pc := 30) 31 dX10_knownSet_30 rfl ?_
      refine g_nmI (fun t2 => ?_)
      refine g_istore_n (M := mX10_knownSet) (pc := 31) (ls' := [some (aR 8 32), some (aI t2), some (aI a2)]) 32 dX10_knownSet_31 rfl rfl rfl rfl ?_
      refine g_iinc (M := mX10_knownSet) (pc := 32) (c := 1) (ls' := [some (aR 8 32), some (aI t2), some (aI (a2 + 1))]) 35 dX10_knownSet_32 rfl ic1 rfl rfl rfl ?_
      refine g_goto (M := mX10_knownSet) (pc := 35) 4 dX10_knownSet_35 (by decide) ?_
      exact g_jmp (fun z => v_fgt [true, true, true] z)
    · refine g_iconst (M := mX10_knownSet) (pc := 23) (v := 1) 24 dX10_knownSet_23 rfl ic1 ?_
      refine g_iload_n (M := mX10_knownSet) (pc := 24) 25 dX10_knownSet_24 rfl rfl rfl ?_
      refine g_ishl (M := mX10_knownSet) (pc := 25) 26 dX10_knownSet_25 rfl ?_
      refine g_goto (M := mX10_knownSet) (pc := 26) 30 dX10_knownSet_26 (by decide) ?_
      refine g_ior (M := mX10_knownSet) (pc := 30) 31 dX10_knownSet_30 rfl ?_
      refine g_nmI (fun t3 => ?_)
      refine g_istore_n (M := mX10_knownSet) (pc := 31) (ls' := [some (aR 8 32), some (aI t3), some (aI a2)]) 32 dX10_knownSet_31 rfl rfl rfl rfl ?_
      refine g_iinc (M := mX10_knownSet) (pc := 32) (c := 1) (ls' := [some (aR 8 32), some (aI t3), some (aI (a2 + 1))]) 35 dX10_knownSet_32 rfl ic1 rfl rfl rfl ?_
      refine g_goto (M := mX10_knownSet) (pc := 35) 4 dX10_knownSet_35 (by decide) ?_
      exact g_jmp (fun z => v_fgt [true, true, true] z)
set_option maxRecDepth 100000 in
set_option maxHeartbeats 4000000 in
theorem CX10_knownSet (h : HI) (L : HL) : CG mX10_knownSet 3 [aR 8 32] h L (lfI h L) (FX10_knownSet h) := by
  unfold FX10_knownSet
  refine cg_of [some (aR 8 32), none, none] rfl (by decide) rfl rfl (fun T => ?_)
  refine g_iconst (M := mX10_knownSet) (pc := 0) (v := 0) 1 dX10_knownSet_0 rfl ic0 ?_
  refine g_istore_n (M := mX10_knownSet) (pc := 1) (ls' := [some (aR 8 32), some (aI 0), none]) 2 dX10_knownSet_1 rfl rfl rfl rfl ?_
  refine g_iconst (M := mX10_knownSet) (pc := 2) (v := 0) 3 dX10_knownSet_2 rfl ic0 ?_
  refine g_istore_n (M := mX10_knownSet) (pc := 3) (ls' := [some (aR 8 32), some (aI 0), some (aI 0)]) 4 dX10_knownSet_3 rfl rfl rfl rfl ?_
  refine g_loop (fun s => SX10_knownSet_4_ok h L T s.1 s.2) ?_ (fun z => v_fgt [true, true, true] z)
  intro e4
  show VX mX10_knownSet 3 T _ 38 [none, some (aI e4), none] [] h L _
  refine g_iload_n (M := mX10_knownSet) (pc := 38) 39 dX10_knownSet_38 rfl rfl rfl ?_
  exact g_iret (M := mX10_knownSet) (pc := 39) dX10_knownSet_39 rfl rfl (fun z => z)
def FX10_known (h : HI) : Option (Int32) :=
  Option.bind (FX10_knownSet h) fun r1 =>
  some r1
set_option maxRecDepth 100000 in
set_option maxHeartbeats 4000000 in
theorem CX10_known (h : HI) (L : HL) : CG mX10_known 4 [aR 8 32] h L (lfI h L) (FX10_known h) := by
  unfold FX10_known
  refine cg_of [some (aR 8 32)] rfl (by decide) rfl rfl (fun T => ?_)
  refine g_aload_n (M := mX10_known) (pc := 0) 1 dX10_known_0 rfl rfl rfl ?_
  refine g_cV_I (M := mX10_known) (pc := 1) (M' := mX10_knownSet) (rest := []) 4 dX10_known_1 rfl kX10_172 okX10_knownSet (CX10_knownSet h L) oO32 rfl rfl rfl rfl (fun r1 => ?_)
  exact g_iret (M := mX10_known) (pc := 4) dX10_known_4 rfl rfl (fun z => z)
def SX10_day_23 (a1 : Int32) (a2 : Int32) (a3 : Int32) : (Int32 × Int32 × HI) → Option ((Int32 × Int32 × HI) ⊕ (Int32 × HI))
  | (a4, a5, h) =>
    if (h 8 33 1) ≤ a5 then
      some (Sum.inr (a4, h))
    else
      Option.bind (FX10_wants a5 2 h) fun r4 =>
      if r4 = (h 8 33 3) then
        Option.bind (FX10_metOf a5 a1 a2 a3 h) fun r5 =>
        nm (hP1 h 8 33 4 ((h 8 33 4) + r5)) fun h6 =>
        Option.bind (FX10_byOf a5 a1 h6) fun r7 =>
        if r7 < 0 then
          some (Sum.inl (a4, (a5 + 1), h6))
        else
          Option.bind (FX10_at r7 5) fun r8 =>
          gd (ixb r8 150) <|
          gd (ixb r8 150) <|
          nm (hP1 h6 8 33 (nC r8) ((h6 8 33 (nC r8)) + 1)) fun h9 =>
          nm (a4 ||| (1 <<< (r7 &&& 31))) fun t10 =>
          some (Sum.inl (t10, (a5 + 1), h9))
      else
        some (Sum.inl (a4, (a5 + 1), h))
def JX10_day_163 (a4 : Int32) (a5 : Int32) (s0 : Int32) (h : HI) : Option ((Int32 × HI) ⊕ (HI)) :=
  Option.bind (FX10_at a5 4) fun r16 =>
  if 0 ≤ s0 then
    if s0 ≤ 100 then
      gd (ixb r16 150) <|
      nm (hP1 h 8 33 (nC r16) s0) fun h17 =>
      some (Sum.inl ((a5 + 1), h17))
    else
      gd (ixb r16 150) <|
      nm (hP1 h 8 33 (nC r16) 100) fun h18 =>
      some (Sum.inl ((a5 + 1), h18))
  else
    gd (ixb r16 150) <|
    nm (hP1 h 8 33 (nC r16) 0) fun h19 =>
    some (Sum.inl ((a5 + 1), h19))
def SX10_day_115 (a4 : Int32) : (Int32 × HI) → Option ((Int32 × HI) ⊕ (HI))
  | (a5, h) =>
    if (h 8 33 0) ≤ a5 then
      some (Sum.inr h)
    else
      Option.bind (FX10_has a4 a5) fun r13 =>
      if r13 = 0 then
        Option.bind (FX10_its a5 4 h) fun r14 =>
        Option.bind (FX10_forgets a5 h) fun r15 =>
        JX10_day_163 a4 a5 (r14 - r15) h
      else
        Option.bind (FX10_its a5 4 h) fun r20 =>
        JX10_day_163 a4 a5 (r20 + 10) h
def FX10_day (h : HI) : Option (Int32 × HI) :=
  Option.bind (FX10_knownSet h) fun r1 =>
  Option.bind (FX10_hasRope r1 h) fun r2 =>
  Option.bind (FX10_hasMending r1 h) fun r3 =>
  Option.bind (loopN (SX10_day_23 r1 r2 r3) FU (0, 0, h)) fun (e11, h12) =>
    Option.bind (loopN (SX10_day_115 e11) FU (0, h12)) fun h21 =>
      nm (hP1 h21 8 33 3 ((h21 8 33 3) + 1)) fun h22 =>
      some (e11, h22)
set_option maxRecDepth 100000 in
set_option maxHeartbeats 4000000 in
theorem SX10_day_23_ok (a1 : Int32) (a2 : Int32) (a3 : Int32) (L : HL) (T : ZT) (a4 : Int32) (a5 : Int32) (h : HI) : VX mX10_day 4 T (gS (fun s : Int32 × Int32 × HI => V mX10_day 4 T 23 [some (aR 8 32), some (aI a1), some (aI a2), some (aI a3), some (aI (s.1)), some (aI (s.2.1)), none] [] (s.2.2) L) (fun s : Int32 × HI => V mX10_day 4 T 112 [some (aR 8 32), none, none, none, some (aI (s.1)), none, none] [] (s.2) L)) 23 [some (aR 8 32), some (aI a1), some (aI a2), some (aI a3), some (aI a4), some (aI a5), none] [] h L (SX10_day_23 a1 a2 a3 (a4, a5, h)) := by
  unfold SX10_day_23
  refine g_iload (M := mX10_day) (pc := 23) 25 dX10_day_23 rfl rfl ?_
  refine g_aload_n (M := mX10_day) (pc := 25) 26 dX10_day_25 rfl rfl rfl ?_
  refine g_getR (M := mX10_day) (pc := 26) 29 dX10_day_26 rfl fX10_7 oR32_0 ?_
  refine g_iconst (M := mX10_day) (pc := 29) (v := 1) 30 dX10_day_29 rfl ic1 ?_
  refine g_ialdC (M := mX10_day) (pc := 30) (j := 1) 31 dX10_day_30 rfl oA33 rfl rfl ?_
  refine g_icmp_ge (M := mX10_day) (pc := 31) 112 34 dX10_day_31 (by decide) rfl (fun _ => ?_) (fun _ => ?_)
  · exact g_jmp (fun z => v_fgt [true, false, false, false, true, false, false] z)
  · refine g_aload_n (M := mX10_day) (pc := 34) 35 dX10_day_34 rfl rfl rfl ?_
    refine g_iload (M := mX10_day) (pc := 35) 37 dX10_day_35 rfl rfl ?_
    refine g_iconst (M := mX10_day) (pc := 37) (v := 2) 38 dX10_day_37 rfl ic2 ?_
    refine g_cV_I (M := mX10_day) (pc := 38) (M' := mX10_wants) (rest := []) 41 dX10_day_38 rfl kX10_103 okX10_wants (CX10_wants a5 2 h L) oO32 rfl rfl rfl rfl (fun r4 => ?_)
    refine g_aload_n (M := mX10_day) (pc := 41) 42 dX10_day_41 rfl rfl rfl ?_
    refine g_getR (M := mX10_day) (pc := 42) 45 dX10_day_42 rfl fX10_7 oR32_0 ?_
    refine g_iconst (M := mX10_day) (pc := 45) (v := 3) 46 dX10_day_45 rfl ic3 ?_
    refine g_ialdC (M := mX10_day) (pc := 46) (j := 3) 47 dX10_day_46 rfl oA33 rfl rfl ?_
    refine g_icmp_ne (M := mX10_day) (pc := 47) 106 50 dX10_day_47 (by decide) rfl (fun _ => ?_) (fun _ => ?_)
    · refine g_iinc (M := mX10_day) (pc := 106) (c := 1) (ls' := [some (aR 8 32), some (aI a1), some (aI a2), some (aI a3), some (aI a4), some (aI (a5 + 1)), none]) 109 dX10_day_106 rfl ic1 rfl rfl rfl ?_
      refine g_goto (M := mX10_day) (pc := 109) 23 dX10_day_109 (by decide) ?_
      exact g_jmp (fun z => v_fgt [true, true, true, true, true, true, false] z)
    · refine g_aload_n (M := mX10_day) (pc := 50) 51 dX10_day_50 rfl rfl rfl ?_
      refine g_getR (M := mX10_day) (pc := 51) 54 dX10_day_51 rfl fX10_7 oR32_0 ?_
      refine g_iconst (M := mX10_day) (pc := 54) (v := 4) 55 dX10_day_54 rfl ic4 ?_
      refine g_dup2 (M := mX10_day) (pc := 55) 56 dX10_day_55 rfl rfl rfl ?_
      refine g_ialdC (M := mX10_day) (pc := 56) (j := 4) 57 dX10_day_56 rfl oA33 rfl rfl ?_
      refine g_aload_n (M := mX10_day) (pc := 57) 58 dX10_day_57 rfl rfl rfl ?_
      refine g_iload (M := mX10_day) (pc := 58) 60 dX10_day_58 rfl rfl ?_
      refine g_iload_n (M := mX10_day) (pc := 60) 61 dX10_day_60 rfl rfl rfl ?_
      refine g_iload_n (M := mX10_day) (pc := 61) 62 dX10_day_61 rfl rfl rfl ?_
      refine g_iload_n (M := mX10_day) (pc := 62) 63 dX10_day_62 rfl rfl rfl ?_
      refine g_cV_I (M := mX10_day) (pc := 63) (M' := mX10_metOf) (rest := [aI (h 8 33 4), aI 4, aR 8 33]) 66 dX10_day_63 rfl kX10_122 okX10_metOf (CX10_metOf a5 a1 a2 a3 h L) oO32 rfl rfl rfl rfl (fun r5 => ?_)
      refine g_iadd (M := mX10_day) (pc := 66) 67 dX10_day_66 rfl ?_
      refine g_iastC (M := mX10_day) (pc := 67) (j := 4) 68 dX10_day_67 rfl oA33 rfl rfl (fun h6 => ?_)
      refine g_aload_n (M := mX10_day) (pc := 68) 69 dX10_day_68 rfl rfl rfl ?_
      refine g_iload (M := mX10_day) (pc := 69) 71 dX10_day_69 rfl rfl ?_
      refine g_iload_n (M := mX10_day) (pc := 71) 72 dX10_day_71 rfl rfl rfl ?_
      refine g_cV_I (M := mX10_day) (pc := 72) (M' := mX10_byOf) (rest := []) 75 dX10_day_72 rfl kX10_129 okX10_byOf (CX10_byOf a5 a1 h6 L) oO32 rfl rfl rfl rfl (fun r7 => ?_)
      refine g_istore (M := mX10_day) (pc := 75) (ls' := [some (aR 8 32), some (aI a1), some (aI a2), some (aI a3), some (aI a4), some (aI a5), some (aI r7)]) 77 dX10_day_75 rfl rfl rfl ?_
      refine g_iload (M := mX10_day) (pc := 77) 79 dX10_day_77 rfl rfl ?_
      refine g_if_lt (M := mX10_day) (pc := 79) 106 82 dX10_day_79 (by decide) rfl (fun _ => ?_) (fun _ => ?_)
      · refine g_iinc (M := mX10_day) (pc := 106) (c := 1) (ls' := [some (aR 8 32), some (aI a1), some (aI a2), some (aI a3), some (aI a4), some (aI (a5 + 1)), some (aI r7)]) 109 dX10_day_106 rfl ic1 rfl rfl rfl ?_
        refine g_goto (M := mX10_day) (pc := 109) 23 dX10_day_109 (by decide) ?_
        exact g_jmp (fun z => v_fgt [true, true, true, true, true, true, false] z)
      · refine g_aload_n (M := mX10_day) (pc := 82) 83 dX10_day_82 rfl rfl rfl ?_
        refine g_getR (M := mX10_day) (pc := 83) 86 dX10_day_83 rfl fX10_7 oR32_0 ?_
        refine g_iload (M := mX10_day) (pc := 86) 88 dX10_day_86 rfl rfl ?_
        refine g_iconst (M := mX10_day) (pc := 88) (v := 5) 89 dX10_day_88 rfl ic5 ?_
        refine g_cS_I (M := mX10_day) (pc := 89) (M' := mX10_at) (rest := [aR 8 33]) 92 dX10_day_89 rfl kX10_49 okX10_at (CX10_at r7 5 h6 L) rfl rfl rfl rfl (fun r8 => ?_)
        refine g_dup2 (M := mX10_day) (pc := 92) 93 dX10_day_92 rfl rfl rfl ?_
        refine g_iald (M := mX10_day) (pc := 93) 94 dX10_day_93 rfl oA33 ?_
        refine g_iconst (M := mX10_day) (pc := 94) (v := 1) 95 dX10_day_94 rfl ic1 ?_
        refine g_iadd (M := mX10_day) (pc := 95) 96 dX10_day_95 rfl ?_
        refine g_iast (M := mX10_day) (pc := 96) 97 dX10_day_96 rfl oA33 (fun h9 => ?_)
        refine g_iload (M := mX10_day) (pc := 97) 99 dX10_day_97 rfl rfl ?_
        refine g_iconst (M := mX10_day) (pc := 99) (v := 1) 100 dX10_day_99 rfl ic1 ?_
        refine g_iload (M := mX10_day) (pc := 100) 102 dX10_day_100 rfl rfl ?_
        refine g_ishl (M := mX10_day) (pc := 102) 103 dX10_day_102 rfl ?_
        refine g_ior (M := mX10_day) (pc := 103) 104 dX10_day_103 rfl ?_
        refine g_nmI (fun t10 => ?_)
        refine g_istore (M := mX10_day) (pc := 104) (ls' := [some (aR 8 32), some (aI a1), some (aI a2), some (aI a3), some (aI t10), some (aI a5), some (aI r7)]) 106 dX10_day_104 rfl rfl rfl ?_
        refine g_iinc (M := mX10_day) (pc := 106) (c := 1) (ls' := [some (aR 8 32), some (aI a1), some (aI a2), some (aI a3), some (aI t10), some (aI (a5 + 1)), some (aI r7)]) 109 dX10_day_106 rfl ic1 rfl rfl rfl ?_
        refine g_goto (M := mX10_day) (pc := 109) 23 dX10_day_109 (by decide) ?_
        exact g_jmp (fun z => v_fgt [true, true, true, true, true, true, false] z)
set_option maxRecDepth 100000 in
set_option maxHeartbeats 4000000 in
theorem JX10_day_163_ok (a4 : Int32) (a5 : Int32) (s0 : Int32) (T : ZT) (h : HI) (L : HL) : VX mX10_day 4 T (gS (fun s : Int32 × HI => V mX10_day 4 T 115 [some (aR 8 32), none, none, none, some (aI a4), some (aI (s.1)), none] [] (s.2) L) (fun s : HI => V mX10_day 4 T 205 [some (aR 8 32), none, none, none, some (aI a4), none, none] [] s L)) 163 [some (aR 8 32), none, none, none, some (aI a4), some (aI a5), none] [aI s0] h L (JX10_day_163 a4 a5 s0 h) := by
  unfold JX10_day_163
  refine g_istore (M := mX10_day) (pc := 163) (ls' := [some (aR 8 32), none, none, none, some (aI a4), some (aI a5), some (aI s0)]) 165 dX10_day_163 rfl rfl rfl ?_
  refine g_aload_n (M := mX10_day) (pc := 165) 166 dX10_day_165 rfl rfl rfl ?_
  refine g_getR (M := mX10_day) (pc := 166) 169 dX10_day_166 rfl fX10_7 oR32_0 ?_
  refine g_iload (M := mX10_day) (pc := 169) 171 dX10_day_169 rfl rfl ?_
  refine g_iconst (M := mX10_day) (pc := 171) (v := 4) 172 dX10_day_171 rfl ic4 ?_
  refine g_cS_I (M := mX10_day) (pc := 172) (M' := mX10_at) (rest := [aR 8 33]) 175 dX10_day_172 rfl kX10_49 okX10_at (CX10_at a5 4 h L) rfl rfl rfl rfl (fun r16 => ?_)
  refine g_iload (M := mX10_day) (pc := 175) 177 dX10_day_175 rfl rfl ?_
  refine g_if_ge (M := mX10_day) (pc := 177) 184 180 dX10_day_177 (by decide) rfl (fun _ => ?_) (fun _ => ?_)
  · refine g_iload (M := mX10_day) (pc := 184) 186 dX10_day_184 rfl rfl ?_
    refine g_bipush (M := mX10_day) (pc := 186) (v := 100) 188 dX10_day_186 rfl bp100 ?_
    refine g_icmp_le (M := mX10_day) (pc := 188) 196 191 dX10_day_188 (by decide) rfl (fun _ => ?_) (fun _ => ?_)
    · refine g_iload (M := mX10_day) (pc := 196) 198 dX10_day_196 rfl rfl ?_
      refine g_iast (M := mX10_day) (pc := 198) 199 dX10_day_198 rfl oA33 (fun h17 => ?_)
      refine g_iinc (M := mX10_day) (pc := 199) (c := 1) (ls' := [some (aR 8 32), none, none, none, some (aI a4), some (aI (a5 + 1)), some (aI s0)]) 202 dX10_day_199 rfl ic1 rfl rfl rfl ?_
      refine g_goto (M := mX10_day) (pc := 202) 115 dX10_day_202 (by decide) ?_
      exact g_jmp (fun z => v_fgt [true, false, false, false, true, true, false] z)
    · refine g_bipush (M := mX10_day) (pc := 191) (v := 100) 193 dX10_day_191 rfl bp100 ?_
      refine g_goto (M := mX10_day) (pc := 193) 198 dX10_day_193 (by decide) ?_
      refine g_iast (M := mX10_day) (pc := 198) 199 dX10_day_198 rfl oA33 (fun h18 => ?_)
      refine g_iinc (M := mX10_day) (pc := 199) (c := 1) (ls' := [some (aR 8 32), none, none, none, some (aI a4), some (aI (a5 + 1)), some (aI s0)]) 202 dX10_day_199 rfl ic1 rfl rfl rfl ?_
      refine g_goto (M := mX10_day) (pc := 202) 115 dX10_day_202 (by decide) ?_
      exact g_jmp (fun z => v_fgt [true, false, false, false, true, true, false] z)
  · refine g_iconst (M := mX10_day) (pc := 180) (v := 0) 181 dX10_day_180 rfl ic0 ?_
    refine g_goto (M := mX10_day) (pc := 181) 198 dX10_day_181 (by decide) ?_
    refine g_iast (M := mX10_day) (pc := 198) 199 dX10_day_198 rfl oA33 (fun h19 => ?_)
    refine g_iinc (M := mX10_day) (pc := 199) (c := 1) (ls' := [some (aR 8 32), none, none, none, some (aI a4), some (aI (a5 + 1)), some (aI s0)]) 202 dX10_day_199 rfl ic1 rfl rfl rfl ?_
    refine g_goto (M := mX10_day) (pc := 202) 115 dX10_day_202 (by decide) ?_
    exact g_jmp (fun z => v_fgt [true, false, false, false, true, true, false] z)
set_option maxRecDepth 100000 in
set_option maxHeartbeats 4000000 in
theorem SX10_day_115_ok (a4 : Int32) (L : HL) (T : ZT) (a5 : Int32) (h : HI) : VX mX10_day 4 T (gS (fun s : Int32 × HI => V mX10_day 4 T 115 [some (aR 8 32), none, none, none, some (aI a4), some (aI (s.1)), none] [] (s.2) L) (fun s : HI => V mX10_day 4 T 205 [some (aR 8 32), none, none, none, some (aI a4), none, none] [] s L)) 115 [some (aR 8 32), none, none, none, some (aI a4), some (aI a5), none] [] h L (SX10_day_115 a4 (a5, h)) := by
  unfold SX10_day_115
  refine g_iload (M := mX10_day) (pc := 115) 117 dX10_day_115 rfl rfl ?_
  refine g_aload_n (M := mX10_day) (pc := 117) 118 dX10_day_117 rfl rfl rfl ?_
  refine g_getR (M := mX10_day) (pc := 118) 121 dX10_day_118 rfl fX10_7 oR32_0 ?_
  refine g_iconst (M := mX10_day) (pc := 121) (v := 0) 122 dX10_day_121 rfl ic0 ?_
  refine g_ialdC (M := mX10_day) (pc := 122) (j := 0) 123 dX10_day_122 rfl oA33 rfl rfl ?_
  refine g_icmp_ge (M := mX10_day) (pc := 123) 205 126 dX10_day_123 (by decide) rfl (fun _ => ?_) (fun _ => ?_)
  · exact g_jmp (fun z => v_fgt [true, false, false, false, true, false, false] z)
  · refine g_iload (M := mX10_day) (pc := 126) 128 dX10_day_126 rfl rfl ?_
    refine g_iload (M := mX10_day) (pc := 128) 130 dX10_day_128 rfl rfl ?_
    refine g_cS_I (M := mX10_day) (pc := 130) (M' := mX10_has) (rest := []) 133 dX10_day_130 rfl kX10_106 okX10_has (CX10_has a4 a5 h L) rfl rfl rfl rfl (fun r13 => ?_)
    refine g_if_eq (M := mX10_day) (pc := 133) 149 136 dX10_day_133 (by decide) rfl (fun _ => ?_) (fun _ => ?_)
    · refine g_aload_n (M := mX10_day) (pc := 149) 150 dX10_day_149 rfl rfl rfl ?_
      refine g_iload (M := mX10_day) (pc := 150) 152 dX10_day_150 rfl rfl ?_
      refine g_iconst (M := mX10_day) (pc := 152) (v := 4) 153 dX10_day_152 rfl ic4 ?_
      refine g_cV_I (M := mX10_day) (pc := 153) (M' := mX10_its) (rest := []) 156 dX10_day_153 rfl kX10_76 okX10_its (CX10_its a5 4 h L) oO32 rfl rfl rfl rfl (fun r14 => ?_)
      refine g_aload_n (M := mX10_day) (pc := 156) 157 dX10_day_156 rfl rfl rfl ?_
      refine g_iload (M := mX10_day) (pc := 157) 159 dX10_day_157 rfl rfl ?_
      refine g_cV_I (M := mX10_day) (pc := 159) (M' := mX10_forgets) (rest := [aI r14]) 162 dX10_day_159 rfl kX10_88 okX10_forgets (CX10_forgets a5 h L) oO32 rfl rfl rfl rfl (fun r15 => ?_)
      refine g_isub (M := mX10_day) (pc := 162) 163 dX10_day_162 rfl ?_
      exact g_fgt [true, false, false, false, true, true, false] (JX10_day_163_ok a4 a5 (r14 - r15) T h L)
    · refine g_aload_n (M := mX10_day) (pc := 136) 137 dX10_day_136 rfl rfl rfl ?_
      refine g_iload (M := mX10_day) (pc := 137) 139 dX10_day_137 rfl rfl ?_
      refine g_iconst (M := mX10_day) (pc := 139) (v := 4) 140 dX10_day_139 rfl ic4 ?_
      refine g_cV_I (M := mX10_day) (pc := 140) (M' := mX10_its) (rest := []) 143 dX10_day_140 rfl kX10_76 okX10_its (CX10_its a5 4 h L) oO32 rfl rfl rfl rfl (fun r20 => ?_)
      refine g_bipush (M := mX10_day) (pc := 143) (v := 10) 145 dX10_day_143 rfl bp10 ?_
      refine g_iadd (M := mX10_day) (pc := 145) 146 dX10_day_145 rfl ?_
      refine g_goto (M := mX10_day) (pc := 146) 163 dX10_day_146 (by decide) ?_
      exact g_fgt [true, false, false, false, true, true, false] (JX10_day_163_ok a4 a5 (r20 + 10) T h L)
set_option maxRecDepth 100000 in
set_option maxHeartbeats 4000000 in
theorem CX10_day (h : HI) (L : HL) : CG mX10_day 4 [aR 8 32] h L (lfIH L) (FX10_day h) := by
  unfold FX10_day
  refine cg_of [some (aR 8 32), none, none, none, none, none, none] rfl (by decide) rfl rfl (fun T => ?_)
  refine g_aload_n (M := mX10_day) (pc := 0) 1 dX10_day_0 rfl rfl rfl ?_
  refine g_cV_I (M := mX10_day) (pc := 1) (M' := mX10_knownSet) (rest := []) 4 dX10_day_1 rfl kX10_172 okX10_knownSet (CX10_knownSet h L) oO32 rfl rfl rfl rfl (fun r1 => ?_)
  refine g_istore_n (M := mX10_day) (pc := 4) (ls' := [some (aR 8 32), some (aI r1), none, none, none, none, none]) 5 dX10_day_4 rfl rfl rfl rfl ?_
  refine g_aload_n (M := mX10_day) (pc := 5) 6 dX10_day_5 rfl rfl rfl ?_
  refine g_iload_n (M := mX10_day) (pc := 6) 7 dX10_day_6 rfl rfl rfl ?_
  refine g_cV_I (M := mX10_day) (pc := 7) (M' := mX10_hasRope) (rest := []) 10 dX10_day_7 rfl kX10_112 okX10_hasRope (CX10_hasRope r1 h L) oO32 rfl rfl rfl rfl (fun r2 => ?_)
  refine g_istore_n (M := mX10_day) (pc := 10) (ls' := [some (aR 8 32), some (aI r1), some (aI r2), none, none, none, none]) 11 dX10_day_10 rfl rfl rfl rfl ?_
  refine g_aload_n (M := mX10_day) (pc := 11) 12 dX10_day_11 rfl rfl rfl ?_
  refine g_iload_n (M := mX10_day) (pc := 12) 13 dX10_day_12 rfl rfl rfl ?_
  refine g_cV_I (M := mX10_day) (pc := 13) (M' := mX10_hasMending) (rest := []) 16 dX10_day_13 rfl kX10_119 okX10_hasMending (CX10_hasMending r1 h L) oO32 rfl rfl rfl rfl (fun r3 => ?_)
  refine g_istore_n (M := mX10_day) (pc := 16) (ls' := [some (aR 8 32), some (aI r1), some (aI r2), some (aI r3), none, none, none]) 17 dX10_day_16 rfl rfl rfl rfl ?_
  refine g_iconst (M := mX10_day) (pc := 17) (v := 0) 18 dX10_day_17 rfl ic0 ?_
  refine g_istore (M := mX10_day) (pc := 18) (ls' := [some (aR 8 32), some (aI r1), some (aI r2), some (aI r3), some (aI 0), none, none]) 20 dX10_day_18 rfl rfl rfl ?_
  refine g_iconst (M := mX10_day) (pc := 20) (v := 0) 21 dX10_day_20 rfl ic0 ?_
  refine g_istore (M := mX10_day) (pc := 21) (ls' := [some (aR 8 32), some (aI r1), some (aI r2), some (aI r3), some (aI 0), some (aI 0), none]) 23 dX10_day_21 rfl rfl rfl ?_
  refine g_loop (fun s => SX10_day_23_ok r1 r2 r3 L T s.1 s.2.1 s.2.2) ?_ (fun z => v_fgt [true, true, true, true, true, true, false] z)
  rintro ⟨e11, h12⟩
  show VX mX10_day 4 T _ 112 [some (aR 8 32), none, none, none, some (aI e11), none, none] [] h12 L _
  refine g_iconst (M := mX10_day) (pc := 112) (v := 0) 113 dX10_day_112 rfl ic0 ?_
  refine g_istore (M := mX10_day) (pc := 113) (ls' := [some (aR 8 32), none, none, none, some (aI e11), some (aI 0), none]) 115 dX10_day_113 rfl rfl rfl ?_
  refine g_loop (fun s => SX10_day_115_ok e11 L T s.1 s.2) ?_ (fun z => v_fgt [true, false, false, false, true, true, false] z)
  intro h21
  show VX mX10_day 4 T _ 205 [some (aR 8 32), none, none, none, some (aI e11), none, none] [] h21 L _
  refine g_aload_n (M := mX10_day) (pc := 205) 206 dX10_day_205 rfl rfl rfl ?_
  refine g_getR (M := mX10_day) (pc := 206) 209 dX10_day_206 rfl fX10_7 oR32_0 ?_
  refine g_iconst (M := mX10_day) (pc := 209) (v := 3) 210 dX10_day_209 rfl ic3 ?_
  refine g_dup2 (M := mX10_day) (pc := 210) 211 dX10_day_210 rfl rfl rfl ?_
  refine g_ialdC (M := mX10_day) (pc := 211) (j := 3) 212 dX10_day_211 rfl oA33 rfl rfl ?_
  refine g_iconst (M := mX10_day) (pc := 212) (v := 1) 213 dX10_day_212 rfl ic1 ?_
  refine g_iadd (M := mX10_day) (pc := 213) 214 dX10_day_213 rfl ?_
  refine g_iastC (M := mX10_day) (pc := 214) (j := 3) 215 dX10_day_214 rfl oA33 rfl rfl (fun h22 => ?_)
  refine g_iload (M := mX10_day) (pc := 215) 217 dX10_day_215 rfl rfl ?_
  exact g_iret (M := mX10_day) (pc := 217) dX10_day_217 rfl rfl (fun z => z)
def SX10_daysGo_4 (a1 : Int32) : (Int32 × Int32 × HI) → Option ((Int32 × Int32 × HI) ⊕ (Int32 × HI))
  | (a2, a3, h) =>
    if a1 ≤ a3 then
      some (Sum.inr (a2, h))
    else
      Option.bind (FX10_day h) fun (r1, h2) =>
      nm (a2 ||| r1) fun t3 =>
      some (Sum.inl (t3, (a3 + 1), h2))
def FX10_daysGo (a1 : Int32) (h : HI) : Option (Int32 × HI) :=
  Option.bind (loopN (SX10_daysGo_4 a1) FU (0, 0, h)) fun (e4, h5) =>
    some (e4, h5)
set_option maxRecDepth 100000 in
set_option maxHeartbeats 4000000 in
theorem SX10_daysGo_4_ok (a1 : Int32) (L : HL) (T : ZT) (a2 : Int32) (a3 : Int32) (h : HI) : VX mX10_daysGo 5 T (gS (fun s : Int32 × Int32 × HI => V mX10_daysGo 5 T 4 [some (aR 8 32), some (aI a1), some (aI (s.1)), some (aI (s.2.1))] [] (s.2.2) L) (fun s : Int32 × HI => V mX10_daysGo 5 T 22 [none, none, some (aI (s.1)), none] [] (s.2) L)) 4 [some (aR 8 32), some (aI a1), some (aI a2), some (aI a3)] [] h L (SX10_daysGo_4 a1 (a2, a3, h)) := by
  unfold SX10_daysGo_4
  refine g_iload_n (M := mX10_daysGo) (pc := 4) 5 dX10_daysGo_4 rfl rfl rfl ?_
  refine g_iload_n (M := mX10_daysGo) (pc := 5) 6 dX10_daysGo_5 rfl rfl rfl ?_
  refine g_icmp_ge (M := mX10_daysGo) (pc := 6) 22 9 dX10_daysGo_6 (by decide) rfl (fun _ => ?_) (fun _ => ?_)
  · exact g_jmp (fun z => v_fgt [false, false, true, false] z)
  · refine g_iload_n (M := mX10_daysGo) (pc := 9) 10 dX10_daysGo_9 rfl rfl rfl ?_
    refine g_aload_n (M := mX10_daysGo) (pc := 10) 11 dX10_daysGo_10 rfl rfl rfl ?_
    refine g_cV_IH (M := mX10_daysGo) (pc := 11) (M' := mX10_day) (rest := [aI a2]) 14 dX10_daysGo_11 rfl kX10_176 okX10_day (CX10_day h L) oO32 rfl rfl rfl rfl (fun r1 h2 => ?_)
    refine g_ior (M := mX10_daysGo) (pc := 14) 15 dX10_daysGo_14 rfl ?_
    refine g_nmI (fun t3 => ?_)
    refine g_istore_n (M := mX10_daysGo) (pc := 15) (ls' := [some (aR 8 32), some (aI a1), some (aI t3), some (aI a3)]) 16 dX10_daysGo_15 rfl rfl rfl rfl ?_
    refine g_iinc (M := mX10_daysGo) (pc := 16) (c := 1) (ls' := [some (aR 8 32), some (aI a1), some (aI t3), some (aI (a3 + 1))]) 19 dX10_daysGo_16 rfl ic1 rfl rfl rfl ?_
    refine g_goto (M := mX10_daysGo) (pc := 19) 4 dX10_daysGo_19 (by decide) ?_
    exact g_jmp (fun z => v_fgt [true, true, true, true] z)
set_option maxRecDepth 100000 in
set_option maxHeartbeats 4000000 in
theorem CX10_daysGo (a1 : Int32) (h : HI) (L : HL) : CG mX10_daysGo 5 [aR 8 32, aI a1] h L (lfIH L) (FX10_daysGo a1 h) := by
  unfold FX10_daysGo
  refine cg_of [some (aR 8 32), some (aI a1), none, none] rfl (by decide) rfl rfl (fun T => ?_)
  refine g_iconst (M := mX10_daysGo) (pc := 0) (v := 0) 1 dX10_daysGo_0 rfl ic0 ?_
  refine g_istore_n (M := mX10_daysGo) (pc := 1) (ls' := [some (aR 8 32), some (aI a1), some (aI 0), none]) 2 dX10_daysGo_1 rfl rfl rfl rfl ?_
  refine g_iconst (M := mX10_daysGo) (pc := 2) (v := 0) 3 dX10_daysGo_2 rfl ic0 ?_
  refine g_istore_n (M := mX10_daysGo) (pc := 3) (ls' := [some (aR 8 32), some (aI a1), some (aI 0), some (aI 0)]) 4 dX10_daysGo_3 rfl rfl rfl rfl ?_
  refine g_loop (fun s => SX10_daysGo_4_ok a1 L T s.1 s.2.1 s.2.2) ?_ (fun z => v_fgt [true, true, true, true] z)
  rintro ⟨e4, h5⟩
  show VX mX10_daysGo 5 T _ 22 [none, none, some (aI e4), none] [] h5 L _
  refine g_iload_n (M := mX10_daysGo) (pc := 22) 23 dX10_daysGo_22 rfl rfl rfl ?_
  exact g_iret (M := mX10_daysGo) (pc := 23) dX10_daysGo_23 rfl rfl (fun z => z)
def FX10_isTooLate (a1 : Int32) (h : HI) : Option (Int32) :=
  if ((h 8 33 3) + a1) ≤ 99 then
    some 0
  else
    some 1
set_option maxRecDepth 100000 in
set_option maxHeartbeats 4000000 in
theorem CX10_isTooLate (a1 : Int32) (h : HI) (L : HL) : CG mX10_isTooLate 0 [aR 8 32, aI a1] h L (lfI h L) (FX10_isTooLate a1 h) := by
  unfold FX10_isTooLate
  refine cg_of [some (aR 8 32), some (aI a1)] rfl (by decide) rfl rfl (fun T => ?_)
  refine g_aload_n (M := mX10_isTooLate) (pc := 0) 1 dX10_isTooLate_0 rfl rfl rfl ?_
  refine g_getR (M := mX10_isTooLate) (pc := 1) 4 dX10_isTooLate_1 rfl fX10_7 oR32_0 ?_
  refine g_iconst (M := mX10_isTooLate) (pc := 4) (v := 3) 5 dX10_isTooLate_4 rfl ic3 ?_
  refine g_ialdC (M := mX10_isTooLate) (pc := 5) (j := 3) 6 dX10_isTooLate_5 rfl oA33 rfl rfl ?_
  refine g_iload_n (M := mX10_isTooLate) (pc := 6) 7 dX10_isTooLate_6 rfl rfl rfl ?_
  refine g_iadd (M := mX10_isTooLate) (pc := 7) 8 dX10_isTooLate_7 rfl ?_
  refine g_bipush (M := mX10_isTooLate) (pc := 8) (v := 99) 10 dX10_isTooLate_8 rfl bp99 ?_
  refine g_icmp_le (M := mX10_isTooLate) (pc := 10) 17 13 dX10_isTooLate_10 (by decide) rfl (fun _ => ?_) (fun _ => ?_)
  · refine g_iconst (M := mX10_isTooLate) (pc := 17) (v := 0) 18 dX10_isTooLate_17 rfl ic0 ?_
    exact g_iret (M := mX10_isTooLate) (pc := 18) dX10_isTooLate_18 rfl nz0 (fun z => z)
  · refine g_iconst (M := mX10_isTooLate) (pc := 13) (v := 1) 14 dX10_isTooLate_13 rfl ic1 ?_
    refine g_goto (M := mX10_isTooLate) (pc := 14) 18 dX10_isTooLate_14 (by decide) ?_
    exact g_iret (M := mX10_isTooLate) (pc := 18) dX10_isTooLate_18 rfl nz1 (fun z => z)
def FX10_days (a1 : Int32) (h : HI) : Option (Int32 × HI) :=
  Option.bind (FX10_in (Int32.toInt64 a1) 1 30) fun r1 =>
  if r1 = 0 then
    Option.bind (FX10_finds (-1000000001) h) fun (r8, h9) =>
    some (r8, h9)
  else
    Option.bind (FX10_isTooLate a1 h) fun r2 =>
    if r2 = 0 then
      nm (h 8 33 4) fun t3 =>
      Option.bind (FX10_daysGo a1 h) fun (r4, h5) =>
      some (((h5 8 33 4) - t3), h5)
    else
      Option.bind (FX10_finds (-1000000005) h) fun (r6, h7) =>
      some (r6, h7)
set_option maxRecDepth 100000 in
set_option maxHeartbeats 4000000 in
theorem CX10_days (a1 : Int32) (h : HI) (L : HL) : CG mX10_days 6 [aR 8 32, aI a1] h L (lfIH L) (FX10_days a1 h) := by
  unfold FX10_days
  refine cg_of [some (aR 8 32), some (aI a1), none, none] rfl (by decide) rfl rfl (fun T => ?_)
  refine g_iload_n (M := mX10_days) (pc := 0) 1 dX10_days_0 rfl rfl rfl ?_
  refine g_i2l (M := mX10_days) (pc := 1) 2 dX10_days_1 rfl ?_
  refine g_lconst (M := mX10_days) (pc := 2) (v := 1) 3 dX10_days_2 rfl rfl ?_
  refine g_ldc2 (M := mX10_days) (pc := 3) 6 dX10_days_3 rfl cX10_179 ?_
  refine g_cS_I (M := mX10_days) (pc := 6) (M' := mX10_in) (rest := []) 9 dX10_days_6 rfl kX10_45 okX10_in (CX10_in (Int32.toInt64 a1) 1 30 h L) rfl rfl rfl rfl (fun r1 => ?_)
  refine g_if_ne (M := mX10_days) (pc := 9) 19 12 dX10_days_9 (by decide) rfl (fun _ => ?_) (fun _ => ?_)
  · refine g_aload_n (M := mX10_days) (pc := 19) 20 dX10_days_19 rfl rfl rfl ?_
    refine g_iload_n (M := mX10_days) (pc := 20) 21 dX10_days_20 rfl rfl rfl ?_
    refine g_cV_I (M := mX10_days) (pc := 21) (M' := mX10_isTooLate) (rest := []) 24 dX10_days_21 rfl kX10_181 okX10_isTooLate (CX10_isTooLate a1 h L) oO32 rfl rfl rfl rfl (fun r2 => ?_)
    refine g_if_eq (M := mX10_days) (pc := 24) 34 27 dX10_days_24 (by decide) rfl (fun _ => ?_) (fun _ => ?_)
    · refine g_aload_n (M := mX10_days) (pc := 34) 35 dX10_days_34 rfl rfl rfl ?_
      refine g_getR (M := mX10_days) (pc := 35) 38 dX10_days_35 rfl fX10_7 oR32_0 ?_
      refine g_iconst (M := mX10_days) (pc := 38) (v := 4) 39 dX10_days_38 rfl ic4 ?_
      refine g_ialdC (M := mX10_days) (pc := 39) (j := 4) 40 dX10_days_39 rfl oA33 rfl rfl ?_
      refine g_nmI (fun t3 => ?_)
      refine g_istore_n (M := mX10_days) (pc := 40) (ls' := [some (aR 8 32), some (aI a1), some (aI t3), none]) 41 dX10_days_40 rfl rfl rfl rfl ?_
      refine g_aload_n (M := mX10_days) (pc := 41) 42 dX10_days_41 rfl rfl rfl ?_
      refine g_iload_n (M := mX10_days) (pc := 42) 43 dX10_days_42 rfl rfl rfl ?_
      refine g_cV_IH (M := mX10_days) (pc := 43) (M' := mX10_daysGo) (rest := []) 46 dX10_days_43 rfl kX10_185 okX10_daysGo (CX10_daysGo a1 h L) oO32 rfl rfl rfl rfl (fun r4 h5 => ?_)
      refine g_istore_n (M := mX10_days) (pc := 46) (ls' := [some (aR 8 32), some (aI a1), some (aI t3), some (aI r4)]) 47 dX10_days_46 rfl rfl rfl rfl ?_
      refine g_aload_n (M := mX10_days) (pc := 47) 48 dX10_days_47 rfl rfl rfl ?_
      refine g_getR (M := mX10_days) (pc := 48) 51 dX10_days_48 rfl fX10_7 oR32_0 ?_
      refine g_iconst (M := mX10_days) (pc := 51) (v := 4) 52 dX10_days_51 rfl ic4 ?_
      refine g_ialdC (M := mX10_days) (pc := 52) (j := 4) 53 dX10_days_52 rfl oA33 rfl rfl ?_
      refine g_iload_n (M := mX10_days) (pc := 53) 54 dX10_days_53 rfl rfl rfl ?_
      refine g_isub (M := mX10_days) (pc := 54) 55 dX10_days_54 rfl ?_
      exact g_iret (M := mX10_days) (pc := 55) dX10_days_55 rfl rfl (fun z => z)
    · refine g_aload_n (M := mX10_days) (pc := 27) 28 dX10_days_27 rfl rfl rfl ?_
      refine g_ldc (M := mX10_days) (pc := 28) 30 dX10_days_28 rfl cX10_184 ?_
      refine g_cV_IH (M := mX10_days) (pc := 30) (M' := mX10_finds) (rest := []) 33 dX10_days_30 rfl kX10_67 okX10_finds (CX10_finds (-1000000005) h L) oO32 rfl rfl rfl rfl (fun r6 h7 => ?_)
      exact g_iret (M := mX10_days) (pc := 33) dX10_days_33 rfl rfl (fun z => z)
  · refine g_aload_n (M := mX10_days) (pc := 12) 13 dX10_days_12 rfl rfl rfl ?_
    refine g_ldc (M := mX10_days) (pc := 13) 15 dX10_days_13 rfl cX10_44 ?_
    refine g_cV_IH (M := mX10_days) (pc := 15) (M' := mX10_finds) (rest := []) 18 dX10_days_15 rfl kX10_67 okX10_finds (CX10_finds (-1000000001) h L) oO32 rfl rfl rfl rfl (fun r8 h9 => ?_)
    exact g_iret (M := mX10_days) (pc := 18) dX10_days_18 rfl rfl (fun z => z)
def SX10_now_57 (h : HI) : (Int32 × Int32) → Option ((Int32 × Int32) ⊕ (Int32))
  | (a2, a3) =>
    if (h 8 33 1) ≤ a3 then
      some (Sum.inr a2)
    else
      Option.bind (FX10_wants a3 2 h) fun r1 =>
      if r1 = (h 8 33 3) then
        nm (a2 + 1) fun t3 =>
        some (Sum.inl (t3, (a3 + 1)))
      else
        nm (a2 + 0) fun t2 =>
        some (Sum.inl (t2, (a3 + 1)))
def FX10_now (a1 : Int32) (h : HI) : Option (Int32 × HI) :=
  if a1 = 0 then
    some ((h 8 33 3), h)
  else
  if a1 = 1 then
    some ((h 8 33 2), h)
  else
  if a1 = 2 then
    some ((h 8 33 4), h)
  else
  if a1 = 3 then
    Option.bind (loopN (SX10_now_57 h) FU (0, 0)) fun e4 =>
      some (e4, h)
  else
  Option.bind (FX10_finds (-1000000001) h) fun (r5, h6) =>
  some (r5, h6)
set_option maxRecDepth 100000 in
set_option maxHeartbeats 4000000 in
theorem SX10_now_57_ok (h : HI) (L : HL) (T : ZT) (a2 : Int32) (a3 : Int32) : VX mX10_now 1 T (gS (fun s : Int32 × Int32 => V mX10_now 1 T 57 [some (aR 8 32), none, some (aI (s.1)), some (aI (s.2))] [] h L) (fun s : Int32 => V mX10_now 1 T 96 [none, none, some (aI s), none] [] h L)) 57 [some (aR 8 32), none, some (aI a2), some (aI a3)] [] h L (SX10_now_57 h (a2, a3)) := by
  unfold SX10_now_57
  refine g_iload_n (M := mX10_now) (pc := 57) 58 dX10_now_57 rfl rfl rfl ?_
  refine g_aload_n (M := mX10_now) (pc := 58) 59 dX10_now_58 rfl rfl rfl ?_
  refine g_getR (M := mX10_now) (pc := 59) 62 dX10_now_59 rfl fX10_7 oR32_0 ?_
  refine g_iconst (M := mX10_now) (pc := 62) (v := 1) 63 dX10_now_62 rfl ic1 ?_
  refine g_ialdC (M := mX10_now) (pc := 63) (j := 1) 64 dX10_now_63 rfl oA33 rfl rfl ?_
  refine g_icmp_ge (M := mX10_now) (pc := 64) 96 67 dX10_now_64 (by decide) rfl (fun _ => ?_) (fun _ => ?_)
  · exact g_jmp (fun z => v_fgt [false, false, true, false] z)
  · refine g_iload_n (M := mX10_now) (pc := 67) 68 dX10_now_67 rfl rfl rfl ?_
    refine g_aload_n (M := mX10_now) (pc := 68) 69 dX10_now_68 rfl rfl rfl ?_
    refine g_iload_n (M := mX10_now) (pc := 69) 70 dX10_now_69 rfl rfl rfl ?_
    refine g_iconst (M := mX10_now) (pc := 70) (v := 2) 71 dX10_now_70 rfl ic2 ?_
    refine g_cV_I (M := mX10_now) (pc := 71) (M' := mX10_wants) (rest := [aI a2]) 74 dX10_now_71 rfl kX10_103 okX10_wants (CX10_wants a3 2 h L) oO32 rfl rfl rfl rfl (fun r1 => ?_)
    refine g_aload_n (M := mX10_now) (pc := 74) 75 dX10_now_74 rfl rfl rfl ?_
    refine g_getR (M := mX10_now) (pc := 75) 78 dX10_now_75 rfl fX10_7 oR32_0 ?_
    refine g_iconst (M := mX10_now) (pc := 78) (v := 3) 79 dX10_now_78 rfl ic3 ?_
    refine g_ialdC (M := mX10_now) (pc := 79) (j := 3) 80 dX10_now_79 rfl oA33 rfl rfl ?_
    refine g_icmp_ne (M := mX10_now) (pc := 80) 87 83 dX10_now_80 (by decide) rfl (fun _ => ?_) (fun _ => ?_)
    · refine g_iconst (M := mX10_now) (pc := 87) (v := 0) 88 dX10_now_87 rfl ic0 ?_
      refine g_iadd (M := mX10_now) (pc := 88) 89 dX10_now_88 rfl ?_
      refine g_nmI (fun t2 => ?_)
      refine g_istore_n (M := mX10_now) (pc := 89) (ls' := [some (aR 8 32), none, some (aI t2), some (aI a3)]) 90 dX10_now_89 rfl rfl rfl rfl ?_
      refine g_iinc (M := mX10_now) (pc := 90) (c := 1) (ls' := [some (aR 8 32), none, some (aI t2), some (aI (a3 + 1))]) 93 dX10_now_90 rfl ic1 rfl rfl rfl ?_
      refine g_goto (M := mX10_now) (pc := 93) 57 dX10_now_93 (by decide) ?_
      exact g_jmp (fun z => v_fgt [true, false, true, true] z)
    · refine g_iconst (M := mX10_now) (pc := 83) (v := 1) 84 dX10_now_83 rfl ic1 ?_
      refine g_goto (M := mX10_now) (pc := 84) 88 dX10_now_84 (by decide) ?_
      refine g_iadd (M := mX10_now) (pc := 88) 89 dX10_now_88 rfl ?_
      refine g_nmI (fun t3 => ?_)
      refine g_istore_n (M := mX10_now) (pc := 89) (ls' := [some (aR 8 32), none, some (aI t3), some (aI a3)]) 90 dX10_now_89 rfl rfl rfl rfl ?_
      refine g_iinc (M := mX10_now) (pc := 90) (c := 1) (ls' := [some (aR 8 32), none, some (aI t3), some (aI (a3 + 1))]) 93 dX10_now_90 rfl ic1 rfl rfl rfl ?_
      refine g_goto (M := mX10_now) (pc := 93) 57 dX10_now_93 (by decide) ?_
      exact g_jmp (fun z => v_fgt [true, false, true, true] z)
set_option maxRecDepth 100000 in
set_option maxHeartbeats 4000000 in
theorem CX10_now (a1 : Int32) (h : HI) (L : HL) : CG mX10_now 1 [aR 8 32, aI a1] h L (lfIH L) (FX10_now a1 h) := by
  unfold FX10_now
  refine cg_of [some (aR 8 32), some (aI a1), none, none] rfl (by decide) rfl rfl (fun T => ?_)
  refine g_iload_n (M := mX10_now) (pc := 0) 1 dX10_now_0 rfl rfl rfl ?_
  refine g_tsc (M := mX10_now) (pc := 1) (v := 0) 32 dX10_now_1 (by decide) (by decide) rfl (by decide) (fun _ => ?_) (fun z0 => ?_)
  · refine g_aload_n (M := mX10_now) (pc := 32) 33 dX10_now_32 rfl rfl rfl ?_
    refine g_getR (M := mX10_now) (pc := 33) 36 dX10_now_33 rfl fX10_7 oR32_0 ?_
    refine g_iconst (M := mX10_now) (pc := 36) (v := 3) 37 dX10_now_36 rfl ic3 ?_
    refine g_ialdC (M := mX10_now) (pc := 37) (j := 3) 38 dX10_now_37 rfl oA33 rfl rfl ?_
    exact g_iret (M := mX10_now) (pc := 38) dX10_now_38 rfl rfl (fun z => z)
  refine g_tsc (M := mX10_now) (pc := 1) (v := 1) 39 dX10_now_1 (by decide) (by decide) rfl (by decide) (fun _ => ?_) (fun z1 => ?_)
  · refine g_aload_n (M := mX10_now) (pc := 39) 40 dX10_now_39 rfl rfl rfl ?_
    refine g_getR (M := mX10_now) (pc := 40) 43 dX10_now_40 rfl fX10_7 oR32_0 ?_
    refine g_iconst (M := mX10_now) (pc := 43) (v := 2) 44 dX10_now_43 rfl ic2 ?_
    refine g_ialdC (M := mX10_now) (pc := 44) (j := 2) 45 dX10_now_44 rfl oA33 rfl rfl ?_
    exact g_iret (M := mX10_now) (pc := 45) dX10_now_45 rfl rfl (fun z => z)
  refine g_tsc (M := mX10_now) (pc := 1) (v := 2) 46 dX10_now_1 (by decide) (by decide) rfl (by decide) (fun _ => ?_) (fun z2 => ?_)
  · refine g_aload_n (M := mX10_now) (pc := 46) 47 dX10_now_46 rfl rfl rfl ?_
    refine g_getR (M := mX10_now) (pc := 47) 50 dX10_now_47 rfl fX10_7 oR32_0 ?_
    refine g_iconst (M := mX10_now) (pc := 50) (v := 4) 51 dX10_now_50 rfl ic4 ?_
    refine g_ialdC (M := mX10_now) (pc := 51) (j := 4) 52 dX10_now_51 rfl oA33 rfl rfl ?_
    exact g_iret (M := mX10_now) (pc := 52) dX10_now_52 rfl rfl (fun z => z)
  refine g_tsc (M := mX10_now) (pc := 1) (v := 3) 53 dX10_now_1 (by decide) (by decide) rfl (by decide) (fun _ => ?_) (fun z3 => ?_)
  · refine g_iconst (M := mX10_now) (pc := 53) (v := 0) 54 dX10_now_53 rfl ic0 ?_
    refine g_istore_n (M := mX10_now) (pc := 54) (ls' := [some (aR 8 32), some (aI a1), some (aI 0), none]) 55 dX10_now_54 rfl rfl rfl rfl ?_
    refine g_iconst (M := mX10_now) (pc := 55) (v := 0) 56 dX10_now_55 rfl ic0 ?_
    refine g_istore_n (M := mX10_now) (pc := 56) (ls' := [some (aR 8 32), some (aI a1), some (aI 0), some (aI 0)]) 57 dX10_now_56 rfl rfl rfl rfl ?_
    refine g_loop (fun s => SX10_now_57_ok h L T s.1 s.2) ?_ (fun z => v_fgt [true, false, true, true] z)
    intro e4
    show VX mX10_now 1 T _ 96 [none, none, some (aI e4), none] [] h L _
    refine g_iload_n (M := mX10_now) (pc := 96) 97 dX10_now_96 rfl rfl rfl ?_
    exact g_iret (M := mX10_now) (pc := 97) dX10_now_97 rfl rfl (fun z => z)
  refine g_tsOut (M := mX10_now) (pc := 1) 98 dX10_now_1 (by have y0 := lv_neT z0 (a := 0) rfl; have y1 := lv_neT z1 (a := 1) rfl; have y2 := lv_neT z2 (a := 2) rfl; have y3 := lv_neT z3 (a := 3) rfl; omega) (by decide) ?_
  refine g_aload_n (M := mX10_now) (pc := 98) 99 dX10_now_98 rfl rfl rfl ?_
  refine g_ldc (M := mX10_now) (pc := 99) 101 dX10_now_99 rfl cX10_44 ?_
  refine g_cV_IH (M := mX10_now) (pc := 101) (M' := mX10_finds) (rest := []) 104 dX10_now_101 rfl kX10_67 okX10_finds (CX10_finds (-1000000001) h L) oO32 rfl rfl rfl rfl (fun r5 h6 => ?_)
  exact g_iret (M := mX10_now) (pc := 104) dX10_now_104 rfl rfl (fun z => z)
def SX10_sumOf_4 (a1 : Int32) (h : HI) : (Int32 × Int32) → Option ((Int32 × Int32) ⊕ (Int32))
  | (a2, a3) =>
    if (h 8 33 0) ≤ a3 then
      some (Sum.inr a2)
    else
      Option.bind (FX10_its a3 a1 h) fun r1 =>
      nm (a2 + r1) fun t2 =>
      some (Sum.inl (t2, (a3 + 1)))
def FX10_sumOf (a1 : Int32) (h : HI) : Option (Int32) :=
  Option.bind (loopN (SX10_sumOf_4 a1 h) FU (0, 0)) fun e3 =>
    some e3
set_option maxRecDepth 100000 in
set_option maxHeartbeats 4000000 in
theorem SX10_sumOf_4_ok (a1 : Int32) (h : HI) (L : HL) (T : ZT) (a2 : Int32) (a3 : Int32) : VX mX10_sumOf 2 T (gS (fun s : Int32 × Int32 => V mX10_sumOf 2 T 4 [some (aR 8 32), some (aI a1), some (aI (s.1)), some (aI (s.2))] [] h L) (fun s : Int32 => V mX10_sumOf 2 T 29 [none, none, some (aI s), none] [] h L)) 4 [some (aR 8 32), some (aI a1), some (aI a2), some (aI a3)] [] h L (SX10_sumOf_4 a1 h (a2, a3)) := by
  unfold SX10_sumOf_4
  refine g_iload_n (M := mX10_sumOf) (pc := 4) 5 dX10_sumOf_4 rfl rfl rfl ?_
  refine g_aload_n (M := mX10_sumOf) (pc := 5) 6 dX10_sumOf_5 rfl rfl rfl ?_
  refine g_getR (M := mX10_sumOf) (pc := 6) 9 dX10_sumOf_6 rfl fX10_7 oR32_0 ?_
  refine g_iconst (M := mX10_sumOf) (pc := 9) (v := 0) 10 dX10_sumOf_9 rfl ic0 ?_
  refine g_ialdC (M := mX10_sumOf) (pc := 10) (j := 0) 11 dX10_sumOf_10 rfl oA33 rfl rfl ?_
  refine g_icmp_ge (M := mX10_sumOf) (pc := 11) 29 14 dX10_sumOf_11 (by decide) rfl (fun _ => ?_) (fun _ => ?_)
  · exact g_jmp (fun z => v_fgt [false, false, true, false] z)
  · refine g_iload_n (M := mX10_sumOf) (pc := 14) 15 dX10_sumOf_14 rfl rfl rfl ?_
    refine g_aload_n (M := mX10_sumOf) (pc := 15) 16 dX10_sumOf_15 rfl rfl rfl ?_
    refine g_iload_n (M := mX10_sumOf) (pc := 16) 17 dX10_sumOf_16 rfl rfl rfl ?_
    refine g_iload_n (M := mX10_sumOf) (pc := 17) 18 dX10_sumOf_17 rfl rfl rfl ?_
    refine g_cV_I (M := mX10_sumOf) (pc := 18) (M' := mX10_its) (rest := [aI a2]) 21 dX10_sumOf_18 rfl kX10_76 okX10_its (CX10_its a3 a1 h L) oO32 rfl rfl rfl rfl (fun r1 => ?_)
    refine g_iadd (M := mX10_sumOf) (pc := 21) 22 dX10_sumOf_21 rfl ?_
    refine g_nmI (fun t2 => ?_)
    refine g_istore_n (M := mX10_sumOf) (pc := 22) (ls' := [some (aR 8 32), some (aI a1), some (aI t2), some (aI a3)]) 23 dX10_sumOf_22 rfl rfl rfl rfl ?_
    refine g_iinc (M := mX10_sumOf) (pc := 23) (c := 1) (ls' := [some (aR 8 32), some (aI a1), some (aI t2), some (aI (a3 + 1))]) 26 dX10_sumOf_23 rfl ic1 rfl rfl rfl ?_
    refine g_goto (M := mX10_sumOf) (pc := 26) 4 dX10_sumOf_26 (by decide) ?_
    exact g_jmp (fun z => v_fgt [true, true, true, true] z)
set_option maxRecDepth 100000 in
set_option maxHeartbeats 4000000 in
theorem CX10_sumOf (a1 : Int32) (h : HI) (L : HL) : CG mX10_sumOf 2 [aR 8 32, aI a1] h L (lfI h L) (FX10_sumOf a1 h) := by
  unfold FX10_sumOf
  refine cg_of [some (aR 8 32), some (aI a1), none, none] rfl (by decide) rfl rfl (fun T => ?_)
  refine g_iconst (M := mX10_sumOf) (pc := 0) (v := 0) 1 dX10_sumOf_0 rfl ic0 ?_
  refine g_istore_n (M := mX10_sumOf) (pc := 1) (ls' := [some (aR 8 32), some (aI a1), some (aI 0), none]) 2 dX10_sumOf_1 rfl rfl rfl rfl ?_
  refine g_iconst (M := mX10_sumOf) (pc := 2) (v := 0) 3 dX10_sumOf_2 rfl ic0 ?_
  refine g_istore_n (M := mX10_sumOf) (pc := 3) (ls' := [some (aR 8 32), some (aI a1), some (aI 0), some (aI 0)]) 4 dX10_sumOf_3 rfl rfl rfl rfl ?_
  refine g_loop (fun s => SX10_sumOf_4_ok a1 h L T s.1 s.2) ?_ (fun z => v_fgt [true, true, true, true] z)
  intro e3
  show VX mX10_sumOf 2 T _ 29 [none, none, some (aI e3), none] [] h L _
  refine g_iload_n (M := mX10_sumOf) (pc := 29) 30 dX10_sumOf_29 rfl rfl rfl ?_
  exact g_iret (M := mX10_sumOf) (pc := 30) dX10_sumOf_30 rfl rfl (fun z => z)
def FX10_on (a1 : Int32) (a2 : Int32) (h : HI) : Option (Int32 × HI) :=
  Option.bind (FX10_in (Int32.toInt64 a1) 0 60) fun r1 =>
  if r1 = 0 then
    Option.bind (FX10_finds (-1000000001) h) fun (r2, h3) =>
    some (r2, h3)
  else
    Option.bind (FX10_in (Int32.toInt64 a2) 0 2) fun r4 =>
    if r4 = 0 then
      Option.bind (FX10_finds (-1000000001) h) fun (r17, h18) =>
      some (r17, h18)
    else
      Option.bind (FX10_isTooLate a1 h) fun r5 =>
      if r5 = 0 then
        Option.bind (FX10_puts h) fun h6 =>
        Option.bind (FX10_daysGo a1 h6) fun (r7, h8) =>
        if a2 = 0 then
          nm (h8 8 33 4) fun t13 =>
          Option.bind (FX10_putsBack h8) fun h14 =>
          some (t13, h14)
        else
          if a2 = 1 then
            Option.bind (FX10_knownSet h8) fun r11 =>
            Option.bind (FX10_putsBack h8) fun h12 =>
            some (r11, h12)
          else
            Option.bind (FX10_sumOf 4 h8) fun r9 =>
            Option.bind (FX10_putsBack h8) fun h10 =>
            some (r9, h10)
      else
        Option.bind (FX10_finds (-1000000005) h) fun (r15, h16) =>
        some (r15, h16)
set_option maxRecDepth 100000 in
set_option maxHeartbeats 4000000 in
theorem CX10_on (a1 : Int32) (a2 : Int32) (h : HI) (L : HL) : CG mX10_on 6 [aR 8 32, aI a1, aI a2] h L (lfIH L) (FX10_on a1 a2 h) := by
  unfold FX10_on
  refine cg_of [some (aR 8 32), some (aI a1), some (aI a2), none, none] rfl (by decide) rfl rfl (fun T => ?_)
  refine g_iload_n (M := mX10_on) (pc := 0) 1 dX10_on_0 rfl rfl rfl ?_
  refine g_i2l (M := mX10_on) (pc := 1) 2 dX10_on_1 rfl ?_
  refine g_lconst (M := mX10_on) (pc := 2) (v := 0) 3 dX10_on_2 rfl rfl ?_
  refine g_ldc2 (M := mX10_on) (pc := 3) 6 dX10_on_3 rfl cX10_57 ?_
  refine g_cS_I (M := mX10_on) (pc := 6) (M' := mX10_in) (rest := []) 9 dX10_on_6 rfl kX10_45 okX10_in (CX10_in (Int32.toInt64 a1) 0 60 h L) rfl rfl rfl rfl (fun r1 => ?_)
  refine g_if_eq (M := mX10_on) (pc := 9) 24 12 dX10_on_9 (by decide) rfl (fun _ => ?_) (fun _ => ?_)
  · refine g_aload_n (M := mX10_on) (pc := 24) 25 dX10_on_24 rfl rfl rfl ?_
    refine g_ldc (M := mX10_on) (pc := 25) 27 dX10_on_25 rfl cX10_44 ?_
    refine g_cV_IH (M := mX10_on) (pc := 27) (M' := mX10_finds) (rest := []) 30 dX10_on_27 rfl kX10_67 okX10_finds (CX10_finds (-1000000001) h L) oO32 rfl rfl rfl rfl (fun r2 h3 => ?_)
    exact g_iret (M := mX10_on) (pc := 30) dX10_on_30 rfl rfl (fun z => z)
  · refine g_iload_n (M := mX10_on) (pc := 12) 13 dX10_on_12 rfl rfl rfl ?_
    refine g_i2l (M := mX10_on) (pc := 13) 14 dX10_on_13 rfl ?_
    refine g_lconst (M := mX10_on) (pc := 14) (v := 0) 15 dX10_on_14 rfl rfl ?_
    refine g_ldc2 (M := mX10_on) (pc := 15) 18 dX10_on_15 rfl cX10_148 ?_
    refine g_cS_I (M := mX10_on) (pc := 18) (M' := mX10_in) (rest := []) 21 dX10_on_18 rfl kX10_45 okX10_in (CX10_in (Int32.toInt64 a2) 0 2 h L) rfl rfl rfl rfl (fun r4 => ?_)
    refine g_if_ne (M := mX10_on) (pc := 21) 31 24 dX10_on_21 (by decide) rfl (fun _ => ?_) (fun _ => ?_)
    · refine g_aload_n (M := mX10_on) (pc := 31) 32 dX10_on_31 rfl rfl rfl ?_
      refine g_iload_n (M := mX10_on) (pc := 32) 33 dX10_on_32 rfl rfl rfl ?_
      refine g_cV_I (M := mX10_on) (pc := 33) (M' := mX10_isTooLate) (rest := []) 36 dX10_on_33 rfl kX10_181 okX10_isTooLate (CX10_isTooLate a1 h L) oO32 rfl rfl rfl rfl (fun r5 => ?_)
      refine g_if_eq (M := mX10_on) (pc := 36) 46 39 dX10_on_36 (by decide) rfl (fun _ => ?_) (fun _ => ?_)
      · refine g_aload_n (M := mX10_on) (pc := 46) 47 dX10_on_46 rfl rfl rfl ?_
        refine g_cV_VH (M := mX10_on) (pc := 47) (M' := mX10_puts) (rest := []) 50 dX10_on_47 rfl kX10_188 okX10_puts (CX10_puts h L) oO32 rfl rfl rfl rfl (fun h6 => ?_)
        refine g_aload_n (M := mX10_on) (pc := 50) 51 dX10_on_50 rfl rfl rfl ?_
        refine g_iload_n (M := mX10_on) (pc := 51) 52 dX10_on_51 rfl rfl rfl ?_
        refine g_cV_IH (M := mX10_on) (pc := 52) (M' := mX10_daysGo) (rest := []) 55 dX10_on_52 rfl kX10_185 okX10_daysGo (CX10_daysGo a1 h6 L) oO32 rfl rfl rfl rfl (fun r7 h8 => ?_)
        refine g_istore_n (M := mX10_on) (pc := 55) (ls' := [some (aR 8 32), some (aI a1), some (aI a2), some (aI r7), none]) 56 dX10_on_55 rfl rfl rfl rfl ?_
        refine g_iload_n (M := mX10_on) (pc := 56) 57 dX10_on_56 rfl rfl rfl ?_
        refine g_if_ne (M := mX10_on) (pc := 57) 69 60 dX10_on_57 (by decide) rfl (fun _ => ?_) (fun _ => ?_)
        · refine g_iload_n (M := mX10_on) (pc := 69) 70 dX10_on_69 rfl rfl rfl ?_
          refine g_iconst (M := mX10_on) (pc := 70) (v := 1) 71 dX10_on_70 rfl ic1 ?_
          refine g_icmp_ne (M := mX10_on) (pc := 71) 81 74 dX10_on_71 (by decide) rfl (fun _ => ?_) (fun _ => ?_)
          · refine g_aload_n (M := mX10_on) (pc := 81) 82 dX10_on_81 rfl rfl rfl ?_
            refine g_iconst (M := mX10_on) (pc := 82) (v := 4) 83 dX10_on_82 rfl ic4 ?_
            refine g_cV_I (M := mX10_on) (pc := 83) (M' := mX10_sumOf) (rest := []) 86 dX10_on_83 rfl kX10_191 okX10_sumOf (CX10_sumOf 4 h8 L) oO32 rfl rfl rfl rfl (fun r9 => ?_)
            refine g_istore (M := mX10_on) (pc := 86) (ls' := [some (aR 8 32), some (aI a1), some (aI a2), some (aI r7), some (aI r9)]) 88 dX10_on_86 rfl rfl rfl ?_
            refine g_aload_n (M := mX10_on) (pc := 88) 89 dX10_on_88 rfl rfl rfl ?_
            refine g_cV_VH (M := mX10_on) (pc := 89) (M' := mX10_putsBack) (rest := []) 92 dX10_on_89 rfl kX10_194 okX10_putsBack (CX10_putsBack h8 L) oO32 rfl rfl rfl rfl (fun h10 => ?_)
            refine g_iload (M := mX10_on) (pc := 92) 94 dX10_on_92 rfl rfl ?_
            exact g_iret (M := mX10_on) (pc := 94) dX10_on_94 rfl rfl (fun z => z)
          · refine g_aload_n (M := mX10_on) (pc := 74) 75 dX10_on_74 rfl rfl rfl ?_
            refine g_cV_I (M := mX10_on) (pc := 75) (M' := mX10_knownSet) (rest := []) 78 dX10_on_75 rfl kX10_172 okX10_knownSet (CX10_knownSet h8 L) oO32 rfl rfl rfl rfl (fun r11 => ?_)
            refine g_goto (M := mX10_on) (pc := 78) 86 dX10_on_78 (by decide) ?_
            refine g_istore (M := mX10_on) (pc := 86) (ls' := [some (aR 8 32), some (aI a1), some (aI a2), some (aI r7), some (aI r11)]) 88 dX10_on_86 rfl rfl rfl ?_
            refine g_aload_n (M := mX10_on) (pc := 88) 89 dX10_on_88 rfl rfl rfl ?_
            refine g_cV_VH (M := mX10_on) (pc := 89) (M' := mX10_putsBack) (rest := []) 92 dX10_on_89 rfl kX10_194 okX10_putsBack (CX10_putsBack h8 L) oO32 rfl rfl rfl rfl (fun h12 => ?_)
            refine g_iload (M := mX10_on) (pc := 92) 94 dX10_on_92 rfl rfl ?_
            exact g_iret (M := mX10_on) (pc := 94) dX10_on_94 rfl rfl (fun z => z)
        · refine g_aload_n (M := mX10_on) (pc := 60) 61 dX10_on_60 rfl rfl rfl ?_
          refine g_getR (M := mX10_on) (pc := 61) 64 dX10_on_61 rfl fX10_7 oR32_0 ?_
          refine g_iconst (M := mX10_on) (pc := 64) (v := 4) 65 dX10_on_64 rfl ic4 ?_
          refine g_ialdC (M := mX10_on) (pc := 65) (j := 4) 66 dX10_on_65 rfl oA33 rfl rfl ?_
          refine g_goto (M := mX10_on) (pc := 66) 86 dX10_on_66 (by decide) ?_
          refine g_nmI (fun t13 => ?_)
          refine g_istore (M := mX10_on) (pc := 86) (ls' := [some (aR 8 32), some (aI a1), some (aI a2), some (aI r7), some (aI t13)]) 88 dX10_on_86 rfl rfl rfl ?_
          refine g_aload_n (M := mX10_on) (pc := 88) 89 dX10_on_88 rfl rfl rfl ?_
          refine g_cV_VH (M := mX10_on) (pc := 89) (M' := mX10_putsBack) (rest := []) 92 dX10_on_89 rfl kX10_194 okX10_putsBack (CX10_putsBack h8 L) oO32 rfl rfl rfl rfl (fun h14 => ?_)
          refine g_iload (M := mX10_on) (pc := 92) 94 dX10_on_92 rfl rfl ?_
          exact g_iret (M := mX10_on) (pc := 94) dX10_on_94 rfl rfl (fun z => z)
      · refine g_aload_n (M := mX10_on) (pc := 39) 40 dX10_on_39 rfl rfl rfl ?_
        refine g_ldc (M := mX10_on) (pc := 40) 42 dX10_on_40 rfl cX10_184 ?_
        refine g_cV_IH (M := mX10_on) (pc := 42) (M' := mX10_finds) (rest := []) 45 dX10_on_42 rfl kX10_67 okX10_finds (CX10_finds (-1000000005) h L) oO32 rfl rfl rfl rfl (fun r15 h16 => ?_)
        exact g_iret (M := mX10_on) (pc := 45) dX10_on_45 rfl rfl (fun z => z)
    · refine g_aload_n (M := mX10_on) (pc := 24) 25 dX10_on_24 rfl rfl rfl ?_
      refine g_ldc (M := mX10_on) (pc := 25) 27 dX10_on_25 rfl cX10_44 ?_
      refine g_cV_IH (M := mX10_on) (pc := 27) (M' := mX10_finds) (rest := []) 30 dX10_on_27 rfl kX10_67 okX10_finds (CX10_finds (-1000000001) h L) oO32 rfl rfl rfl rfl (fun r17 h18 => ?_)
      exact g_iret (M := mX10_on) (pc := 30) dX10_on_30 rfl rfl (fun z => z)
def SX10_forgot_39 (a1 : Int32) : (Int32 × HI) → Option ((Int32 × HI) ⊕ (Int32 × HI))
  | (a2, h) =>
    if 60 ≤ a2 then
      some (Sum.inr (a2, h))
    else
      Option.bind (FX10_isKnown a1 h) fun r3 =>
      if r3 = 0 then
        some (Sum.inr (a2, h))
      else
        Option.bind (FX10_day h) fun (r4, h5) =>
        some (Sum.inl ((a2 + 1), h5))
def JX10_forgot_77 (a2 : Int32) (s0 : Int32) (h : HI) : Option (Int32 × HI) :=
  Option.bind (FX10_putsBack h) fun h9 =>
  if s0 = 0 then
    Option.bind (FX10_finds (-1000000004) h9) fun (r10, h11) =>
    some (r10, h11)
  else
    some (a2, h9)
def JX10_forgot_64 (a1 : Int32) (a2 : Int32) (h : HI) : Option (Int32 × HI) :=
  Option.bind (FX10_isKnown a1 h) fun r8 =>
  if r8 = 0 then
    JX10_forgot_77 a2 1 h
  else
    JX10_forgot_77 a2 0 h
def FX10_forgot (a1 : Int32) (h : HI) : Option (Int32 × HI) :=
  Option.bind (FX10_isPhrase a1 h) fun r1 =>
  if r1 = 0 then
    Option.bind (FX10_finds (-1000000001) h) fun (r14, h15) =>
    some (r14, h15)
  else
    if (h 8 33 3) ≤ 39 then
      Option.bind (FX10_puts h) fun h2 =>
      Option.bind (loopN (SX10_forgot_39 a1) FU (0, h2)) fun (e6, h7) =>
        JX10_forgot_64 a1 e6 h7
    else
      Option.bind (FX10_finds (-1000000005) h) fun (r12, h13) =>
      some (r12, h13)
set_option maxRecDepth 100000 in
set_option maxHeartbeats 4000000 in
theorem SX10_forgot_39_ok (a1 : Int32) (L : HL) (T : ZT) (a2 : Int32) (h : HI) : VX mX10_forgot 5 T (gS (fun s : Int32 × HI => V mX10_forgot 5 T 39 [some (aR 8 32), some (aI a1), some (aI (s.1)), none] [] (s.2) L) (fun s : Int32 × HI => V mX10_forgot 5 T 64 [some (aR 8 32), some (aI a1), some (aI (s.1)), none] [] (s.2) L)) 39 [some (aR 8 32), some (aI a1), some (aI a2), none] [] h L (SX10_forgot_39 a1 (a2, h)) := by
  unfold SX10_forgot_39
  refine g_iload_n (M := mX10_forgot) (pc := 39) 40 dX10_forgot_39 rfl rfl rfl ?_
  refine g_bipush (M := mX10_forgot) (pc := 40) (v := 60) 42 dX10_forgot_40 rfl bp60 ?_
  refine g_icmp_ge (M := mX10_forgot) (pc := 42) 64 45 dX10_forgot_42 (by decide) rfl (fun _ => ?_) (fun _ => ?_)
  · exact g_jmp (fun z => v_fgt [true, true, true, false] z)
  · refine g_aload_n (M := mX10_forgot) (pc := 45) 46 dX10_forgot_45 rfl rfl rfl ?_
    refine g_iload_n (M := mX10_forgot) (pc := 46) 47 dX10_forgot_46 rfl rfl rfl ?_
    refine g_cV_I (M := mX10_forgot) (pc := 47) (M' := mX10_isKnown) (rest := []) 50 dX10_forgot_47 rfl kX10_85 okX10_isKnown (CX10_isKnown a1 h L) oO32 rfl rfl rfl rfl (fun r3 => ?_)
    refine g_if_eq (M := mX10_forgot) (pc := 50) 64 53 dX10_forgot_50 (by decide) rfl (fun _ => ?_) (fun _ => ?_)
    · exact g_jmp (fun z => v_fgt [true, true, true, false] z)
    · refine g_aload_n (M := mX10_forgot) (pc := 53) 54 dX10_forgot_53 rfl rfl rfl ?_
      refine g_cV_IH (M := mX10_forgot) (pc := 54) (M' := mX10_day) (rest := []) 57 dX10_forgot_54 rfl kX10_176 okX10_day (CX10_day h L) oO32 rfl rfl rfl rfl (fun r4 h5 => ?_)
      refine g_istore_n (M := mX10_forgot) (pc := 57) (ls' := [some (aR 8 32), some (aI a1), some (aI a2), some (aI r4)]) 58 dX10_forgot_57 rfl rfl rfl rfl ?_
      refine g_iinc (M := mX10_forgot) (pc := 58) (c := 1) (ls' := [some (aR 8 32), some (aI a1), some (aI (a2 + 1)), some (aI r4)]) 61 dX10_forgot_58 rfl ic1 rfl rfl rfl ?_
      refine g_goto (M := mX10_forgot) (pc := 61) 39 dX10_forgot_61 (by decide) ?_
      exact g_jmp (fun z => v_fgt [true, true, true, false] z)
set_option maxRecDepth 100000 in
set_option maxHeartbeats 4000000 in
theorem JX10_forgot_77_ok (a2 : Int32) (s0 : Int32) (T : ZT) (h : HI) (L : HL) : VX mX10_forgot 5 T (fun r => Zl (lfIH L) r = T) 77 [some (aR 8 32), none, some (aI a2), none] [aI s0] h L (JX10_forgot_77 a2 s0 h) := by
  unfold JX10_forgot_77
  refine g_istore_n (M := mX10_forgot) (pc := 77) (ls' := [some (aR 8 32), none, some (aI a2), some (aI s0)]) 78 dX10_forgot_77 rfl rfl rfl rfl ?_
  refine g_aload_n (M := mX10_forgot) (pc := 78) 79 dX10_forgot_78 rfl rfl rfl ?_
  refine g_cV_VH (M := mX10_forgot) (pc := 79) (M' := mX10_putsBack) (rest := []) 82 dX10_forgot_79 rfl kX10_194 okX10_putsBack (CX10_putsBack h L) oO32 rfl rfl rfl rfl (fun h9 => ?_)
  refine g_iload_n (M := mX10_forgot) (pc := 82) 83 dX10_forgot_82 rfl rfl rfl ?_
  refine g_if_eq (M := mX10_forgot) (pc := 83) 90 86 dX10_forgot_83 (by decide) rfl (fun _ => ?_) (fun _ => ?_)
  · refine g_aload_n (M := mX10_forgot) (pc := 90) 91 dX10_forgot_90 rfl rfl rfl ?_
    refine g_ldc (M := mX10_forgot) (pc := 91) 93 dX10_forgot_91 rfl cX10_132 ?_
    refine g_cV_IH (M := mX10_forgot) (pc := 93) (M' := mX10_finds) (rest := []) 96 dX10_forgot_93 rfl kX10_67 okX10_finds (CX10_finds (-1000000004) h9 L) oO32 rfl rfl rfl rfl (fun r10 h11 => ?_)
    exact g_iret (M := mX10_forgot) (pc := 96) dX10_forgot_96 rfl rfl (fun z => z)
  · refine g_iload_n (M := mX10_forgot) (pc := 86) 87 dX10_forgot_86 rfl rfl rfl ?_
    refine g_goto (M := mX10_forgot) (pc := 87) 96 dX10_forgot_87 (by decide) ?_
    exact g_iret (M := mX10_forgot) (pc := 96) dX10_forgot_96 rfl rfl (fun z => z)
set_option maxRecDepth 100000 in
set_option maxHeartbeats 4000000 in
theorem JX10_forgot_64_ok (a1 : Int32) (a2 : Int32) (T : ZT) (h : HI) (L : HL) : VX mX10_forgot 5 T (fun r => Zl (lfIH L) r = T) 64 [some (aR 8 32), some (aI a1), some (aI a2), none] [] h L (JX10_forgot_64 a1 a2 h) := by
  unfold JX10_forgot_64
  refine g_aload_n (M := mX10_forgot) (pc := 64) 65 dX10_forgot_64 rfl rfl rfl ?_
  refine g_iload_n (M := mX10_forgot) (pc := 65) 66 dX10_forgot_65 rfl rfl rfl ?_
  refine g_cV_I (M := mX10_forgot) (pc := 66) (M' := mX10_isKnown) (rest := []) 69 dX10_forgot_66 rfl kX10_85 okX10_isKnown (CX10_isKnown a1 h L) oO32 rfl rfl rfl rfl (fun r8 => ?_)
  refine g_if_ne (M := mX10_forgot) (pc := 69) 76 72 dX10_forgot_69 (by decide) rfl (fun _ => ?_) (fun _ => ?_)
  · refine g_iconst (M := mX10_forgot) (pc := 76) (v := 0) 77 dX10_forgot_76 rfl ic0 ?_
    exact g_fgt [true, false, true, false] (JX10_forgot_77_ok a2 0 T h L)
  · refine g_iconst (M := mX10_forgot) (pc := 72) (v := 1) 73 dX10_forgot_72 rfl ic1 ?_
    refine g_goto (M := mX10_forgot) (pc := 73) 77 dX10_forgot_73 (by decide) ?_
    exact g_fgt [true, false, true, false] (JX10_forgot_77_ok a2 1 T h L)
set_option maxRecDepth 100000 in
set_option maxHeartbeats 4000000 in
theorem CX10_forgot (a1 : Int32) (h : HI) (L : HL) : CG mX10_forgot 5 [aR 8 32, aI a1] h L (lfIH L) (FX10_forgot a1 h) := by
  unfold FX10_forgot
  refine cg_of [some (aR 8 32), some (aI a1), none, none] rfl (by decide) rfl rfl (fun T => ?_)
  refine g_aload_n (M := mX10_forgot) (pc := 0) 1 dX10_forgot_0 rfl rfl rfl ?_
  refine g_iload_n (M := mX10_forgot) (pc := 1) 2 dX10_forgot_1 rfl rfl rfl ?_
  refine g_cV_I (M := mX10_forgot) (pc := 2) (M' := mX10_isPhrase) (rest := []) 5 dX10_forgot_2 rfl kX10_79 okX10_isPhrase (CX10_isPhrase a1 h L) oO32 rfl rfl rfl rfl (fun r1 => ?_)
  refine g_if_ne (M := mX10_forgot) (pc := 5) 15 8 dX10_forgot_5 (by decide) rfl (fun _ => ?_) (fun _ => ?_)
  · refine g_aload_n (M := mX10_forgot) (pc := 15) 16 dX10_forgot_15 rfl rfl rfl ?_
    refine g_getR (M := mX10_forgot) (pc := 16) 19 dX10_forgot_16 rfl fX10_7 oR32_0 ?_
    refine g_iconst (M := mX10_forgot) (pc := 19) (v := 3) 20 dX10_forgot_19 rfl ic3 ?_
    refine g_ialdC (M := mX10_forgot) (pc := 20) (j := 3) 21 dX10_forgot_20 rfl oA33 rfl rfl ?_
    refine g_bipush (M := mX10_forgot) (pc := 21) (v := 39) 23 dX10_forgot_21 rfl bp39 ?_
    refine g_icmp_le (M := mX10_forgot) (pc := 23) 33 26 dX10_forgot_23 (by decide) rfl (fun _ => ?_) (fun _ => ?_)
    · refine g_aload_n (M := mX10_forgot) (pc := 33) 34 dX10_forgot_33 rfl rfl rfl ?_
      refine g_cV_VH (M := mX10_forgot) (pc := 34) (M' := mX10_puts) (rest := []) 37 dX10_forgot_34 rfl kX10_188 okX10_puts (CX10_puts h L) oO32 rfl rfl rfl rfl (fun h2 => ?_)
      refine g_iconst (M := mX10_forgot) (pc := 37) (v := 0) 38 dX10_forgot_37 rfl ic0 ?_
      refine g_istore_n (M := mX10_forgot) (pc := 38) (ls' := [some (aR 8 32), some (aI a1), some (aI 0), none]) 39 dX10_forgot_38 rfl rfl rfl rfl ?_
      refine g_loop (fun s => SX10_forgot_39_ok a1 L T s.1 s.2) ?_ (fun z => v_fgt [true, true, true, false] z)
      rintro ⟨e6, h7⟩
      show VX mX10_forgot 5 T _ 64 [some (aR 8 32), some (aI a1), some (aI e6), none] [] h7 L _
      exact g_fgt [true, true, true, false] (JX10_forgot_64_ok a1 e6 T h7 L)
    · refine g_aload_n (M := mX10_forgot) (pc := 26) 27 dX10_forgot_26 rfl rfl rfl ?_
      refine g_ldc (M := mX10_forgot) (pc := 27) 29 dX10_forgot_27 rfl cX10_184 ?_
      refine g_cV_IH (M := mX10_forgot) (pc := 29) (M' := mX10_finds) (rest := []) 32 dX10_forgot_29 rfl kX10_67 okX10_finds (CX10_finds (-1000000005) h L) oO32 rfl rfl rfl rfl (fun r12 h13 => ?_)
      exact g_iret (M := mX10_forgot) (pc := 32) dX10_forgot_32 rfl rfl (fun z => z)
  · refine g_aload_n (M := mX10_forgot) (pc := 8) 9 dX10_forgot_8 rfl rfl rfl ?_
    refine g_ldc (M := mX10_forgot) (pc := 9) 11 dX10_forgot_9 rfl cX10_44 ?_
    refine g_cV_IH (M := mX10_forgot) (pc := 11) (M' := mX10_finds) (rest := []) 14 dX10_forgot_11 rfl kX10_67 okX10_finds (CX10_finds (-1000000001) h L) oO32 rfl rfl rfl rfl (fun r14 h15 => ?_)
    exact g_iret (M := mX10_forgot) (pc := 14) dX10_forgot_14 rfl rfl (fun z => z)
def FX10_useless (a1 : Int32) (h : HI) : Option (Int32 × HI) :=
  Option.bind (FX10_in (Int32.toInt64 a1) 1 60) fun r1 =>
  if r1 = 0 then
    Option.bind (FX10_finds (-1000000001) h) fun (r9, h10) =>
    some (r9, h10)
  else
    Option.bind (FX10_isTooLate a1 h) fun r2 =>
    if r2 = 0 then
      Option.bind (FX10_puts h) fun h3 =>
      Option.bind (FX10_daysGo a1 h3) fun (r4, h5) =>
      Option.bind (FX10_putsBack h5) fun h6 =>
      some ((((1 <<< ((h6 8 33 0) &&& 31)) - 1) &&& (r4 ^^^ (-1))), h6)
    else
      Option.bind (FX10_finds (-1000000005) h) fun (r7, h8) =>
      some (r7, h8)
set_option maxRecDepth 100000 in
set_option maxHeartbeats 4000000 in
theorem CX10_useless (a1 : Int32) (h : HI) (L : HL) : CG mX10_useless 6 [aR 8 32, aI a1] h L (lfIH L) (FX10_useless a1 h) := by
  unfold FX10_useless
  refine cg_of [some (aR 8 32), some (aI a1), none] rfl (by decide) rfl rfl (fun T => ?_)
  refine g_iload_n (M := mX10_useless) (pc := 0) 1 dX10_useless_0 rfl rfl rfl ?_
  refine g_i2l (M := mX10_useless) (pc := 1) 2 dX10_useless_1 rfl ?_
  refine g_lconst (M := mX10_useless) (pc := 2) (v := 1) 3 dX10_useless_2 rfl rfl ?_
  refine g_ldc2 (M := mX10_useless) (pc := 3) 6 dX10_useless_3 rfl cX10_57 ?_
  refine g_cS_I (M := mX10_useless) (pc := 6) (M' := mX10_in) (rest := []) 9 dX10_useless_6 rfl kX10_45 okX10_in (CX10_in (Int32.toInt64 a1) 1 60 h L) rfl rfl rfl rfl (fun r1 => ?_)
  refine g_if_ne (M := mX10_useless) (pc := 9) 19 12 dX10_useless_9 (by decide) rfl (fun _ => ?_) (fun _ => ?_)
  · refine g_aload_n (M := mX10_useless) (pc := 19) 20 dX10_useless_19 rfl rfl rfl ?_
    refine g_iload_n (M := mX10_useless) (pc := 20) 21 dX10_useless_20 rfl rfl rfl ?_
    refine g_cV_I (M := mX10_useless) (pc := 21) (M' := mX10_isTooLate) (rest := []) 24 dX10_useless_21 rfl kX10_181 okX10_isTooLate (CX10_isTooLate a1 h L) oO32 rfl rfl rfl rfl (fun r2 => ?_)
    refine g_if_eq (M := mX10_useless) (pc := 24) 34 27 dX10_useless_24 (by decide) rfl (fun _ => ?_) (fun _ => ?_)
    · refine g_aload_n (M := mX10_useless) (pc := 34) 35 dX10_useless_34 rfl rfl rfl ?_
      refine g_cV_VH (M := mX10_useless) (pc := 35) (M' := mX10_puts) (rest := []) 38 dX10_useless_35 rfl kX10_188 okX10_puts (CX10_puts h L) oO32 rfl rfl rfl rfl (fun h3 => ?_)
      refine g_aload_n (M := mX10_useless) (pc := 38) 39 dX10_useless_38 rfl rfl rfl ?_
      refine g_iload_n (M := mX10_useless) (pc := 39) 40 dX10_useless_39 rfl rfl rfl ?_
      refine g_cV_IH (M := mX10_useless) (pc := 40) (M' := mX10_daysGo) (rest := []) 43 dX10_useless_40 rfl kX10_185 okX10_daysGo (CX10_daysGo a1 h3 L) oO32 rfl rfl rfl rfl (fun r4 h5 => ?_)
      refine g_istore_n (M := mX10_useless) (pc := 43) (ls' := [some (aR 8 32), some (aI a1), some (aI r4)]) 44 dX10_useless_43 rfl rfl rfl rfl ?_
      refine g_aload_n (M := mX10_useless) (pc := 44) 45 dX10_useless_44 rfl rfl rfl ?_
      refine g_cV_VH (M := mX10_useless) (pc := 45) (M' := mX10_putsBack) (rest := []) 48 dX10_useless_45 rfl kX10_194 okX10_putsBack (CX10_putsBack h5 L) oO32 rfl rfl rfl rfl (fun h6 => ?_)
      refine g_iconst (M := mX10_useless) (pc := 48) (v := 1) 49 dX10_useless_48 rfl ic1 ?_
      refine g_aload_n (M := mX10_useless) (pc := 49) 50 dX10_useless_49 rfl rfl rfl ?_
      refine g_getR (M := mX10_useless) (pc := 50) 53 dX10_useless_50 rfl fX10_7 oR32_0 ?_
      refine g_iconst (M := mX10_useless) (pc := 53) (v := 0) 54 dX10_useless_53 rfl ic0 ?_
      refine g_ialdC (M := mX10_useless) (pc := 54) (j := 0) 55 dX10_useless_54 rfl oA33 rfl rfl ?_
      refine g_ishl (M := mX10_useless) (pc := 55) 56 dX10_useless_55 rfl ?_
      refine g_iconst (M := mX10_useless) (pc := 56) (v := 1) 57 dX10_useless_56 rfl ic1 ?_
      refine g_isub (M := mX10_useless) (pc := 57) 58 dX10_useless_57 rfl ?_
      refine g_iload_n (M := mX10_useless) (pc := 58) 59 dX10_useless_58 rfl rfl rfl ?_
      refine g_iconst (M := mX10_useless) (pc := 59) (v := (-1)) 60 dX10_useless_59 rfl icm1 ?_
      refine g_ixor (M := mX10_useless) (pc := 60) 61 dX10_useless_60 rfl ?_
      refine g_iand (M := mX10_useless) (pc := 61) 62 dX10_useless_61 rfl ?_
      exact g_iret (M := mX10_useless) (pc := 62) dX10_useless_62 rfl rfl (fun z => z)
    · refine g_aload_n (M := mX10_useless) (pc := 27) 28 dX10_useless_27 rfl rfl rfl ?_
      refine g_ldc (M := mX10_useless) (pc := 28) 30 dX10_useless_28 rfl cX10_184 ?_
      refine g_cV_IH (M := mX10_useless) (pc := 30) (M' := mX10_finds) (rest := []) 33 dX10_useless_30 rfl kX10_67 okX10_finds (CX10_finds (-1000000005) h L) oO32 rfl rfl rfl rfl (fun r7 h8 => ?_)
      exact g_iret (M := mX10_useless) (pc := 33) dX10_useless_33 rfl rfl (fun z => z)
  · refine g_aload_n (M := mX10_useless) (pc := 12) 13 dX10_useless_12 rfl rfl rfl ?_
    refine g_ldc (M := mX10_useless) (pc := 13) 15 dX10_useless_13 rfl cX10_44 ?_
    refine g_cV_IH (M := mX10_useless) (pc := 15) (M' := mX10_finds) (rest := []) 18 dX10_useless_15 rfl kX10_67 okX10_finds (CX10_finds (-1000000001) h L) oO32 rfl rfl rfl rfl (fun r9 h10 => ?_)
    exact g_iret (M := mX10_useless) (pc := 18) dX10_useless_18 rfl rfl (fun z => z)
def FX10_scoreOn (a1 : Int32) (h : HI) : Option (Int32 × HI) :=
  Option.bind (FX10_daysGo a1 h) fun (r1, h2) =>
  nm (h2 8 33 4) fun t3 =>
  Option.bind (FX10_putsBack h2) fun h4 =>
  some (t3, h4)
set_option maxRecDepth 100000 in
set_option maxHeartbeats 4000000 in
theorem CX10_scoreOn (a1 : Int32) (h : HI) (L : HL) : CG mX10_scoreOn 6 [aR 8 32, aI a1] h L (lfIH L) (FX10_scoreOn a1 h) := by
  unfold FX10_scoreOn
  refine cg_of [some (aR 8 32), some (aI a1), none, none] rfl (by decide) rfl rfl (fun T => ?_)
  refine g_aload_n (M := mX10_scoreOn) (pc := 0) 1 dX10_scoreOn_0 rfl rfl rfl ?_
  refine g_iload_n (M := mX10_scoreOn) (pc := 1) 2 dX10_scoreOn_1 rfl rfl rfl ?_
  refine g_cV_IH (M := mX10_scoreOn) (pc := 2) (M' := mX10_daysGo) (rest := []) 5 dX10_scoreOn_2 rfl kX10_185 okX10_daysGo (CX10_daysGo a1 h L) oO32 rfl rfl rfl rfl (fun r1 h2 => ?_)
  refine g_istore_n (M := mX10_scoreOn) (pc := 5) (ls' := [some (aR 8 32), some (aI a1), some (aI r1), none]) 6 dX10_scoreOn_5 rfl rfl rfl rfl ?_
  refine g_aload_n (M := mX10_scoreOn) (pc := 6) 7 dX10_scoreOn_6 rfl rfl rfl ?_
  refine g_getR (M := mX10_scoreOn) (pc := 7) 10 dX10_scoreOn_7 rfl fX10_7 oR32_0 ?_
  refine g_iconst (M := mX10_scoreOn) (pc := 10) (v := 4) 11 dX10_scoreOn_10 rfl ic4 ?_
  refine g_ialdC (M := mX10_scoreOn) (pc := 11) (j := 4) 12 dX10_scoreOn_11 rfl oA33 rfl rfl ?_
  refine g_nmI (fun t3 => ?_)
  refine g_istore_n (M := mX10_scoreOn) (pc := 12) (ls' := [some (aR 8 32), some (aI a1), some (aI r1), some (aI t3)]) 13 dX10_scoreOn_12 rfl rfl rfl rfl ?_
  refine g_aload_n (M := mX10_scoreOn) (pc := 13) 14 dX10_scoreOn_13 rfl rfl rfl ?_
  refine g_cV_VH (M := mX10_scoreOn) (pc := 14) (M' := mX10_putsBack) (rest := []) 17 dX10_scoreOn_14 rfl kX10_194 okX10_putsBack (CX10_putsBack h2 L) oO32 rfl rfl rfl rfl (fun h4 => ?_)
  refine g_iload_n (M := mX10_scoreOn) (pc := 17) 18 dX10_scoreOn_17 rfl rfl rfl ?_
  exact g_iret (M := mX10_scoreOn) (pc := 18) dX10_scoreOn_18 rfl rfl (fun z => z)
def JX10_tonight_92 (a1 : Int32) (a3 : Int32) (a4 : Int32) (a5 : Int32) (s0 : Int32) (h : HI) : Option ((Int32 × Int32 × Int32 × HI) ⊕ (Int32 × HI)) :=
  if a5 ≤ a3 then
    some (Sum.inl (s0, a3, (a4 + 1), h))
  else
    some (Sum.inl (s0, a5, (a4 + 1), h))
def SX10_tonight_49 (a1 : Int32) : (Int32 × Int32 × Int32 × HI) → Option ((Int32 × Int32 × Int32 × HI) ⊕ (Int32 × HI))
  | (a2, a3, a4, h) =>
    if (h 8 33 0) ≤ a4 then
      some (Sum.inr (a2, h))
    else
      Option.bind (FX10_its a4 2 h) fun r6 =>
      Option.bind (FX10_learns a4 r6 h) fun h7 =>
      Option.bind (FX10_scoreOn a1 h7) fun (r8, h9) =>
      if r8 ≤ a3 then
        JX10_tonight_92 a1 a3 a4 r8 a2 h9
      else
        JX10_tonight_92 a1 a3 a4 r8 a4 h9
def FX10_tonight (a1 : Int32) (h : HI) : Option (Int32 × HI) :=
  Option.bind (FX10_in (Int32.toInt64 a1) 1 60) fun r1 =>
  if r1 = 0 then
    Option.bind (FX10_finds (-1000000001) h) fun (r16, h17) =>
    some (r16, h17)
  else
    Option.bind (FX10_isTooLate a1 h) fun r2 =>
    if r2 = 0 then
      Option.bind (FX10_puts h) fun h3 =>
      Option.bind (FX10_scoreOn a1 h3) fun (r4, h5) =>
      Option.bind (loopN (SX10_tonight_49 a1) FU ((-1), r4, 0, h5)) fun (e10, h11) =>
        if 0 ≤ e10 then
          some (e10, h11)
        else
          Option.bind (FX10_finds (-1000000004) h11) fun (r12, h13) =>
          some (r12, h13)
    else
      Option.bind (FX10_finds (-1000000005) h) fun (r14, h15) =>
      some (r14, h15)
set_option maxRecDepth 100000 in
set_option maxHeartbeats 4000000 in
theorem JX10_tonight_92_ok (a1 : Int32) (a3 : Int32) (a4 : Int32) (a5 : Int32) (s0 : Int32) (T : ZT) (h : HI) (L : HL) : VX mX10_tonight 7 T (gS (fun s : Int32 × Int32 × Int32 × HI => V mX10_tonight 7 T 49 [some (aR 8 32), some (aI a1), some (aI (s.1)), some (aI (s.2.1)), some (aI (s.2.2.1)), none] [] (s.2.2.2) L) (fun s : Int32 × HI => V mX10_tonight 7 T 112 [some (aR 8 32), none, some (aI (s.1)), none, none, none] [] (s.2) L)) 92 [some (aR 8 32), some (aI a1), none, some (aI a3), some (aI a4), some (aI a5)] [aI s0] h L (JX10_tonight_92 a1 a3 a4 a5 s0 h) := by
  unfold JX10_tonight_92
  refine g_istore_n (M := mX10_tonight) (pc := 92) (ls' := [some (aR 8 32), some (aI a1), some (aI s0), some (aI a3), some (aI a4), some (aI a5)]) 93 dX10_tonight_92 rfl rfl rfl rfl ?_
  refine g_iload (M := mX10_tonight) (pc := 93) 95 dX10_tonight_93 rfl rfl ?_
  refine g_iload_n (M := mX10_tonight) (pc := 95) 96 dX10_tonight_95 rfl rfl rfl ?_
  refine g_icmp_le (M := mX10_tonight) (pc := 96) 104 99 dX10_tonight_96 (by decide) rfl (fun _ => ?_) (fun _ => ?_)
  · refine g_iload_n (M := mX10_tonight) (pc := 104) 105 dX10_tonight_104 rfl rfl rfl ?_
    refine g_istore_n (M := mX10_tonight) (pc := 105) (ls' := [some (aR 8 32), some (aI a1), some (aI s0), some (aI a3), some (aI a4), some (aI a5)]) 106 dX10_tonight_105 rfl rfl rfl rfl ?_
    refine g_iinc (M := mX10_tonight) (pc := 106) (c := 1) (ls' := [some (aR 8 32), some (aI a1), some (aI s0), some (aI a3), some (aI (a4 + 1)), some (aI a5)]) 109 dX10_tonight_106 rfl ic1 rfl rfl rfl ?_
    refine g_goto (M := mX10_tonight) (pc := 109) 49 dX10_tonight_109 (by decide) ?_
    exact g_jmp (fun z => v_fgt [true, true, true, true, true, false] z)
  · refine g_iload (M := mX10_tonight) (pc := 99) 101 dX10_tonight_99 rfl rfl ?_
    refine g_goto (M := mX10_tonight) (pc := 101) 105 dX10_tonight_101 (by decide) ?_
    refine g_istore_n (M := mX10_tonight) (pc := 105) (ls' := [some (aR 8 32), some (aI a1), some (aI s0), some (aI a5), some (aI a4), some (aI a5)]) 106 dX10_tonight_105 rfl rfl rfl rfl ?_
    refine g_iinc (M := mX10_tonight) (pc := 106) (c := 1) (ls' := [some (aR 8 32), some (aI a1), some (aI s0), some (aI a5), some (aI (a4 + 1)), some (aI a5)]) 109 dX10_tonight_106 rfl ic1 rfl rfl rfl ?_
    refine g_goto (M := mX10_tonight) (pc := 109) 49 dX10_tonight_109 (by decide) ?_
    exact g_jmp (fun z => v_fgt [true, true, true, true, true, false] z)
set_option maxRecDepth 100000 in
set_option maxHeartbeats 4000000 in
theorem SX10_tonight_49_ok (a1 : Int32) (L : HL) (T : ZT) (a2 : Int32) (a3 : Int32) (a4 : Int32) (h : HI) : VX mX10_tonight 7 T (gS (fun s : Int32 × Int32 × Int32 × HI => V mX10_tonight 7 T 49 [some (aR 8 32), some (aI a1), some (aI (s.1)), some (aI (s.2.1)), some (aI (s.2.2.1)), none] [] (s.2.2.2) L) (fun s : Int32 × HI => V mX10_tonight 7 T 112 [some (aR 8 32), none, some (aI (s.1)), none, none, none] [] (s.2) L)) 49 [some (aR 8 32), some (aI a1), some (aI a2), some (aI a3), some (aI a4), none] [] h L (SX10_tonight_49 a1 (a2, a3, a4, h)) := by
  unfold SX10_tonight_49
  refine g_iload (M := mX10_tonight) (pc := 49) 51 dX10_tonight_49 rfl rfl ?_
  refine g_aload_n (M := mX10_tonight) (pc := 51) 52 dX10_tonight_51 rfl rfl rfl ?_
  refine g_getR (M := mX10_tonight) (pc := 52) 55 dX10_tonight_52 rfl fX10_7 oR32_0 ?_
  refine g_iconst (M := mX10_tonight) (pc := 55) (v := 0) 56 dX10_tonight_55 rfl ic0 ?_
  refine g_ialdC (M := mX10_tonight) (pc := 56) (j := 0) 57 dX10_tonight_56 rfl oA33 rfl rfl ?_
  refine g_icmp_ge (M := mX10_tonight) (pc := 57) 112 60 dX10_tonight_57 (by decide) rfl (fun _ => ?_) (fun _ => ?_)
  · exact g_jmp (fun z => v_fgt [true, false, true, false, false, false] z)
  · refine g_aload_n (M := mX10_tonight) (pc := 60) 61 dX10_tonight_60 rfl rfl rfl ?_
    refine g_iload (M := mX10_tonight) (pc := 61) 63 dX10_tonight_61 rfl rfl ?_
    refine g_aload_n (M := mX10_tonight) (pc := 63) 64 dX10_tonight_63 rfl rfl rfl ?_
    refine g_iload (M := mX10_tonight) (pc := 64) 66 dX10_tonight_64 rfl rfl ?_
    refine g_iconst (M := mX10_tonight) (pc := 66) (v := 2) 67 dX10_tonight_66 rfl ic2 ?_
    refine g_cV_I (M := mX10_tonight) (pc := 67) (M' := mX10_its) (rest := [aI a4, aR 8 32]) 70 dX10_tonight_67 rfl kX10_76 okX10_its (CX10_its a4 2 h L) oO32 rfl rfl rfl rfl (fun r6 => ?_)
    refine g_cV_VH (M := mX10_tonight) (pc := 70) (M' := mX10_learns) (rest := []) 73 dX10_tonight_70 rfl kX10_165 okX10_learns (CX10_learns a4 r6 h L) oO32 rfl rfl rfl rfl (fun h7 => ?_)
    refine g_aload_n (M := mX10_tonight) (pc := 73) 74 dX10_tonight_73 rfl rfl rfl ?_
    refine g_iload_n (M := mX10_tonight) (pc := 74) 75 dX10_tonight_74 rfl rfl rfl ?_
    refine g_cV_IH (M := mX10_tonight) (pc := 75) (M' := mX10_scoreOn) (rest := []) 78 dX10_tonight_75 rfl kX10_197 okX10_scoreOn (CX10_scoreOn a1 h7 L) oO32 rfl rfl rfl rfl (fun r8 h9 => ?_)
    refine g_istore (M := mX10_tonight) (pc := 78) (ls' := [some (aR 8 32), some (aI a1), some (aI a2), some (aI a3), some (aI a4), some (aI r8)]) 80 dX10_tonight_78 rfl rfl rfl ?_
    refine g_iload (M := mX10_tonight) (pc := 80) 82 dX10_tonight_80 rfl rfl ?_
    refine g_iload_n (M := mX10_tonight) (pc := 82) 83 dX10_tonight_82 rfl rfl rfl ?_
    refine g_icmp_le (M := mX10_tonight) (pc := 83) 91 86 dX10_tonight_83 (by decide) rfl (fun _ => ?_) (fun _ => ?_)
    · refine g_iload_n (M := mX10_tonight) (pc := 91) 92 dX10_tonight_91 rfl rfl rfl ?_
      exact g_fgt [true, true, false, true, true, true] (JX10_tonight_92_ok a1 a3 a4 r8 a2 T h9 L)
    · refine g_iload (M := mX10_tonight) (pc := 86) 88 dX10_tonight_86 rfl rfl ?_
      refine g_goto (M := mX10_tonight) (pc := 88) 92 dX10_tonight_88 (by decide) ?_
      exact g_fgt [true, true, false, true, true, true] (JX10_tonight_92_ok a1 a3 a4 r8 a4 T h9 L)
set_option maxRecDepth 100000 in
set_option maxHeartbeats 4000000 in
theorem CX10_tonight (a1 : Int32) (h : HI) (L : HL) : CG mX10_tonight 7 [aR 8 32, aI a1] h L (lfIH L) (FX10_tonight a1 h) := by
  unfold FX10_tonight
  refine cg_of [some (aR 8 32), some (aI a1), none, none, none, none] rfl (by decide) rfl rfl (fun T => ?_)
  refine g_iload_n (M := mX10_tonight) (pc := 0) 1 dX10_tonight_0 rfl rfl rfl ?_
  refine g_i2l (M := mX10_tonight) (pc := 1) 2 dX10_tonight_1 rfl ?_
  refine g_lconst (M := mX10_tonight) (pc := 2) (v := 1) 3 dX10_tonight_2 rfl rfl ?_
  refine g_ldc2 (M := mX10_tonight) (pc := 3) 6 dX10_tonight_3 rfl cX10_57 ?_
  refine g_cS_I (M := mX10_tonight) (pc := 6) (M' := mX10_in) (rest := []) 9 dX10_tonight_6 rfl kX10_45 okX10_in (CX10_in (Int32.toInt64 a1) 1 60 h L) rfl rfl rfl rfl (fun r1 => ?_)
  refine g_if_ne (M := mX10_tonight) (pc := 9) 19 12 dX10_tonight_9 (by decide) rfl (fun _ => ?_) (fun _ => ?_)
  · refine g_aload_n (M := mX10_tonight) (pc := 19) 20 dX10_tonight_19 rfl rfl rfl ?_
    refine g_iload_n (M := mX10_tonight) (pc := 20) 21 dX10_tonight_20 rfl rfl rfl ?_
    refine g_cV_I (M := mX10_tonight) (pc := 21) (M' := mX10_isTooLate) (rest := []) 24 dX10_tonight_21 rfl kX10_181 okX10_isTooLate (CX10_isTooLate a1 h L) oO32 rfl rfl rfl rfl (fun r2 => ?_)
    refine g_if_eq (M := mX10_tonight) (pc := 24) 34 27 dX10_tonight_24 (by decide) rfl (fun _ => ?_) (fun _ => ?_)
    · refine g_aload_n (M := mX10_tonight) (pc := 34) 35 dX10_tonight_34 rfl rfl rfl ?_
      refine g_cV_VH (M := mX10_tonight) (pc := 35) (M' := mX10_puts) (rest := []) 38 dX10_tonight_35 rfl kX10_188 okX10_puts (CX10_puts h L) oO32 rfl rfl rfl rfl (fun h3 => ?_)
      refine g_iconst (M := mX10_tonight) (pc := 38) (v := (-1)) 39 dX10_tonight_38 rfl icm1 ?_
      refine g_istore_n (M := mX10_tonight) (pc := 39) (ls' := [some (aR 8 32), some (aI a1), some (aI (-1)), none, none, none]) 40 dX10_tonight_39 rfl rfl rfl rfl ?_
      refine g_aload_n (M := mX10_tonight) (pc := 40) 41 dX10_tonight_40 rfl rfl rfl ?_
      refine g_iload_n (M := mX10_tonight) (pc := 41) 42 dX10_tonight_41 rfl rfl rfl ?_
      refine g_cV_IH (M := mX10_tonight) (pc := 42) (M' := mX10_scoreOn) (rest := []) 45 dX10_tonight_42 rfl kX10_197 okX10_scoreOn (CX10_scoreOn a1 h3 L) oO32 rfl rfl rfl rfl (fun r4 h5 => ?_)
      refine g_istore_n (M := mX10_tonight) (pc := 45) (ls' := [some (aR 8 32), some (aI a1), some (aI (-1)), some (aI r4), none, none]) 46 dX10_tonight_45 rfl rfl rfl rfl ?_
      refine g_iconst (M := mX10_tonight) (pc := 46) (v := 0) 47 dX10_tonight_46 rfl ic0 ?_
      refine g_istore (M := mX10_tonight) (pc := 47) (ls' := [some (aR 8 32), some (aI a1), some (aI (-1)), some (aI r4), some (aI 0), none]) 49 dX10_tonight_47 rfl rfl rfl ?_
      refine g_loop (fun s => SX10_tonight_49_ok a1 L T s.1 s.2.1 s.2.2.1 s.2.2.2) ?_ (fun z => v_fgt [true, true, true, true, true, false] z)
      rintro ⟨e10, h11⟩
      show VX mX10_tonight 7 T _ 112 [some (aR 8 32), none, some (aI e10), none, none, none] [] h11 L _
      refine g_iload_n (M := mX10_tonight) (pc := 112) 113 dX10_tonight_112 rfl rfl rfl ?_
      refine g_if_ge (M := mX10_tonight) (pc := 113) 125 116 dX10_tonight_113 (by decide) rfl (fun _ => ?_) (fun _ => ?_)
      · refine g_iload_n (M := mX10_tonight) (pc := 125) 126 dX10_tonight_125 rfl rfl rfl ?_
        exact g_iret (M := mX10_tonight) (pc := 126) dX10_tonight_126 rfl rfl (fun z => z)
      · refine g_aload_n (M := mX10_tonight) (pc := 116) 117 dX10_tonight_116 rfl rfl rfl ?_
        refine g_ldc (M := mX10_tonight) (pc := 117) 119 dX10_tonight_117 rfl cX10_132 ?_
        refine g_cV_IH (M := mX10_tonight) (pc := 119) (M' := mX10_finds) (rest := []) 122 dX10_tonight_119 rfl kX10_67 okX10_finds (CX10_finds (-1000000004) h11 L) oO32 rfl rfl rfl rfl (fun r12 h13 => ?_)
        refine g_goto (M := mX10_tonight) (pc := 122) 126 dX10_tonight_122 (by decide) ?_
        exact g_iret (M := mX10_tonight) (pc := 126) dX10_tonight_126 rfl rfl (fun z => z)
    · refine g_aload_n (M := mX10_tonight) (pc := 27) 28 dX10_tonight_27 rfl rfl rfl ?_
      refine g_ldc (M := mX10_tonight) (pc := 28) 30 dX10_tonight_28 rfl cX10_184 ?_
      refine g_cV_IH (M := mX10_tonight) (pc := 30) (M' := mX10_finds) (rest := []) 33 dX10_tonight_30 rfl kX10_67 okX10_finds (CX10_finds (-1000000005) h L) oO32 rfl rfl rfl rfl (fun r14 h15 => ?_)
      exact g_iret (M := mX10_tonight) (pc := 33) dX10_tonight_33 rfl rfl (fun z => z)
  · refine g_aload_n (M := mX10_tonight) (pc := 12) 13 dX10_tonight_12 rfl rfl rfl ?_
    refine g_ldc (M := mX10_tonight) (pc := 13) 15 dX10_tonight_13 rfl cX10_44 ?_
    refine g_cV_IH (M := mX10_tonight) (pc := 15) (M' := mX10_finds) (rest := []) 18 dX10_tonight_15 rfl kX10_67 okX10_finds (CX10_finds (-1000000001) h L) oO32 rfl rfl rfl rfl (fun r16 h17 => ?_)
    exact g_iret (M := mX10_tonight) (pc := 18) dX10_tonight_18 rfl rfl (fun z => z)
def FX10_swaps (a1 : Int32) (a2 : Int32) (h : HI) : Option (HI) :=
  gd (ixb a1 5) <|
  nm (h 8 37 (nC a1)) fun t1 =>
  gd (ixb a2 5) <|
  gd (ixb a1 5) <|
  nm (hP1 h 8 37 (nC a1) (h 8 37 (nC a2))) fun h2 =>
  gd (ixb a2 5) <|
  nm (hP1 h2 8 37 (nC a2) t1) fun h3 =>
  some h3
set_option maxRecDepth 100000 in
set_option maxHeartbeats 4000000 in
theorem CX10_swaps (a1 : Int32) (a2 : Int32) (h : HI) (L : HL) : CG mX10_swaps 0 [aR 8 32, aI a1, aI a2] h L (lfVH L) (FX10_swaps a1 a2 h) := by
  unfold FX10_swaps
  refine cg_of [some (aR 8 32), some (aI a1), some (aI a2), none] rfl (by decide) rfl rfl (fun T => ?_)
  refine g_aload_n (M := mX10_swaps) (pc := 0) 1 dX10_swaps_0 rfl rfl rfl ?_
  refine g_getR (M := mX10_swaps) (pc := 1) 4 dX10_swaps_1 rfl fX10_22 oR32_8 ?_
  refine g_iload_n (M := mX10_swaps) (pc := 4) 5 dX10_swaps_4 rfl rfl rfl ?_
  refine g_iald (M := mX10_swaps) (pc := 5) 6 dX10_swaps_5 rfl oA37 ?_
  refine g_nmI (fun t1 => ?_)
  refine g_istore_n (M := mX10_swaps) (pc := 6) (ls' := [some (aR 8 32), some (aI a1), some (aI a2), some (aI t1)]) 7 dX10_swaps_6 rfl rfl rfl rfl ?_
  refine g_aload_n (M := mX10_swaps) (pc := 7) 8 dX10_swaps_7 rfl rfl rfl ?_
  refine g_getR (M := mX10_swaps) (pc := 8) 11 dX10_swaps_8 rfl fX10_22 oR32_8 ?_
  refine g_iload_n (M := mX10_swaps) (pc := 11) 12 dX10_swaps_11 rfl rfl rfl ?_
  refine g_aload_n (M := mX10_swaps) (pc := 12) 13 dX10_swaps_12 rfl rfl rfl ?_
  refine g_getR (M := mX10_swaps) (pc := 13) 16 dX10_swaps_13 rfl fX10_22 oR32_8 ?_
  refine g_iload_n (M := mX10_swaps) (pc := 16) 17 dX10_swaps_16 rfl rfl rfl ?_
  refine g_iald (M := mX10_swaps) (pc := 17) 18 dX10_swaps_17 rfl oA37 ?_
  refine g_iast (M := mX10_swaps) (pc := 18) 19 dX10_swaps_18 rfl oA37 (fun h2 => ?_)
  refine g_aload_n (M := mX10_swaps) (pc := 19) 20 dX10_swaps_19 rfl rfl rfl ?_
  refine g_getR (M := mX10_swaps) (pc := 20) 23 dX10_swaps_20 rfl fX10_22 oR32_8 ?_
  refine g_iload_n (M := mX10_swaps) (pc := 23) 24 dX10_swaps_23 rfl rfl rfl ?_
  refine g_iload_n (M := mX10_swaps) (pc := 24) 25 dX10_swaps_24 rfl rfl rfl ?_
  refine g_iast (M := mX10_swaps) (pc := 25) 26 dX10_swaps_25 rfl oA37 (fun h3 => ?_)
  exact g_vret (M := mX10_swaps) (pc := 26) dX10_swaps_26 rfl (fun z => z)
def SX10_goesOn_4 (a1 : Int32) (h : HI) : Int32 → Option ((Int32) ⊕ (Int32))
  | a2 =>
    if a2 < 0 then
      some (Sum.inr a2)
    else
      gd (ixb a2 5) <|
      gd (ixb (a2 + 1) 5) <|
      if (h 8 37 (nC a2)) ≤ (h 8 37 (nC (a2 + 1))) then
        some (Sum.inr a2)
      else
        some (Sum.inl (a2 + (-1)))
def SX10_goesOn_41 (a1 : Int32) (a2 : Int32) (h : HI) : Int32 → Option ((Int32) ⊕ (Int32))
  | a3 =>
    gd (ixb a3 5) <|
    gd (ixb a2 5) <|
    if (h 8 37 (nC a2)) ≤ (h 8 37 (nC a3)) then
      some (Sum.inr a3)
    else
      some (Sum.inl (a3 + (-1)))
def SX10_goesOn_78 : (Int32 × Int32 × HI) → Option ((Int32 × Int32 × HI) ⊕ (HI))
  | (a4, a5, h) =>
    if a5 ≤ a4 then
      some (Sum.inr h)
    else
      Option.bind (FX10_swaps a4 a5 h) fun h8 =>
      some (Sum.inl ((a4 + 1), (a5 + (-1)), h8))
def JX10_goesOn_31 (a1 : Int32) (a2 : Int32) (h : HI) : Option (Int32 × HI) :=
  if 0 ≤ a2 then
    nm (a1 - 1) fun t3 =>
    Option.bind (loopN (SX10_goesOn_41 a1 a2 h) FU t3) fun e4 =>
      Option.bind (FX10_swaps a2 e4 h) fun h5 =>
      nm (a2 + 1) fun t6 =>
      nm (a1 - 1) fun t7 =>
      Option.bind (loopN (SX10_goesOn_78) FU (t6, t7, h5)) fun h9 =>
        some (1, h9)
  else
    some (0, h)
def FX10_goesOn (a1 : Int32) (h : HI) : Option (Int32 × HI) :=
  nm (a1 - 2) fun t1 =>
  Option.bind (loopN (SX10_goesOn_4 a1 h) FU t1) fun e2 =>
    JX10_goesOn_31 a1 e2 h
set_option maxRecDepth 100000 in
set_option maxHeartbeats 4000000 in
theorem SX10_goesOn_4_ok (a1 : Int32) (h : HI) (L : HL) (T : ZT) (a2 : Int32) : VX mX10_goesOn 1 T (gS (fun s : Int32 => V mX10_goesOn 1 T 4 [some (aR 8 32), some (aI a1), some (aI s), none, none, none] [] h L) (fun s : Int32 => V mX10_goesOn 1 T 31 [some (aR 8 32), some (aI a1), some (aI s), none, none, none] [] h L)) 4 [some (aR 8 32), some (aI a1), some (aI a2), none, none, none] [] h L (SX10_goesOn_4 a1 h a2) := by
  unfold SX10_goesOn_4
  refine g_iload_n (M := mX10_goesOn) (pc := 4) 5 dX10_goesOn_4 rfl rfl rfl ?_
  refine g_if_lt (M := mX10_goesOn) (pc := 5) 31 8 dX10_goesOn_5 (by decide) rfl (fun _ => ?_) (fun _ => ?_)
  · exact g_jmp (fun z => v_fgt [true, true, true, false, false, false] z)
  · refine g_aload_n (M := mX10_goesOn) (pc := 8) 9 dX10_goesOn_8 rfl rfl rfl ?_
    refine g_getR (M := mX10_goesOn) (pc := 9) 12 dX10_goesOn_9 rfl fX10_22 oR32_8 ?_
    refine g_iload_n (M := mX10_goesOn) (pc := 12) 13 dX10_goesOn_12 rfl rfl rfl ?_
    refine g_iald (M := mX10_goesOn) (pc := 13) 14 dX10_goesOn_13 rfl oA37 ?_
    refine g_aload_n (M := mX10_goesOn) (pc := 14) 15 dX10_goesOn_14 rfl rfl rfl ?_
    refine g_getR (M := mX10_goesOn) (pc := 15) 18 dX10_goesOn_15 rfl fX10_22 oR32_8 ?_
    refine g_iload_n (M := mX10_goesOn) (pc := 18) 19 dX10_goesOn_18 rfl rfl rfl ?_
    refine g_iconst (M := mX10_goesOn) (pc := 19) (v := 1) 20 dX10_goesOn_19 rfl ic1 ?_
    refine g_iadd (M := mX10_goesOn) (pc := 20) 21 dX10_goesOn_20 rfl ?_
    refine g_iald (M := mX10_goesOn) (pc := 21) 22 dX10_goesOn_21 rfl oA37 ?_
    refine g_icmp_le (M := mX10_goesOn) (pc := 22) 31 25 dX10_goesOn_22 (by decide) rfl (fun _ => ?_) (fun _ => ?_)
    · exact g_jmp (fun z => v_fgt [true, true, true, false, false, false] z)
    · refine g_iinc (M := mX10_goesOn) (pc := 25) (c := (-1)) (ls' := [some (aR 8 32), some (aI a1), some (aI (a2 + (-1))), none, none, none]) 28 dX10_goesOn_25 rfl icm1 rfl rfl rfl ?_
      refine g_goto (M := mX10_goesOn) (pc := 28) 4 dX10_goesOn_28 (by decide) ?_
      exact g_jmp (fun z => v_fgt [true, true, true, false, false, false] z)
set_option maxRecDepth 100000 in
set_option maxHeartbeats 4000000 in
theorem SX10_goesOn_41_ok (a1 : Int32) (a2 : Int32) (h : HI) (L : HL) (T : ZT) (a3 : Int32) : VX mX10_goesOn 1 T (gS (fun s : Int32 => V mX10_goesOn 1 T 41 [some (aR 8 32), some (aI a1), some (aI a2), some (aI s), none, none] [] h L) (fun s : Int32 => V mX10_goesOn 1 T 62 [some (aR 8 32), some (aI a1), some (aI a2), some (aI s), none, none] [] h L)) 41 [some (aR 8 32), some (aI a1), some (aI a2), some (aI a3), none, none] [] h L (SX10_goesOn_41 a1 a2 h a3) := by
  unfold SX10_goesOn_41
  refine g_aload_n (M := mX10_goesOn) (pc := 41) 42 dX10_goesOn_41 rfl rfl rfl ?_
  refine g_getR (M := mX10_goesOn) (pc := 42) 45 dX10_goesOn_42 rfl fX10_22 oR32_8 ?_
  refine g_iload_n (M := mX10_goesOn) (pc := 45) 46 dX10_goesOn_45 rfl rfl rfl ?_
  refine g_iald (M := mX10_goesOn) (pc := 46) 47 dX10_goesOn_46 rfl oA37 ?_
  refine g_aload_n (M := mX10_goesOn) (pc := 47) 48 dX10_goesOn_47 rfl rfl rfl ?_
  refine g_getR (M := mX10_goesOn) (pc := 48) 51 dX10_goesOn_48 rfl fX10_22 oR32_8 ?_
  refine g_iload_n (M := mX10_goesOn) (pc := 51) 52 dX10_goesOn_51 rfl rfl rfl ?_
  refine g_iald (M := mX10_goesOn) (pc := 52) 53 dX10_goesOn_52 rfl oA37 ?_
  refine g_icmp_ge (M := mX10_goesOn) (pc := 53) 62 56 dX10_goesOn_53 (by decide) rfl (fun _ => ?_) (fun _ => ?_)
  · exact g_jmp (fun z => v_fgt [true, true, true, true, false, false] z)
  · refine g_iinc (M := mX10_goesOn) (pc := 56) (c := (-1)) (ls' := [some (aR 8 32), some (aI a1), some (aI a2), some (aI (a3 + (-1))), none, none]) 59 dX10_goesOn_56 rfl icm1 rfl rfl rfl ?_
    refine g_goto (M := mX10_goesOn) (pc := 59) 41 dX10_goesOn_59 (by decide) ?_
    exact g_jmp (fun z => v_fgt [true, true, true, true, false, false] z)
set_option maxRecDepth 100000 in
set_option maxHeartbeats 4000000 in
theorem SX10_goesOn_78_ok (L : HL) (T : ZT) (a4 : Int32) (a5 : Int32) (h : HI) : VX mX10_goesOn 1 T (gS (fun s : Int32 × Int32 × HI => V mX10_goesOn 1 T 78 [some (aR 8 32), none, none, none, some (aI (s.1)), some (aI (s.2.1))] [] (s.2.2) L) (fun s : HI => V mX10_goesOn 1 T 102 [none, none, none, none, none, none] [] s L)) 78 [some (aR 8 32), none, none, none, some (aI a4), some (aI a5)] [] h L (SX10_goesOn_78 (a4, a5, h)) := by
  unfold SX10_goesOn_78
  refine g_iload (M := mX10_goesOn) (pc := 78) 80 dX10_goesOn_78 rfl rfl ?_
  refine g_iload (M := mX10_goesOn) (pc := 80) 82 dX10_goesOn_80 rfl rfl ?_
  refine g_icmp_ge (M := mX10_goesOn) (pc := 82) 102 85 dX10_goesOn_82 (by decide) rfl (fun _ => ?_) (fun _ => ?_)
  · exact g_jmp (fun z => v_fgt [false, false, false, false, false, false] z)
  · refine g_aload_n (M := mX10_goesOn) (pc := 85) 86 dX10_goesOn_85 rfl rfl rfl ?_
    refine g_iload (M := mX10_goesOn) (pc := 86) 88 dX10_goesOn_86 rfl rfl ?_
    refine g_iload (M := mX10_goesOn) (pc := 88) 90 dX10_goesOn_88 rfl rfl ?_
    refine g_cV_VH (M := mX10_goesOn) (pc := 90) (M' := mX10_swaps) (rest := []) 93 dX10_goesOn_90 rfl kX10_200 okX10_swaps (CX10_swaps a4 a5 h L) oO32 rfl rfl rfl rfl (fun h8 => ?_)
    refine g_iinc (M := mX10_goesOn) (pc := 93) (c := 1) (ls' := [some (aR 8 32), none, none, none, some (aI (a4 + 1)), some (aI a5)]) 96 dX10_goesOn_93 rfl ic1 rfl rfl rfl ?_
    refine g_iinc (M := mX10_goesOn) (pc := 96) (c := (-1)) (ls' := [some (aR 8 32), none, none, none, some (aI (a4 + 1)), some (aI (a5 + (-1)))]) 99 dX10_goesOn_96 rfl icm1 rfl rfl rfl ?_
    refine g_goto (M := mX10_goesOn) (pc := 99) 78 dX10_goesOn_99 (by decide) ?_
    exact g_jmp (fun z => v_fgt [true, false, false, false, true, true] z)
set_option maxRecDepth 100000 in
set_option maxHeartbeats 4000000 in
theorem JX10_goesOn_31_ok (a1 : Int32) (a2 : Int32) (T : ZT) (h : HI) (L : HL) : VX mX10_goesOn 1 T (fun r => Zl (lfIH L) r = T) 31 [some (aR 8 32), some (aI a1), some (aI a2), none, none, none] [] h L (JX10_goesOn_31 a1 a2 h) := by
  unfold JX10_goesOn_31
  refine g_iload_n (M := mX10_goesOn) (pc := 31) 32 dX10_goesOn_31 rfl rfl rfl ?_
  refine g_if_ge (M := mX10_goesOn) (pc := 32) 37 35 dX10_goesOn_32 (by decide) rfl (fun _ => ?_) (fun _ => ?_)
  · refine g_iload_n (M := mX10_goesOn) (pc := 37) 38 dX10_goesOn_37 rfl rfl rfl ?_
    refine g_iconst (M := mX10_goesOn) (pc := 38) (v := 1) 39 dX10_goesOn_38 rfl ic1 ?_
    refine g_isub (M := mX10_goesOn) (pc := 39) 40 dX10_goesOn_39 rfl ?_
    refine g_nmI (fun t3 => ?_)
    refine g_istore_n (M := mX10_goesOn) (pc := 40) (ls' := [some (aR 8 32), some (aI a1), some (aI a2), some (aI t3), none, none]) 41 dX10_goesOn_40 rfl rfl rfl rfl ?_
    refine g_loop (fun s => SX10_goesOn_41_ok a1 a2 h L T s) ?_ (fun z => v_fgt [true, true, true, true, false, false] z)
    intro e4
    show VX mX10_goesOn 1 T _ 62 [some (aR 8 32), some (aI a1), some (aI a2), some (aI e4), none, none] [] h L _
    refine g_aload_n (M := mX10_goesOn) (pc := 62) 63 dX10_goesOn_62 rfl rfl rfl ?_
    refine g_iload_n (M := mX10_goesOn) (pc := 63) 64 dX10_goesOn_63 rfl rfl rfl ?_
    refine g_iload_n (M := mX10_goesOn) (pc := 64) 65 dX10_goesOn_64 rfl rfl rfl ?_
    refine g_cV_VH (M := mX10_goesOn) (pc := 65) (M' := mX10_swaps) (rest := []) 68 dX10_goesOn_65 rfl kX10_200 okX10_swaps (CX10_swaps a2 e4 h L) oO32 rfl rfl rfl rfl (fun h5 => ?_)
    refine g_iload_n (M := mX10_goesOn) (pc := 68) 69 dX10_goesOn_68 rfl rfl rfl ?_
    refine g_iconst (M := mX10_goesOn) (pc := 69) (v := 1) 70 dX10_goesOn_69 rfl ic1 ?_
    refine g_iadd (M := mX10_goesOn) (pc := 70) 71 dX10_goesOn_70 rfl ?_
    refine g_nmI (fun t6 => ?_)
    refine g_istore (M := mX10_goesOn) (pc := 71) (ls' := [some (aR 8 32), some (aI a1), some (aI a2), some (aI e4), some (aI t6), none]) 73 dX10_goesOn_71 rfl rfl rfl ?_
    refine g_iload_n (M := mX10_goesOn) (pc := 73) 74 dX10_goesOn_73 rfl rfl rfl ?_
    refine g_iconst (M := mX10_goesOn) (pc := 74) (v := 1) 75 dX10_goesOn_74 rfl ic1 ?_
    refine g_isub (M := mX10_goesOn) (pc := 75) 76 dX10_goesOn_75 rfl ?_
    refine g_nmI (fun t7 => ?_)
    refine g_istore (M := mX10_goesOn) (pc := 76) (ls' := [some (aR 8 32), some (aI a1), some (aI a2), some (aI e4), some (aI t6), some (aI t7)]) 78 dX10_goesOn_76 rfl rfl rfl ?_
    refine g_loop (fun s => SX10_goesOn_78_ok L T s.1 s.2.1 s.2.2) ?_ (fun z => v_fgt [true, false, false, false, true, true] z)
    intro h9
    show VX mX10_goesOn 1 T _ 102 [none, none, none, none, none, none] [] h9 L _
    refine g_iconst (M := mX10_goesOn) (pc := 102) (v := 1) 103 dX10_goesOn_102 rfl ic1 ?_
    exact g_iret (M := mX10_goesOn) (pc := 103) dX10_goesOn_103 rfl nz1 (fun z => z)
  · refine g_iconst (M := mX10_goesOn) (pc := 35) (v := 0) 36 dX10_goesOn_35 rfl ic0 ?_
    exact g_iret (M := mX10_goesOn) (pc := 36) dX10_goesOn_36 rfl nz0 (fun z => z)
set_option maxRecDepth 100000 in
set_option maxHeartbeats 4000000 in
theorem CX10_goesOn (a1 : Int32) (h : HI) (L : HL) : CG mX10_goesOn 1 [aR 8 32, aI a1] h L (lfIH L) (FX10_goesOn a1 h) := by
  unfold FX10_goesOn
  refine cg_of [some (aR 8 32), some (aI a1), none, none, none, none] rfl (by decide) rfl rfl (fun T => ?_)
  refine g_iload_n (M := mX10_goesOn) (pc := 0) 1 dX10_goesOn_0 rfl rfl rfl ?_
  refine g_iconst (M := mX10_goesOn) (pc := 1) (v := 2) 2 dX10_goesOn_1 rfl ic2 ?_
  refine g_isub (M := mX10_goesOn) (pc := 2) 3 dX10_goesOn_2 rfl ?_
  refine g_nmI (fun t1 => ?_)
  refine g_istore_n (M := mX10_goesOn) (pc := 3) (ls' := [some (aR 8 32), some (aI a1), some (aI t1), none, none, none]) 4 dX10_goesOn_3 rfl rfl rfl rfl ?_
  refine g_loop (fun s => SX10_goesOn_4_ok a1 h L T s) ?_ (fun z => v_fgt [true, true, true, false, false, false] z)
  intro e2
  show VX mX10_goesOn 1 T _ 31 [some (aR 8 32), some (aI a1), some (aI e2), none, none, none] [] h L _
  exact g_fgt [true, true, true, false, false, false] (JX10_goesOn_31_ok a1 e2 T h L)
def SX10_triesRow_10 (a1 : Int32) (a2 : Int32) (a3 : Int32) (a4 : Int32) : (Int32 × HI) → Option ((Int32 × HI) ⊕ (HI))
  | (a5, h) =>
    if a1 ≤ a5 then
      some (Sum.inr h)
    else
      gd (ixb a5 5) <|
      gd (ixb (138 + a5) 150) <|
      nm (hP1 h 8 33 (nC (138 + a5)) (h 8 37 (nC a5))) fun h2 =>
      some (Sum.inl ((a5 + 1), h2))
def SX10_triesRow_77 (a1 : Int32) : (Int32 × HI) → Option ((Int32 × HI) ⊕ (HI))
  | (a7, h) =>
    if a1 ≤ a7 then
      some (Sum.inr h)
    else
      gd (ixb a7 5) <|
      gd (ixb a7 5) <|
      nm (hP1 h 8 38 (nC a7) (h 8 37 (nC a7))) fun h9 =>
      some (Sum.inl ((a7 + 1), h9))
def JX10_triesRow_68 (a1 : Int32) (a6 : Int32) (h : HI) : Option (HI) :=
  nm (hP1 h 8 32 10 a6) fun h8 =>
  Option.bind (loopN (SX10_triesRow_77 a1) FU (0, h8)) fun h10 =>
    some h10
def FX10_triesRow (a1 : Int32) (a2 : Int32) (a3 : Int32) (a4 : Int32) (h : HI) : Option (HI) :=
  nm (hP1 h 8 33 5 a1) fun h1 =>
  Option.bind (loopN (SX10_triesRow_10 a1 a2 a3 a4) FU (0, h1)) fun h3 =>
    Option.bind (FX10_eveningOf a2 h3) fun (r4, h5) =>
    Option.bind (FX10_scoreOn a3 h5) fun (r6, h7) =>
    if a4 = 0 then
      if r6 ≤ (h7 8 32 10) then
        some h7
      else
        JX10_triesRow_68 a1 r6 h7
    else
      JX10_triesRow_68 a1 r6 h7
set_option maxRecDepth 100000 in
set_option maxHeartbeats 4000000 in
theorem SX10_triesRow_10_ok (a1 : Int32) (a2 : Int32) (a3 : Int32) (a4 : Int32) (L : HL) (T : ZT) (a5 : Int32) (h : HI) : VX mX10_triesRow 7 T (gS (fun s : Int32 × HI => V mX10_triesRow 7 T 10 [some (aR 8 32), some (aI a1), some (aI a2), some (aI a3), some (aI a4), some (aI (s.1)), none, none] [] (s.2) L) (fun s : HI => V mX10_triesRow 7 T 40 [some (aR 8 32), some (aI a1), some (aI a2), some (aI a3), some (aI a4), none, none, none] [] s L)) 10 [some (aR 8 32), some (aI a1), some (aI a2), some (aI a3), some (aI a4), some (aI a5), none, none] [] h L (SX10_triesRow_10 a1 a2 a3 a4 (a5, h)) := by
  unfold SX10_triesRow_10
  refine g_iload (M := mX10_triesRow) (pc := 10) 12 dX10_triesRow_10 rfl rfl ?_
  refine g_iload_n (M := mX10_triesRow) (pc := 12) 13 dX10_triesRow_12 rfl rfl rfl ?_
  refine g_icmp_ge (M := mX10_triesRow) (pc := 13) 40 16 dX10_triesRow_13 (by decide) rfl (fun _ => ?_) (fun _ => ?_)
  · exact g_jmp (fun z => v_fgt [true, true, true, true, true, false, false, false] z)
  · refine g_aload_n (M := mX10_triesRow) (pc := 16) 17 dX10_triesRow_16 rfl rfl rfl ?_
    refine g_getR (M := mX10_triesRow) (pc := 17) 20 dX10_triesRow_17 rfl fX10_7 oR32_0 ?_
    refine g_sipush (M := mX10_triesRow) (pc := 20) (v := 138) 23 dX10_triesRow_20 rfl sp138 ?_
    refine g_iload (M := mX10_triesRow) (pc := 23) 25 dX10_triesRow_23 rfl rfl ?_
    refine g_iadd (M := mX10_triesRow) (pc := 25) 26 dX10_triesRow_25 rfl ?_
    refine g_aload_n (M := mX10_triesRow) (pc := 26) 27 dX10_triesRow_26 rfl rfl rfl ?_
    refine g_getR (M := mX10_triesRow) (pc := 27) 30 dX10_triesRow_27 rfl fX10_22 oR32_8 ?_
    refine g_iload (M := mX10_triesRow) (pc := 30) 32 dX10_triesRow_30 rfl rfl ?_
    refine g_iald (M := mX10_triesRow) (pc := 32) 33 dX10_triesRow_32 rfl oA37 ?_
    refine g_iast (M := mX10_triesRow) (pc := 33) 34 dX10_triesRow_33 rfl oA33 (fun h2 => ?_)
    refine g_iinc (M := mX10_triesRow) (pc := 34) (c := 1) (ls' := [some (aR 8 32), some (aI a1), some (aI a2), some (aI a3), some (aI a4), some (aI (a5 + 1)), none, none]) 37 dX10_triesRow_34 rfl ic1 rfl rfl rfl ?_
    refine g_goto (M := mX10_triesRow) (pc := 37) 10 dX10_triesRow_37 (by decide) ?_
    exact g_jmp (fun z => v_fgt [true, true, true, true, true, true, false, false] z)
set_option maxRecDepth 100000 in
set_option maxHeartbeats 4000000 in
theorem SX10_triesRow_77_ok (a1 : Int32) (L : HL) (T : ZT) (a7 : Int32) (h : HI) : VX mX10_triesRow 7 T (gS (fun s : Int32 × HI => V mX10_triesRow 7 T 77 [some (aR 8 32), some (aI a1), none, none, none, none, none, some (aI (s.1))] [] (s.2) L) (fun s : HI => V mX10_triesRow 7 T 103 [none, none, none, none, none, none, none, none] [] s L)) 77 [some (aR 8 32), some (aI a1), none, none, none, none, none, some (aI a7)] [] h L (SX10_triesRow_77 a1 (a7, h)) := by
  unfold SX10_triesRow_77
  refine g_iload (M := mX10_triesRow) (pc := 77) 79 dX10_triesRow_77 rfl rfl ?_
  refine g_iload_n (M := mX10_triesRow) (pc := 79) 80 dX10_triesRow_79 rfl rfl rfl ?_
  refine g_icmp_ge (M := mX10_triesRow) (pc := 80) 103 83 dX10_triesRow_80 (by decide) rfl (fun _ => ?_) (fun _ => ?_)
  · exact g_jmp (fun z => v_fgt [false, false, false, false, false, false, false, false] z)
  · refine g_aload_n (M := mX10_triesRow) (pc := 83) 84 dX10_triesRow_83 rfl rfl rfl ?_
    refine g_getR (M := mX10_triesRow) (pc := 84) 87 dX10_triesRow_84 rfl fX10_25 oR32_9 ?_
    refine g_iload (M := mX10_triesRow) (pc := 87) 89 dX10_triesRow_87 rfl rfl ?_
    refine g_aload_n (M := mX10_triesRow) (pc := 89) 90 dX10_triesRow_89 rfl rfl rfl ?_
    refine g_getR (M := mX10_triesRow) (pc := 90) 93 dX10_triesRow_90 rfl fX10_22 oR32_8 ?_
    refine g_iload (M := mX10_triesRow) (pc := 93) 95 dX10_triesRow_93 rfl rfl ?_
    refine g_iald (M := mX10_triesRow) (pc := 95) 96 dX10_triesRow_95 rfl oA37 ?_
    refine g_iast (M := mX10_triesRow) (pc := 96) 97 dX10_triesRow_96 rfl oA38 (fun h9 => ?_)
    refine g_iinc (M := mX10_triesRow) (pc := 97) (c := 1) (ls' := [some (aR 8 32), some (aI a1), none, none, none, none, none, some (aI (a7 + 1))]) 100 dX10_triesRow_97 rfl ic1 rfl rfl rfl ?_
    refine g_goto (M := mX10_triesRow) (pc := 100) 77 dX10_triesRow_100 (by decide) ?_
    exact g_jmp (fun z => v_fgt [true, true, false, false, false, false, false, true] z)
set_option maxRecDepth 100000 in
set_option maxHeartbeats 4000000 in
theorem JX10_triesRow_68_ok (a1 : Int32) (a6 : Int32) (T : ZT) (h : HI) (L : HL) : VX mX10_triesRow 7 T (fun r => Zl (lfVH L) r = T) 68 [some (aR 8 32), some (aI a1), none, none, none, none, some (aI a6), none] [] h L (JX10_triesRow_68 a1 a6 h) := by
  unfold JX10_triesRow_68
  refine g_aload_n (M := mX10_triesRow) (pc := 68) 69 dX10_triesRow_68 rfl rfl rfl ?_
  refine g_iload (M := mX10_triesRow) (pc := 69) 71 dX10_triesRow_69 rfl rfl ?_
  refine g_put (M := mX10_triesRow) (pc := 71) 74 dX10_triesRow_71 rfl pX10_203 oF32_10 rfl rfl (fun h8 => ?_)
  refine g_iconst (M := mX10_triesRow) (pc := 74) (v := 0) 75 dX10_triesRow_74 rfl ic0 ?_
  refine g_istore (M := mX10_triesRow) (pc := 75) (ls' := [some (aR 8 32), some (aI a1), none, none, none, none, some (aI a6), some (aI 0)]) 77 dX10_triesRow_75 rfl rfl rfl ?_
  refine g_loop (fun s => SX10_triesRow_77_ok a1 L T s.1 s.2) ?_ (fun z => v_fgt [true, true, false, false, false, false, false, true] z)
  intro h10
  show VX mX10_triesRow 7 T _ 103 [none, none, none, none, none, none, none, none] [] h10 L _
  exact g_vret (M := mX10_triesRow) (pc := 103) dX10_triesRow_103 rfl (fun z => z)
set_option maxRecDepth 100000 in
set_option maxHeartbeats 4000000 in
theorem CX10_triesRow (a1 : Int32) (a2 : Int32) (a3 : Int32) (a4 : Int32) (h : HI) (L : HL) : CG mX10_triesRow 7 [aR 8 32, aI a1, aI a2, aI a3, aI a4] h L (lfVH L) (FX10_triesRow a1 a2 a3 a4 h) := by
  unfold FX10_triesRow
  refine cg_of [some (aR 8 32), some (aI a1), some (aI a2), some (aI a3), some (aI a4), none, none, none] rfl (by decide) rfl rfl (fun T => ?_)
  refine g_aload_n (M := mX10_triesRow) (pc := 0) 1 dX10_triesRow_0 rfl rfl rfl ?_
  refine g_getR (M := mX10_triesRow) (pc := 1) 4 dX10_triesRow_1 rfl fX10_7 oR32_0 ?_
  refine g_iconst (M := mX10_triesRow) (pc := 4) (v := 5) 5 dX10_triesRow_4 rfl ic5 ?_
  refine g_iload_n (M := mX10_triesRow) (pc := 5) 6 dX10_triesRow_5 rfl rfl rfl ?_
  refine g_iastC (M := mX10_triesRow) (pc := 6) (j := 5) 7 dX10_triesRow_6 rfl oA33 rfl rfl (fun h1 => ?_)
  refine g_iconst (M := mX10_triesRow) (pc := 7) (v := 0) 8 dX10_triesRow_7 rfl ic0 ?_
  refine g_istore (M := mX10_triesRow) (pc := 8) (ls' := [some (aR 8 32), some (aI a1), some (aI a2), some (aI a3), some (aI a4), some (aI 0), none, none]) 10 dX10_triesRow_8 rfl rfl rfl ?_
  refine g_loop (fun s => SX10_triesRow_10_ok a1 a2 a3 a4 L T s.1 s.2) ?_ (fun z => v_fgt [true, true, true, true, true, true, false, false] z)
  intro h3
  show VX mX10_triesRow 7 T _ 40 [some (aR 8 32), some (aI a1), some (aI a2), some (aI a3), some (aI a4), none, none, none] [] h3 L _
  refine g_aload_n (M := mX10_triesRow) (pc := 40) 41 dX10_triesRow_40 rfl rfl rfl ?_
  refine g_iload_n (M := mX10_triesRow) (pc := 41) 42 dX10_triesRow_41 rfl rfl rfl ?_
  refine g_cV_IH (M := mX10_triesRow) (pc := 42) (M' := mX10_eveningOf) (rest := []) 45 dX10_triesRow_42 rfl kX10_169 okX10_eveningOf (CX10_eveningOf a2 h3 L) oO32 rfl rfl rfl rfl (fun r4 h5 => ?_)
  refine g_istore (M := mX10_triesRow) (pc := 45) (ls' := [some (aR 8 32), some (aI a1), some (aI a2), some (aI a3), some (aI a4), some (aI r4), none, none]) 47 dX10_triesRow_45 rfl rfl rfl ?_
  refine g_aload_n (M := mX10_triesRow) (pc := 47) 48 dX10_triesRow_47 rfl rfl rfl ?_
  refine g_iload_n (M := mX10_triesRow) (pc := 48) 49 dX10_triesRow_48 rfl rfl rfl ?_
  refine g_cV_IH (M := mX10_triesRow) (pc := 49) (M' := mX10_scoreOn) (rest := []) 52 dX10_triesRow_49 rfl kX10_197 okX10_scoreOn (CX10_scoreOn a3 h5 L) oO32 rfl rfl rfl rfl (fun r6 h7 => ?_)
  refine g_istore (M := mX10_triesRow) (pc := 52) (ls' := [some (aR 8 32), some (aI a1), some (aI a2), some (aI a3), some (aI a4), some (aI r4), some (aI r6), none]) 54 dX10_triesRow_52 rfl rfl rfl ?_
  refine g_iload (M := mX10_triesRow) (pc := 54) 56 dX10_triesRow_54 rfl rfl ?_
  refine g_if_ne (M := mX10_triesRow) (pc := 56) 68 59 dX10_triesRow_56 (by decide) rfl (fun _ => ?_) (fun _ => ?_)
  · exact g_fgt [true, true, false, false, false, false, true, false] (JX10_triesRow_68_ok a1 r6 T h7 L)
  · refine g_iload (M := mX10_triesRow) (pc := 59) 61 dX10_triesRow_59 rfl rfl ?_
    refine g_aload_n (M := mX10_triesRow) (pc := 61) 62 dX10_triesRow_61 rfl rfl rfl ?_
    refine g_getI (M := mX10_triesRow) (pc := 62) 65 dX10_triesRow_62 rfl fX10_203 oF32_10 ?_
    refine g_icmp_le (M := mX10_triesRow) (pc := 65) 103 68 dX10_triesRow_65 (by decide) rfl (fun _ => ?_) (fun _ => ?_)
    · exact g_vret (M := mX10_triesRow) (pc := 103) dX10_triesRow_103 rfl (fun z => z)
    · exact g_fgt [true, true, false, false, false, false, true, false] (JX10_triesRow_68_ok a1 r6 T h7 L)
