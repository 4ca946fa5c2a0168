-- functions of the methods and their contracts, by program (wip/whole/dec.py): X1_valueOf X1_minutesOf X1_bestSet X1_fewestMinutes X1_greedyStep X1_greedySet X1_bringsMost X1_leastMissed X7_isLetter X7_isDigit X7_advance X7_begin X7_isWord X2_kindNamed X5_isFull X9_within X2_takeNumber X2_takeWord X5_add X2_readPhrase
def SX1_valueOf_73 (k2 : Nat) (a3 : Int32) (a4 : Int32) (a5 : Int32) (a6 : Int32) (h : HI) : (Int32 × Int32) → Option ((Int32 × Int32) ⊕ (Int32))
  | (a7, a8) =>
    if a4 ≤ a8 then
      some (Sum.inr a7)
    else
      gd (ixb a8 12) <|
      gd (okI 4 k2 && ixb ((a6 * 12) + (h 4 23 (nC a8))) (alen k2)) <|
      nm (h 4 k2 (nC ((a6 * 12) + (h 4 23 (nC a8))))) fun t4 =>
      if t4 ≤ a7 then
        some (Sum.inl (a7, (a8 + 1)))
      else
        some (Sum.inl (t4, (a8 + 1)))
def SX1_valueOf_49 (k2 : Nat) (a3 : Int32) (a4 : Int32) (h : HI) : (Int32 × Int32) → Option ((Int32 × Int32) ⊕ (Int32))
  | (a5, a6) =>
    if (h 4 18 8) ≤ a6 then
      some (Sum.inr a5)
    else
      gd (ixb a6 12) <|
      nm ((h 4 21 (nC a6)) / 10) fun t3 =>
      Option.bind (loopN (SX1_valueOf_73 k2 a3 a4 a5 a6 h) FU (t3, 0)) fun e5 =>
        gd (ixb a6 12) <|
        Option.bind (FX9_metFrom (h 4 21 (nC a6)) e5 a3) fun r6 =>
        nm (a5 + r6) fun t7 =>
        some (Sum.inl (t7, (a6 + 1)))
def JX1_valueOf_35 (a1 : Int32) (k2 : Nat) (s0 : Int32) (h : HI) : Option (Int32 × HI) :=
  Option.bind (FX1_listMembers a1 h) fun (r1, h2) =>
  Option.bind (loopN (SX1_valueOf_49 k2 s0 r1 h2) FU (0, 0)) fun e8 =>
    some (e8, h2)
def JX1_valueOf_20 (a1 : Int32) (k90 : Nat) (h : HI) : Option (Int32 × HI) :=
  if (a1 &&& (h 4 18 6)) = 0 then
    JX1_valueOf_35 a1 k90 0 h
  else
    JX1_valueOf_35 a1 k90 1 h
def FX1_valueOf (a1 : Int32) (h : HI) : Option (Int32 × HI) :=
  if (a1 &&& (h 4 18 5)) = 0 then
    JX1_valueOf_20 a1 19 h
  else
    JX1_valueOf_20 a1 20 h
set_option maxRecDepth 100000 in
set_option maxHeartbeats 4000000 in
theorem SX1_valueOf_73_ok (k2 : Nat) (a3 : Int32) (a4 : Int32) (a5 : Int32) (a6 : Int32) (h : HI) (L : HL) (T : ZT) (a7 : Int32) (a8 : Int32) : VX mX1_valueOf 2 T (gS (fun s : Int32 × Int32 => V mX1_valueOf 2 T 73 [some (aR 4 18), none, some (aR 4 k2), some (aI a3), some (aI a4), some (aI a5), some (aI a6), some (aI (s.1)), some (aI (s.2)), none] [] h L) (fun s : Int32 => V mX1_valueOf 2 T 114 [some (aR 4 18), none, some (aR 4 k2), some (aI a3), some (aI a4), some (aI a5), some (aI a6), some (aI s), none, none] [] h L)) 73 [some (aR 4 18), none, some (aR 4 k2), some (aI a3), some (aI a4), some (aI a5), some (aI a6), some (aI a7), some (aI a8), none] [] h L (SX1_valueOf_73 k2 a3 a4 a5 a6 h (a7, a8)) := by
  unfold SX1_valueOf_73
  refine g_iload (M := mX1_valueOf) (pc := 73) 75 dX1_valueOf_73 rfl rfl ?_
  refine g_iload (M := mX1_valueOf) (pc := 75) 77 dX1_valueOf_75 rfl rfl ?_
  refine g_icmp_ge (M := mX1_valueOf) (pc := 77) 114 80 dX1_valueOf_77 (by decide) rfl (fun _ => ?_) (fun _ => ?_)
  · exact g_jmp (fun z => v_fgt [true, false, true, true, true, true, true, true, false, false] z)
  · refine g_aload_n (M := mX1_valueOf) (pc := 80) 81 dX1_valueOf_80 rfl rfl rfl ?_
    refine g_iload (M := mX1_valueOf) (pc := 81) 83 dX1_valueOf_81 rfl rfl ?_
    refine g_bipush (M := mX1_valueOf) (pc := 83) (v := 12) 85 dX1_valueOf_83 rfl bp12 ?_
    refine g_imul (M := mX1_valueOf) (pc := 85) 86 dX1_valueOf_85 rfl ?_
    refine g_aload_n (M := mX1_valueOf) (pc := 86) 87 dX1_valueOf_86 rfl rfl rfl ?_
    refine g_getR (M := mX1_valueOf) (pc := 87) 90 dX1_valueOf_87 rfl fX1_24 oR18_4 ?_
    refine g_iload (M := mX1_valueOf) (pc := 90) 92 dX1_valueOf_90 rfl rfl ?_
    refine g_iald (M := mX1_valueOf) (pc := 92) 93 dX1_valueOf_92 rfl oA23 ?_
    refine g_iadd (M := mX1_valueOf) (pc := 93) 94 dX1_valueOf_93 rfl ?_
    refine g_ialdV (M := mX1_valueOf) (pc := 94) 95 dX1_valueOf_94 rfl ?_
    refine g_nmI (fun t4 => ?_)
    refine g_istore (M := mX1_valueOf) (pc := 95) (ls' := [some (aR 4 18), none, some (aR 4 k2), some (aI a3), some (aI a4), some (aI a5), some (aI a6), some (aI a7), some (aI a8), some (aI t4)]) 97 dX1_valueOf_95 rfl rfl rfl ?_
    refine g_iload (M := mX1_valueOf) (pc := 97) 99 dX1_valueOf_97 rfl rfl ?_
    refine g_iload (M := mX1_valueOf) (pc := 99) 101 dX1_valueOf_99 rfl rfl ?_
    refine g_icmp_le (M := mX1_valueOf) (pc := 101) 108 104 dX1_valueOf_101 (by decide) rfl (fun _ => ?_) (fun _ => ?_)
    · refine g_iinc (M := mX1_valueOf) (pc := 108) (c := 1) (ls' := [some (aR 4 18), none, some (aR 4 k2), some (aI a3), some (aI a4), some (aI a5), some (aI a6), some (aI a7), some (aI (a8 + 1)), some (aI t4)]) 111 dX1_valueOf_108 rfl ic1 rfl rfl rfl ?_
      refine g_goto (M := mX1_valueOf) (pc := 111) 73 dX1_valueOf_111 (by decide) ?_
      exact g_jmp (fun z => v_fgt [true, false, true, true, true, true, true, true, true, false] z)
    · refine g_iload (M := mX1_valueOf) (pc := 104) 106 dX1_valueOf_104 rfl rfl ?_
      refine g_istore (M := mX1_valueOf) (pc := 106) (ls' := [some (aR 4 18), none, some (aR 4 k2), some (aI a3), some (aI a4), some (aI a5), some (aI a6), some (aI t4), some (aI a8), some (aI t4)]) 108 dX1_valueOf_106 rfl rfl rfl ?_
      refine g_iinc (M := mX1_valueOf) (pc := 108) (c := 1) (ls' := [some (aR 4 18), none, some (aR 4 k2), some (aI a3), some (aI a4), some (aI a5), some (aI a6), some (aI t4), some (aI (a8 + 1)), some (aI t4)]) 111 dX1_valueOf_108 rfl ic1 rfl rfl rfl ?_
      refine g_goto (M := mX1_valueOf) (pc := 111) 73 dX1_valueOf_111 (by decide) ?_
      exact g_jmp (fun z => v_fgt [true, false, true, true, true, true, true, true, true, false] z)
set_option maxRecDepth 100000 in
set_option maxHeartbeats 4000000 in
theorem SX1_valueOf_49_ok (k2 : Nat) (a3 : Int32) (a4 : Int32) (h : HI) (L : HL) (T : ZT) (a5 : Int32) (a6 : Int32) : VX mX1_valueOf 2 T (gS (fun s : Int32 × Int32 => V mX1_valueOf 2 T 49 [some (aR 4 18), none, some (aR 4 k2), some (aI a3), some (aI a4), some (aI (s.1)), some (aI (s.2)), none, none, none] [] h L) (fun s : Int32 => V mX1_valueOf 2 T 138 [none, none, none, none, none, some (aI s), none, none, none, none] [] h L)) 49 [some (aR 4 18), none, some (aR 4 k2), some (aI a3), some (aI a4), some (aI a5), some (aI a6), none, none, none] [] h L (SX1_valueOf_49 k2 a3 a4 h (a5, a6)) := by
  unfold SX1_valueOf_49
  refine g_iload (M := mX1_valueOf) (pc := 49) 51 dX1_valueOf_49 rfl rfl ?_
  refine g_aload_n (M := mX1_valueOf) (pc := 51) 52 dX1_valueOf_51 rfl rfl rfl ?_
  refine g_getI (M := mX1_valueOf) (pc := 52) 55 dX1_valueOf_52 rfl fX1_37 oF18_8 ?_
  refine g_icmp_ge (M := mX1_valueOf) (pc := 55) 138 58 dX1_valueOf_55 (by decide) rfl (fun _ => ?_) (fun _ => ?_)
  · exact g_jmp (fun z => v_fgt [false, false, false, false, false, true, false, false, false, false] z)
  · refine g_aload_n (M := mX1_valueOf) (pc := 58) 59 dX1_valueOf_58 rfl rfl rfl ?_
    refine g_getR (M := mX1_valueOf) (pc := 59) 62 dX1_valueOf_59 rfl fX1_18 oR18_2 ?_
    refine g_iload (M := mX1_valueOf) (pc := 62) 64 dX1_valueOf_62 rfl rfl ?_
    refine g_iald (M := mX1_valueOf) (pc := 64) 65 dX1_valueOf_64 rfl oA21 ?_
    refine g_bipush (M := mX1_valueOf) (pc := 65) (v := 10) 67 dX1_valueOf_65 rfl bp10 ?_
    refine g_idivC (M := mX1_valueOf) (pc := 67) 68 dX1_valueOf_67 rfl (by decide) ?_
    refine g_nmI (fun t3 => ?_)
    refine g_istore (M := mX1_valueOf) (pc := 68) (ls' := [some (aR 4 18), none, some (aR 4 k2), some (aI a3), some (aI a4), some (aI a5), some (aI a6), some (aI t3), none, none]) 70 dX1_valueOf_68 rfl rfl rfl ?_
    refine g_iconst (M := mX1_valueOf) (pc := 70) (v := 0) 71 dX1_valueOf_70 rfl ic0 ?_
    refine g_istore (M := mX1_valueOf) (pc := 71) (ls' := [some (aR 4 18), none, some (aR 4 k2), some (aI a3), some (aI a4), some (aI a5), some (aI a6), some (aI t3), some (aI 0), none]) 73 dX1_valueOf_71 rfl rfl rfl ?_
    refine g_loop (fun s => SX1_valueOf_73_ok k2 a3 a4 a5 a6 h L T s.1 s.2) ?_ (fun z => v_fgt [true, false, true, true, true, true, true, true, true, false] z)
    intro e5
    show VX mX1_valueOf 2 T _ 114 [some (aR 4 18), none, some (aR 4 k2), some (aI a3), some (aI a4), some (aI a5), some (aI a6), some (aI e5), none, none] [] h L _
    refine g_iload (M := mX1_valueOf) (pc := 114) 116 dX1_valueOf_114 rfl rfl ?_
    refine g_aload_n (M := mX1_valueOf) (pc := 116) 117 dX1_valueOf_116 rfl rfl rfl ?_
    refine g_getR (M := mX1_valueOf) (pc := 117) 120 dX1_valueOf_117 rfl fX1_18 oR18_2 ?_
    refine g_iload (M := mX1_valueOf) (pc := 120) 122 dX1_valueOf_120 rfl rfl ?_
    refine g_iald (M := mX1_valueOf) (pc := 122) 123 dX1_valueOf_122 rfl oA21 ?_
    refine g_iload (M := mX1_valueOf) (pc := 123) 125 dX1_valueOf_123 rfl rfl ?_
    refine g_iload_n (M := mX1_valueOf) (pc := 125) 126 dX1_valueOf_125 rfl rfl rfl ?_
    refine g_cN_I (M := mX1_valueOf) (pc := 126) (M' := mX9_metFrom) (rest := [aI a5]) 129 dX1_valueOf_126 rfl nX1_70 okX9_metFrom (CX9_metFrom (h 4 21 (nC a6)) e5 a3 h L) rfl rfl rfl rfl (fun r6 => ?_)
    refine g_iadd (M := mX1_valueOf) (pc := 129) 130 dX1_valueOf_129 rfl ?_
    refine g_nmI (fun t7 => ?_)
    refine g_istore (M := mX1_valueOf) (pc := 130) (ls' := [some (aR 4 18), none, some (aR 4 k2), some (aI a3), some (aI a4), some (aI t7), some (aI a6), some (aI e5), none, none]) 132 dX1_valueOf_130 rfl rfl rfl ?_
    refine g_iinc (M := mX1_valueOf) (pc := 132) (c := 1) (ls' := [some (aR 4 18), none, some (aR 4 k2), some (aI a3), some (aI a4), some (aI t7), some (aI (a6 + 1)), some (aI e5), none, none]) 135 dX1_valueOf_132 rfl ic1 rfl rfl rfl ?_
    refine g_goto (M := mX1_valueOf) (pc := 135) 49 dX1_valueOf_135 (by decide) ?_
    exact g_jmp (fun z => v_fgt [true, false, true, true, true, true, true, false, false, false] z)
set_option maxRecDepth 100000 in
set_option maxHeartbeats 4000000 in
theorem JX1_valueOf_35_ok (a1 : Int32) (k2 : Nat) (s0 : Int32) (T : ZT) (h : HI) (L : HL) : VX mX1_valueOf 2 T (fun r => Zl (lfIH L) r = T) 35 [some (aR 4 18), some (aI a1), some (aR 4 k2), none, none, none, none, none, none, none] [aI s0] h L (JX1_valueOf_35 a1 k2 s0 h) := by
  unfold JX1_valueOf_35
  refine g_istore_n (M := mX1_valueOf) (pc := 35) (ls' := [some (aR 4 18), some (aI a1), some (aR 4 k2), some (aI s0), none, none, none, none, none, none]) 36 dX1_valueOf_35 rfl rfl rfl rfl ?_
  refine g_aload_n (M := mX1_valueOf) (pc := 36) 37 dX1_valueOf_36 rfl rfl rfl ?_
  refine g_iload_n (M := mX1_valueOf) (pc := 37) 38 dX1_valueOf_37 rfl rfl rfl ?_
  refine g_cV_IH (M := mX1_valueOf) (pc := 38) (M' := mX1_listMembers) (rest := []) 41 dX1_valueOf_38 rfl kX1_66 okX1_listMembers (CX1_listMembers a1 h L) oO18 rfl rfl rfl rfl (fun r1 h2 => ?_)
  refine g_istore (M := mX1_valueOf) (pc := 41) (ls' := [some (aR 4 18), some (aI a1), some (aR 4 k2), some (aI s0), some (aI r1), none, none, none, none, none]) 43 dX1_valueOf_41 rfl rfl rfl ?_
  refine g_iconst (M := mX1_valueOf) (pc := 43) (v := 0) 44 dX1_valueOf_43 rfl ic0 ?_
  refine g_istore (M := mX1_valueOf) (pc := 44) (ls' := [some (aR 4 18), some (aI a1), some (aR 4 k2), some (aI s0), some (aI r1), some (aI 0), none, none, none, none]) 46 dX1_valueOf_44 rfl rfl rfl ?_
  refine g_iconst (M := mX1_valueOf) (pc := 46) (v := 0) 47 dX1_valueOf_46 rfl ic0 ?_
  refine g_istore (M := mX1_valueOf) (pc := 47) (ls' := [some (aR 4 18), some (aI a1), some (aR 4 k2), some (aI s0), some (aI r1), some (aI 0), some (aI 0), none, none, none]) 49 dX1_valueOf_47 rfl rfl rfl ?_
  refine g_loop (fun s => SX1_valueOf_49_ok k2 s0 r1 h2 L T s.1 s.2) ?_ (fun z => v_fgt [true, false, true, true, true, true, true, false, false, false] z)
  intro e8
  show VX mX1_valueOf 2 T _ 138 [none, none, none, none, none, some (aI e8), none, none, none, none] [] h2 L _
  refine g_iload (M := mX1_valueOf) (pc := 138) 140 dX1_valueOf_138 rfl rfl ?_
  exact g_iret (M := mX1_valueOf) (pc := 140) dX1_valueOf_140 rfl rfl (fun z => z)
set_option maxRecDepth 100000 in
set_option maxHeartbeats 4000000 in
theorem JX1_valueOf_20_ok (a1 : Int32) (k90 : Nat) (T : ZT) (h : HI) (L : HL) : VX mX1_valueOf 2 T (fun r => Zl (lfIH L) r = T) 20 [some (aR 4 18), some (aI a1), none, none, none, none, none, none, none, none] [aR 4 k90] h L (JX1_valueOf_20 a1 k90 h) := by
  unfold JX1_valueOf_20
  refine g_astore_n (M := mX1_valueOf) (pc := 20) (ls' := [some (aR 4 18), some (aI a1), some (aR 4 k90), none, none, none, none, none, none, none]) 21 dX1_valueOf_20 rfl rfl rfl rfl ?_
  refine g_iload_n (M := mX1_valueOf) (pc := 21) 22 dX1_valueOf_21 rfl rfl rfl ?_
  refine g_aload_n (M := mX1_valueOf) (pc := 22) 23 dX1_valueOf_22 rfl rfl rfl ?_
  refine g_getI (M := mX1_valueOf) (pc := 23) 26 dX1_valueOf_23 rfl fX1_31 oF18_6 ?_
  refine g_iand (M := mX1_valueOf) (pc := 26) 27 dX1_valueOf_26 rfl ?_
  refine g_if_eq (M := mX1_valueOf) (pc := 27) 34 30 dX1_valueOf_27 (by decide) rfl (fun _ => ?_) (fun _ => ?_)
  · refine g_iconst (M := mX1_valueOf) (pc := 34) (v := 0) 35 dX1_valueOf_34 rfl ic0 ?_
    exact g_fgt [true, true, true, false, false, false, false, false, false, false] (JX1_valueOf_35_ok a1 k90 0 T h L)
  · refine g_iconst (M := mX1_valueOf) (pc := 30) (v := 1) 31 dX1_valueOf_30 rfl ic1 ?_
    refine g_goto (M := mX1_valueOf) (pc := 31) 35 dX1_valueOf_31 (by decide) ?_
    exact g_fgt [true, true, true, false, false, false, false, false, false, false] (JX1_valueOf_35_ok a1 k90 1 T h L)
set_option maxRecDepth 100000 in
set_option maxHeartbeats 4000000 in
theorem CX1_valueOf (a1 : Int32) (h : HI) (L : HL) : CG mX1_valueOf 2 [aR 4 18, aI a1] h L (lfIH L) (FX1_valueOf a1 h) := by
  unfold FX1_valueOf
  refine cg_of [some (aR 4 18), some (aI a1), none, none, none, none, none, none, none, none] rfl (by decide) rfl rfl (fun T => ?_)
  refine g_iload_n (M := mX1_valueOf) (pc := 0) 1 dX1_valueOf_0 rfl rfl rfl ?_
  refine g_aload_n (M := mX1_valueOf) (pc := 1) 2 dX1_valueOf_1 rfl rfl rfl ?_
  refine g_getI (M := mX1_valueOf) (pc := 2) 5 dX1_valueOf_2 rfl fX1_27 oF18_5 ?_
  refine g_iand (M := mX1_valueOf) (pc := 5) 6 dX1_valueOf_5 rfl ?_
  refine g_if_eq (M := mX1_valueOf) (pc := 6) 16 9 dX1_valueOf_6 (by decide) rfl (fun _ => ?_) (fun _ => ?_)
  · refine g_aload_n (M := mX1_valueOf) (pc := 16) 17 dX1_valueOf_16 rfl rfl rfl ?_
    refine g_getR (M := mX1_valueOf) (pc := 17) 20 dX1_valueOf_17 rfl fX1_9 oR18_0 ?_
    exact g_fgt [true, true, false, false, false, false, false, false, false, false] (JX1_valueOf_20_ok a1 19 T h L)
  · refine g_aload_n (M := mX1_valueOf) (pc := 9) 10 dX1_valueOf_9 rfl rfl rfl ?_
    refine g_getR (M := mX1_valueOf) (pc := 10) 13 dX1_valueOf_10 rfl fX1_15 oR18_1 ?_
    refine g_goto (M := mX1_valueOf) (pc := 13) 20 dX1_valueOf_13 (by decide) ?_
    exact g_fgt [true, true, false, false, false, false, false, false, false, false] (JX1_valueOf_20_ok a1 20 T h L)
def SX1_minutesOf_4 (a1 : Int32) (h : HI) : (Int32 × Int32) → Option ((Int32 × Int32) ⊕ (Int32))
  | (a2, a3) =>
    if (h 4 18 7) ≤ a3 then
      some (Sum.inr a2)
    else
      Option.bind (FX9_isIn a1 a3) fun r1 =>
      if r1 = 0 then
        some (Sum.inl (a2, (a3 + 1)))
      else
        gd (ixb a3 12) <|
        nm (a2 + (h 4 22 (nC a3))) fun t2 =>
        some (Sum.inl (t2, (a3 + 1)))
def FX1_minutesOf (a1 : Int32) (h : HI) : Option (Int32) :=
  Option.bind (loopN (SX1_minutesOf_4 a1 h) FU (0, 0)) fun e3 =>
    some e3
set_option maxRecDepth 100000 in
set_option maxHeartbeats 4000000 in
theorem SX1_minutesOf_4_ok (a1 : Int32) (h : HI) (L : HL) (T : ZT) (a2 : Int32) (a3 : Int32) : VX mX1_minutesOf 1 T (gS (fun s : Int32 × Int32 => V mX1_minutesOf 1 T 4 [some (aR 4 18), some (aI a1), some (aI (s.1)), some (aI (s.2))] [] h L) (fun s : Int32 => V mX1_minutesOf 1 T 35 [none, none, some (aI s), none] [] h L)) 4 [some (aR 4 18), some (aI a1), some (aI a2), some (aI a3)] [] h L (SX1_minutesOf_4 a1 h (a2, a3)) := by
  unfold SX1_minutesOf_4
  refine g_iload_n (M := mX1_minutesOf) (pc := 4) 5 dX1_minutesOf_4 rfl rfl rfl ?_
  refine g_aload_n (M := mX1_minutesOf) (pc := 5) 6 dX1_minutesOf_5 rfl rfl rfl ?_
  refine g_getI (M := mX1_minutesOf) (pc := 6) 9 dX1_minutesOf_6 rfl fX1_34 oF18_7 ?_
  refine g_icmp_ge (M := mX1_minutesOf) (pc := 9) 35 12 dX1_minutesOf_9 (by decide) rfl (fun _ => ?_) (fun _ => ?_)
  · exact g_jmp (fun z => v_fgt [false, false, true, false] z)
  · refine g_iload_n (M := mX1_minutesOf) (pc := 12) 13 dX1_minutesOf_12 rfl rfl rfl ?_
    refine g_iload_n (M := mX1_minutesOf) (pc := 13) 14 dX1_minutesOf_13 rfl rfl rfl ?_
    refine g_cN_I (M := mX1_minutesOf) (pc := 14) (M' := mX9_isIn) (rest := []) 17 dX1_minutesOf_14 rfl nX1_73 okX9_isIn (CX9_isIn a1 a3 h L) rfl rfl rfl rfl (fun r1 => ?_)
    refine g_if_eq (M := mX1_minutesOf) (pc := 17) 29 20 dX1_minutesOf_17 (by decide) rfl (fun _ => ?_) (fun _ => ?_)
    · refine g_iinc (M := mX1_minutesOf) (pc := 29) (c := 1) (ls' := [some (aR 4 18), some (aI a1), some (aI a2), some (aI (a3 + 1))]) 32 dX1_minutesOf_29 rfl ic1 rfl rfl rfl ?_
      refine g_goto (M := mX1_minutesOf) (pc := 32) 4 dX1_minutesOf_32 (by decide) ?_
      exact g_jmp (fun z => v_fgt [true, true, true, true] z)
    · refine g_iload_n (M := mX1_minutesOf) (pc := 20) 21 dX1_minutesOf_20 rfl rfl rfl ?_
      refine g_aload_n (M := mX1_minutesOf) (pc := 21) 22 dX1_minutesOf_21 rfl rfl rfl ?_
      refine g_getR (M := mX1_minutesOf) (pc := 22) 25 dX1_minutesOf_22 rfl fX1_21 oR18_3 ?_
      refine g_iload_n (M := mX1_minutesOf) (pc := 25) 26 dX1_minutesOf_25 rfl rfl rfl ?_
      refine g_iald (M := mX1_minutesOf) (pc := 26) 27 dX1_minutesOf_26 rfl oA22 ?_
      refine g_iadd (M := mX1_minutesOf) (pc := 27) 28 dX1_minutesOf_27 rfl ?_
      refine g_nmI (fun t2 => ?_)
      refine g_istore_n (M := mX1_minutesOf) (pc := 28) (ls' := [some (aR 4 18), some (aI a1), some (aI t2), some (aI a3)]) 29 dX1_minutesOf_28 rfl rfl rfl rfl ?_
      refine g_iinc (M := mX1_minutesOf) (pc := 29) (c := 1) (ls' := [some (aR 4 18), some (aI a1), some (aI t2), some (aI (a3 + 1))]) 32 dX1_minutesOf_29 rfl ic1 rfl rfl rfl ?_
      refine g_goto (M := mX1_minutesOf) (pc := 32) 4 dX1_minutesOf_32 (by decide) ?_
      exact g_jmp (fun z => v_fgt [true, true, true, true] z)
set_option maxRecDepth 100000 in
set_option maxHeartbeats 4000000 in
theorem CX1_minutesOf (a1 : Int32) (h : HI) (L : HL) : CG mX1_minutesOf 1 [aR 4 18, aI a1] h L (lfI h L) (FX1_minutesOf a1 h) := by
  unfold FX1_minutesOf
  refine cg_of [some (aR 4 18), some (aI a1), none, none] rfl (by decide) rfl rfl (fun T => ?_)
  refine g_iconst (M := mX1_minutesOf) (pc := 0) (v := 0) 1 dX1_minutesOf_0 rfl ic0 ?_
  refine g_istore_n (M := mX1_minutesOf) (pc := 1) (ls' := [some (aR 4 18), some (aI a1), some (aI 0), none]) 2 dX1_minutesOf_1 rfl rfl rfl rfl ?_
  refine g_iconst (M := mX1_minutesOf) (pc := 2) (v := 0) 3 dX1_minutesOf_2 rfl ic0 ?_
  refine g_istore_n (M := mX1_minutesOf) (pc := 3) (ls' := [some (aR 4 18), some (aI a1), some (aI 0), some (aI 0)]) 4 dX1_minutesOf_3 rfl rfl rfl rfl ?_
  refine g_loop (fun s => SX1_minutesOf_4_ok a1 h L T s.1 s.2) ?_ (fun z => v_fgt [true, true, true, true] z)
  intro e3
  show VX mX1_minutesOf 1 T _ 35 [none, none, some (aI e3), none] [] h L _
  refine g_iload_n (M := mX1_minutesOf) (pc := 35) 36 dX1_minutesOf_35 rfl rfl rfl ?_
  exact g_iret (M := mX1_minutesOf) (pc := 36) dX1_minutesOf_36 rfl rfl (fun z => z)
def JX1_bestSet_66 (a1 : Int32) (a5 : Int32) (a6 : Int32) (a7 : Int32) (h : HI) : Option ((Int32 × Int32 × Int32 × Int32 × HI) ⊕ (Int32 × HI)) :=
  some (Sum.inl (a5, a7, a6, (a5 + 1), h))
def SX1_bestSet_14 (a1 : Int32) : (Int32 × Int32 × Int32 × Int32 × HI) → Option ((Int32 × Int32 × Int32 × Int32 × HI) ⊕ (Int32 × HI))
  | (a2, a3, a4, a5, h) =>
    if (1 <<< ((h 4 18 7) &&& 31)) ≤ a5 then
      some (Sum.inr (a2, h))
    else
      Option.bind (FX1_minutesOf a5 h) fun r3 =>
      if a1 < r3 then
        some (Sum.inl (a2, a3, a4, (a5 + 1), h))
      else
        Option.bind (FX1_valueOf a5 h) fun (r4, h5) =>
        if a3 < r4 then
          JX1_bestSet_66 a1 a5 r3 r4 h5
        else
          if r4 = a3 then
            if a4 ≤ r3 then
              some (Sum.inl (a2, a3, a4, (a5 + 1), h5))
            else
              JX1_bestSet_66 a1 a5 r3 r4 h5
          else
            some (Sum.inl (a2, a3, a4, (a5 + 1), h5))
def FX1_bestSet (a1 : Int32) (h : HI) : Option (Int32 × HI) :=
  Option.bind (FX1_valueOf 0 h) fun (r1, h2) =>
  Option.bind (loopN (SX1_bestSet_14 a1) FU (0, r1, 0, 1, h2)) fun (e6, h7) =>
    some (e6, h7)
set_option maxRecDepth 100000 in
set_option maxHeartbeats 4000000 in
theorem JX1_bestSet_66_ok (a1 : Int32) (a5 : Int32) (a6 : Int32) (a7 : Int32) (T : ZT) (h : HI) (L : HL) : VX mX1_bestSet 3 T (gS (fun s : Int32 × Int32 × Int32 × Int32 × HI => V mX1_bestSet 3 T 14 [some (aR 4 18), some (aI a1), some (aI (s.1)), some (aI (s.2.1)), some (aI (s.2.2.1)), some (aI (s.2.2.2.1)), none, none] [] (s.2.2.2.2) L) (fun s : Int32 × HI => V mX1_bestSet 3 T 82 [none, none, some (aI (s.1)), none, none, none, none, none] [] (s.2) L)) 66 [some (aR 4 18), some (aI a1), none, none, none, some (aI a5), some (aI a6), some (aI a7)] [] h L (JX1_bestSet_66 a1 a5 a6 a7 h) := by
  unfold JX1_bestSet_66
  refine g_iload (M := mX1_bestSet) (pc := 66) 68 dX1_bestSet_66 rfl rfl ?_
  refine g_istore_n (M := mX1_bestSet) (pc := 68) (ls' := [some (aR 4 18), some (aI a1), some (aI a5), none, none, some (aI a5), some (aI a6), some (aI a7)]) 69 dX1_bestSet_68 rfl rfl rfl rfl ?_
  refine g_iload (M := mX1_bestSet) (pc := 69) 71 dX1_bestSet_69 rfl rfl ?_
  refine g_istore_n (M := mX1_bestSet) (pc := 71) (ls' := [some (aR 4 18), some (aI a1), some (aI a5), some (aI a7), none, some (aI a5), some (aI a6), some (aI a7)]) 72 dX1_bestSet_71 rfl rfl rfl rfl ?_
  refine g_iload (M := mX1_bestSet) (pc := 72) 74 dX1_bestSet_72 rfl rfl ?_
  refine g_istore (M := mX1_bestSet) (pc := 74) (ls' := [some (aR 4 18), some (aI a1), some (aI a5), some (aI a7), some (aI a6), some (aI a5), some (aI a6), some (aI a7)]) 76 dX1_bestSet_74 rfl rfl rfl ?_
  refine g_iinc (M := mX1_bestSet) (pc := 76) (c := 1) (ls' := [some (aR 4 18), some (aI a1), some (aI a5), some (aI a7), some (aI a6), some (aI (a5 + 1)), some (aI a6), some (aI a7)]) 79 dX1_bestSet_76 rfl ic1 rfl rfl rfl ?_
  refine g_goto (M := mX1_bestSet) (pc := 79) 14 dX1_bestSet_79 (by decide) ?_
  exact g_jmp (fun z => v_fgt [true, true, true, true, true, true, false, false] z)
set_option maxRecDepth 100000 in
set_option maxHeartbeats 4000000 in
theorem SX1_bestSet_14_ok (a1 : Int32) (L : HL) (T : ZT) (a2 : Int32) (a3 : Int32) (a4 : Int32) (a5 : Int32) (h : HI) : VX mX1_bestSet 3 T (gS (fun s : Int32 × Int32 × Int32 × Int32 × HI => V mX1_bestSet 3 T 14 [some (aR 4 18), some (aI a1), some (aI (s.1)), some (aI (s.2.1)), some (aI (s.2.2.1)), some (aI (s.2.2.2.1)), none, none] [] (s.2.2.2.2) L) (fun s : Int32 × HI => V mX1_bestSet 3 T 82 [none, none, some (aI (s.1)), none, none, none, none, none] [] (s.2) L)) 14 [some (aR 4 18), some (aI a1), some (aI a2), some (aI a3), some (aI a4), some (aI a5), none, none] [] h L (SX1_bestSet_14 a1 (a2, a3, a4, a5, h)) := by
  unfold SX1_bestSet_14
  refine g_iload (M := mX1_bestSet) (pc := 14) 16 dX1_bestSet_14 rfl rfl ?_
  refine g_iconst (M := mX1_bestSet) (pc := 16) (v := 1) 17 dX1_bestSet_16 rfl ic1 ?_
  refine g_aload_n (M := mX1_bestSet) (pc := 17) 18 dX1_bestSet_17 rfl rfl rfl ?_
  refine g_getI (M := mX1_bestSet) (pc := 18) 21 dX1_bestSet_18 rfl fX1_34 oF18_7 ?_
  refine g_ishl (M := mX1_bestSet) (pc := 21) 22 dX1_bestSet_21 rfl ?_
  refine g_icmp_ge (M := mX1_bestSet) (pc := 22) 82 25 dX1_bestSet_22 (by decide) rfl (fun _ => ?_) (fun _ => ?_)
  · exact g_jmp (fun z => v_fgt [false, false, true, false, false, false, false, false] z)
  · refine g_aload_n (M := mX1_bestSet) (pc := 25) 26 dX1_bestSet_25 rfl rfl rfl ?_
    refine g_iload (M := mX1_bestSet) (pc := 26) 28 dX1_bestSet_26 rfl rfl ?_
    refine g_cV_I (M := mX1_bestSet) (pc := 28) (M' := mX1_minutesOf) (rest := []) 31 dX1_bestSet_28 rfl kX1_79 okX1_minutesOf (CX1_minutesOf a5 h L) oO18 rfl rfl rfl rfl (fun r3 => ?_)
    refine g_istore (M := mX1_bestSet) (pc := 31) (ls' := [some (aR 4 18), some (aI a1), some (aI a2), some (aI a3), some (aI a4), some (aI a5), some (aI r3), none]) 33 dX1_bestSet_31 rfl rfl rfl ?_
    refine g_iload (M := mX1_bestSet) (pc := 33) 35 dX1_bestSet_33 rfl rfl ?_
    refine g_iload_n (M := mX1_bestSet) (pc := 35) 36 dX1_bestSet_35 rfl rfl rfl ?_
    refine g_icmp_gt (M := mX1_bestSet) (pc := 36) 76 39 dX1_bestSet_36 (by decide) rfl (fun _ => ?_) (fun _ => ?_)
    · refine g_iinc (M := mX1_bestSet) (pc := 76) (c := 1) (ls' := [some (aR 4 18), some (aI a1), some (aI a2), some (aI a3), some (aI a4), some (aI (a5 + 1)), some (aI r3), none]) 79 dX1_bestSet_76 rfl ic1 rfl rfl rfl ?_
      refine g_goto (M := mX1_bestSet) (pc := 79) 14 dX1_bestSet_79 (by decide) ?_
      exact g_jmp (fun z => v_fgt [true, true, true, true, true, true, false, false] z)
    · refine g_aload_n (M := mX1_bestSet) (pc := 39) 40 dX1_bestSet_39 rfl rfl rfl ?_
      refine g_iload (M := mX1_bestSet) (pc := 40) 42 dX1_bestSet_40 rfl rfl ?_
      refine g_cV_IH (M := mX1_bestSet) (pc := 42) (M' := mX1_valueOf) (rest := []) 45 dX1_bestSet_42 rfl kX1_76 okX1_valueOf (CX1_valueOf a5 h L) oO18 rfl rfl rfl rfl (fun r4 h5 => ?_)
      refine g_istore (M := mX1_bestSet) (pc := 45) (ls' := [some (aR 4 18), some (aI a1), some (aI a2), some (aI a3), some (aI a4), some (aI a5), some (aI r3), some (aI r4)]) 47 dX1_bestSet_45 rfl rfl rfl ?_
      refine g_iload (M := mX1_bestSet) (pc := 47) 49 dX1_bestSet_47 rfl rfl ?_
      refine g_iload_n (M := mX1_bestSet) (pc := 49) 50 dX1_bestSet_49 rfl rfl rfl ?_
      refine g_icmp_gt (M := mX1_bestSet) (pc := 50) 66 53 dX1_bestSet_50 (by decide) rfl (fun _ => ?_) (fun _ => ?_)
      · exact g_fgt [true, true, false, false, false, true, true, true] (JX1_bestSet_66_ok a1 a5 r3 r4 T h5 L)
      · refine g_iload (M := mX1_bestSet) (pc := 53) 55 dX1_bestSet_53 rfl rfl ?_
        refine g_iload_n (M := mX1_bestSet) (pc := 55) 56 dX1_bestSet_55 rfl rfl rfl ?_
        refine g_icmp_ne (M := mX1_bestSet) (pc := 56) 76 59 dX1_bestSet_56 (by decide) rfl (fun _ => ?_) (fun _ => ?_)
        · refine g_iinc (M := mX1_bestSet) (pc := 76) (c := 1) (ls' := [some (aR 4 18), some (aI a1), some (aI a2), some (aI a3), some (aI a4), some (aI (a5 + 1)), some (aI r3), some (aI r4)]) 79 dX1_bestSet_76 rfl ic1 rfl rfl rfl ?_
          refine g_goto (M := mX1_bestSet) (pc := 79) 14 dX1_bestSet_79 (by decide) ?_
          exact g_jmp (fun z => v_fgt [true, true, true, true, true, true, false, false] z)
        · refine g_iload (M := mX1_bestSet) (pc := 59) 61 dX1_bestSet_59 rfl rfl ?_
          refine g_iload (M := mX1_bestSet) (pc := 61) 63 dX1_bestSet_61 rfl rfl ?_
          refine g_icmp_ge (M := mX1_bestSet) (pc := 63) 76 66 dX1_bestSet_63 (by decide) rfl (fun _ => ?_) (fun _ => ?_)
          · refine g_iinc (M := mX1_bestSet) (pc := 76) (c := 1) (ls' := [some (aR 4 18), some (aI a1), some (aI a2), some (aI a3), some (aI a4), some (aI (a5 + 1)), some (aI r3), some (aI r4)]) 79 dX1_bestSet_76 rfl ic1 rfl rfl rfl ?_
            refine g_goto (M := mX1_bestSet) (pc := 79) 14 dX1_bestSet_79 (by decide) ?_
            exact g_jmp (fun z => v_fgt [true, true, true, true, true, true, false, false] z)
          · exact g_fgt [true, true, false, false, false, true, true, true] (JX1_bestSet_66_ok a1 a5 r3 r4 T h5 L)
set_option maxRecDepth 100000 in
set_option maxHeartbeats 4000000 in
theorem CX1_bestSet (a1 : Int32) (h : HI) (L : HL) : CG mX1_bestSet 3 [aR 4 18, aI a1] h L (lfIH L) (FX1_bestSet a1 h) := by
  unfold FX1_bestSet
  refine cg_of [some (aR 4 18), some (aI a1), none, none, none, none, none, none] rfl (by decide) rfl rfl (fun T => ?_)
  refine g_iconst (M := mX1_bestSet) (pc := 0) (v := 0) 1 dX1_bestSet_0 rfl ic0 ?_
  refine g_istore_n (M := mX1_bestSet) (pc := 1) (ls' := [some (aR 4 18), some (aI a1), some (aI 0), none, none, none, none, none]) 2 dX1_bestSet_1 rfl rfl rfl rfl ?_
  refine g_aload_n (M := mX1_bestSet) (pc := 2) 3 dX1_bestSet_2 rfl rfl rfl ?_
  refine g_iconst (M := mX1_bestSet) (pc := 3) (v := 0) 4 dX1_bestSet_3 rfl ic0 ?_
  refine g_cV_IH (M := mX1_bestSet) (pc := 4) (M' := mX1_valueOf) (rest := []) 7 dX1_bestSet_4 rfl kX1_76 okX1_valueOf (CX1_valueOf 0 h L) oO18 rfl rfl rfl rfl (fun r1 h2 => ?_)
  refine g_istore_n (M := mX1_bestSet) (pc := 7) (ls' := [some (aR 4 18), some (aI a1), some (aI 0), some (aI r1), none, none, none, none]) 8 dX1_bestSet_7 rfl rfl rfl rfl ?_
  refine g_iconst (M := mX1_bestSet) (pc := 8) (v := 0) 9 dX1_bestSet_8 rfl ic0 ?_
  refine g_istore (M := mX1_bestSet) (pc := 9) (ls' := [some (aR 4 18), some (aI a1), some (aI 0), some (aI r1), some (aI 0), none, none, none]) 11 dX1_bestSet_9 rfl rfl rfl ?_
  refine g_iconst (M := mX1_bestSet) (pc := 11) (v := 1) 12 dX1_bestSet_11 rfl ic1 ?_
  refine g_istore (M := mX1_bestSet) (pc := 12) (ls' := [some (aR 4 18), some (aI a1), some (aI 0), some (aI r1), some (aI 0), some (aI 1), none, none]) 14 dX1_bestSet_12 rfl rfl rfl ?_
  refine g_loop (fun s => SX1_bestSet_14_ok a1 L T s.1 s.2.1 s.2.2.1 s.2.2.2.1 s.2.2.2.2) ?_ (fun z => v_fgt [true, true, true, true, true, true, false, false] z)
  rintro ⟨e6, h7⟩
  show VX mX1_bestSet 3 T _ 82 [none, none, some (aI e6), none, none, none, none, none] [] h7 L _
  refine g_iload_n (M := mX1_bestSet) (pc := 82) 83 dX1_bestSet_82 rfl rfl rfl ?_
  exact g_iret (M := mX1_bestSet) (pc := 83) dX1_bestSet_83 rfl rfl (fun z => z)
def JX1_fewestMinutes_31 (a1 : Int32) (a2 : Int32) (a3 : Int32) (a4 : Int32) (h : HI) : Option ((Int32 × Int32 × HI) ⊕ (Int32 × HI)) :=
  Option.bind (FX1_valueOf a3 h) fun (r2, h3) =>
  if r2 < a1 then
    some (Sum.inl (a2, (a3 + 1), h3))
  else
    some (Sum.inl (a4, (a3 + 1), h3))
def SX1_fewestMinutes_4 (a1 : Int32) : (Int32 × Int32 × HI) → Option ((Int32 × Int32 × HI) ⊕ (Int32 × HI))
  | (a2, a3, h) =>
    if (1 <<< ((h 4 18 7) &&& 31)) ≤ a3 then
      some (Sum.inr (a2, h))
    else
      Option.bind (FX1_minutesOf a3 h) fun r1 =>
      if a2 < 0 then
        JX1_fewestMinutes_31 a1 a2 a3 r1 h
      else
        if a2 ≤ r1 then
          some (Sum.inl (a2, (a3 + 1), h))
        else
          JX1_fewestMinutes_31 a1 a2 a3 r1 h
def FX1_fewestMinutes (a1 : Int32) (h : HI) : Option (Int32 × HI) :=
  Option.bind (loopN (SX1_fewestMinutes_4 a1) FU ((-1), 0, h)) fun (e4, h5) =>
    some (e4, h5)
set_option maxRecDepth 100000 in
set_option maxHeartbeats 4000000 in
theorem JX1_fewestMinutes_31_ok (a1 : Int32) (a2 : Int32) (a3 : Int32) (a4 : Int32) (T : ZT) (h : HI) (L : HL) : VX mX1_fewestMinutes 3 T (gS (fun s : Int32 × Int32 × HI => V mX1_fewestMinutes 3 T 4 [some (aR 4 18), some (aI a1), some (aI (s.1)), some (aI (s.2.1)), none] [] (s.2.2) L) (fun s : Int32 × HI => V mX1_fewestMinutes 3 T 49 [none, none, some (aI (s.1)), none, none] [] (s.2) L)) 31 [some (aR 4 18), some (aI a1), some (aI a2), some (aI a3), some (aI a4)] [] h L (JX1_fewestMinutes_31 a1 a2 a3 a4 h) := by
  unfold JX1_fewestMinutes_31
  refine g_aload_n (M := mX1_fewestMinutes) (pc := 31) 32 dX1_fewestMinutes_31 rfl rfl rfl ?_
  refine g_iload_n (M := mX1_fewestMinutes) (pc := 32) 33 dX1_fewestMinutes_32 rfl rfl rfl ?_
  refine g_cV_IH (M := mX1_fewestMinutes) (pc := 33) (M' := mX1_valueOf) (rest := []) 36 dX1_fewestMinutes_33 rfl kX1_76 okX1_valueOf (CX1_valueOf a3 h L) oO18 rfl rfl rfl rfl (fun r2 h3 => ?_)
  refine g_iload_n (M := mX1_fewestMinutes) (pc := 36) 37 dX1_fewestMinutes_36 rfl rfl rfl ?_
  refine g_icmp_lt (M := mX1_fewestMinutes) (pc := 37) 43 40 dX1_fewestMinutes_37 (by decide) rfl (fun _ => ?_) (fun _ => ?_)
  · refine g_iinc (M := mX1_fewestMinutes) (pc := 43) (c := 1) (ls' := [some (aR 4 18), some (aI a1), some (aI a2), some (aI (a3 + 1)), some (aI a4)]) 46 dX1_fewestMinutes_43 rfl ic1 rfl rfl rfl ?_
    refine g_goto (M := mX1_fewestMinutes) (pc := 46) 4 dX1_fewestMinutes_46 (by decide) ?_
    exact g_jmp (fun z => v_fgt [true, true, true, true, false] z)
  · refine g_iload (M := mX1_fewestMinutes) (pc := 40) 42 dX1_fewestMinutes_40 rfl rfl ?_
    refine g_istore_n (M := mX1_fewestMinutes) (pc := 42) (ls' := [some (aR 4 18), some (aI a1), some (aI a4), some (aI a3), some (aI a4)]) 43 dX1_fewestMinutes_42 rfl rfl rfl rfl ?_
    refine g_iinc (M := mX1_fewestMinutes) (pc := 43) (c := 1) (ls' := [some (aR 4 18), some (aI a1), some (aI a4), some (aI (a3 + 1)), some (aI a4)]) 46 dX1_fewestMinutes_43 rfl ic1 rfl rfl rfl ?_
    refine g_goto (M := mX1_fewestMinutes) (pc := 46) 4 dX1_fewestMinutes_46 (by decide) ?_
    exact g_jmp (fun z => v_fgt [true, true, true, true, false] z)
set_option maxRecDepth 100000 in
set_option maxHeartbeats 4000000 in
theorem SX1_fewestMinutes_4_ok (a1 : Int32) (L : HL) (T : ZT) (a2 : Int32) (a3 : Int32) (h : HI) : VX mX1_fewestMinutes 3 T (gS (fun s : Int32 × Int32 × HI => V mX1_fewestMinutes 3 T 4 [some (aR 4 18), some (aI a1), some (aI (s.1)), some (aI (s.2.1)), none] [] (s.2.2) L) (fun s : Int32 × HI => V mX1_fewestMinutes 3 T 49 [none, none, some (aI (s.1)), none, none] [] (s.2) L)) 4 [some (aR 4 18), some (aI a1), some (aI a2), some (aI a3), none] [] h L (SX1_fewestMinutes_4 a1 (a2, a3, h)) := by
  unfold SX1_fewestMinutes_4
  refine g_iload_n (M := mX1_fewestMinutes) (pc := 4) 5 dX1_fewestMinutes_4 rfl rfl rfl ?_
  refine g_iconst (M := mX1_fewestMinutes) (pc := 5) (v := 1) 6 dX1_fewestMinutes_5 rfl ic1 ?_
  refine g_aload_n (M := mX1_fewestMinutes) (pc := 6) 7 dX1_fewestMinutes_6 rfl rfl rfl ?_
  refine g_getI (M := mX1_fewestMinutes) (pc := 7) 10 dX1_fewestMinutes_7 rfl fX1_34 oF18_7 ?_
  refine g_ishl (M := mX1_fewestMinutes) (pc := 10) 11 dX1_fewestMinutes_10 rfl ?_
  refine g_icmp_ge (M := mX1_fewestMinutes) (pc := 11) 49 14 dX1_fewestMinutes_11 (by decide) rfl (fun _ => ?_) (fun _ => ?_)
  · exact g_jmp (fun z => v_fgt [false, false, true, false, false] z)
  · refine g_aload_n (M := mX1_fewestMinutes) (pc := 14) 15 dX1_fewestMinutes_14 rfl rfl rfl ?_
    refine g_iload_n (M := mX1_fewestMinutes) (pc := 15) 16 dX1_fewestMinutes_15 rfl rfl rfl ?_
    refine g_cV_I (M := mX1_fewestMinutes) (pc := 16) (M' := mX1_minutesOf) (rest := []) 19 dX1_fewestMinutes_16 rfl kX1_79 okX1_minutesOf (CX1_minutesOf a3 h L) oO18 rfl rfl rfl rfl (fun r1 => ?_)
    refine g_istore (M := mX1_fewestMinutes) (pc := 19) (ls' := [some (aR 4 18), some (aI a1), some (aI a2), some (aI a3), some (aI r1)]) 21 dX1_fewestMinutes_19 rfl rfl rfl ?_
    refine g_iload_n (M := mX1_fewestMinutes) (pc := 21) 22 dX1_fewestMinutes_21 rfl rfl rfl ?_
    refine g_if_lt (M := mX1_fewestMinutes) (pc := 22) 31 25 dX1_fewestMinutes_22 (by decide) rfl (fun _ => ?_) (fun _ => ?_)
    · exact g_fgt [true, true, true, true, true] (JX1_fewestMinutes_31_ok a1 a2 a3 r1 T h L)
    · refine g_iload (M := mX1_fewestMinutes) (pc := 25) 27 dX1_fewestMinutes_25 rfl rfl ?_
      refine g_iload_n (M := mX1_fewestMinutes) (pc := 27) 28 dX1_fewestMinutes_27 rfl rfl rfl ?_
      refine g_icmp_ge (M := mX1_fewestMinutes) (pc := 28) 43 31 dX1_fewestMinutes_28 (by decide) rfl (fun _ => ?_) (fun _ => ?_)
      · refine g_iinc (M := mX1_fewestMinutes) (pc := 43) (c := 1) (ls' := [some (aR 4 18), some (aI a1), some (aI a2), some (aI (a3 + 1)), some (aI r1)]) 46 dX1_fewestMinutes_43 rfl ic1 rfl rfl rfl ?_
        refine g_goto (M := mX1_fewestMinutes) (pc := 46) 4 dX1_fewestMinutes_46 (by decide) ?_
        exact g_jmp (fun z => v_fgt [true, true, true, true, false] z)
      · exact g_fgt [true, true, true, true, true] (JX1_fewestMinutes_31_ok a1 a2 a3 r1 T h L)
set_option maxRecDepth 100000 in
set_option maxHeartbeats 4000000 in
theorem CX1_fewestMinutes (a1 : Int32) (h : HI) (L : HL) : CG mX1_fewestMinutes 3 [aR 4 18, aI a1] h L (lfIH L) (FX1_fewestMinutes a1 h) := by
  unfold FX1_fewestMinutes
  refine cg_of [some (aR 4 18), some (aI a1), none, none, none] rfl (by decide) rfl rfl (fun T => ?_)
  refine g_iconst (M := mX1_fewestMinutes) (pc := 0) (v := (-1)) 1 dX1_fewestMinutes_0 rfl icm1 ?_
  refine g_istore_n (M := mX1_fewestMinutes) (pc := 1) (ls' := [some (aR 4 18), some (aI a1), some (aI (-1)), none, none]) 2 dX1_fewestMinutes_1 rfl rfl rfl rfl ?_
  refine g_iconst (M := mX1_fewestMinutes) (pc := 2) (v := 0) 3 dX1_fewestMinutes_2 rfl ic0 ?_
  refine g_istore_n (M := mX1_fewestMinutes) (pc := 3) (ls' := [some (aR 4 18), some (aI a1), some (aI (-1)), some (aI 0), none]) 4 dX1_fewestMinutes_3 rfl rfl rfl rfl ?_
  refine g_loop (fun s => SX1_fewestMinutes_4_ok a1 L T s.1 s.2.1 s.2.2) ?_ (fun z => v_fgt [true, true, true, true, false] z)
  rintro ⟨e4, h5⟩
  show VX mX1_fewestMinutes 3 T _ 49 [none, none, some (aI e4), none, none] [] h5 L _
  refine g_iload_n (M := mX1_fewestMinutes) (pc := 49) 50 dX1_fewestMinutes_49 rfl rfl rfl ?_
  exact g_iret (M := mX1_fewestMinutes) (pc := 50) dX1_fewestMinutes_50 rfl rfl (fun z => z)
def JX1_greedyStep_86 (a1 : Int32) (a2 : Int32) (a3 : Int32) (a4 : Int32) (a5 : Int32) (a6 : Int32) (s0 : Int32) (h : HI) : Option ((Int32 × Int32 × Int32 × HI) ⊕ (Int32 × HI)) :=
  if a3 < a6 then
    some (Sum.inl (a6, a5, (a5 + 1), h))
  else
    if s0 = 0 then
      some (Sum.inl (a3, a4, (a5 + 1), h))
    else
      some (Sum.inl (a6, a5, (a5 + 1), h))
def JX1_greedyStep_85 (a1 : Int32) (a2 : Int32) (a3 : Int32) (a4 : Int32) (a5 : Int32) (a6 : Int32) (h : HI) : Option ((Int32 × Int32 × Int32 × HI) ⊕ (Int32 × HI)) :=
  JX1_greedyStep_86 a1 a2 a3 a4 a5 a6 0 h
def SX1_greedyStep_12 (a1 : Int32) (a2 : Int32) : (Int32 × Int32 × Int32 × HI) → Option ((Int32 × Int32 × Int32 × HI) ⊕ (Int32 × HI))
  | (a3, a4, a5, h) =>
    if (h 4 18 7) ≤ a5 then
      some (Sum.inr (a4, h))
    else
      Option.bind (FX9_isIn a1 a5) fun r3 =>
      if r3 = 0 then
        gd (ixb a5 12) <|
        if a2 < (h 4 22 (nC a5)) then
          some (Sum.inl (a3, a4, (a5 + 1), h))
        else
          Option.bind (FX1_valueOf (a1 ||| (1 <<< (a5 &&& 31))) h) fun (r4, h5) =>
          if a4 < 0 then
            JX1_greedyStep_85 a1 a2 a3 a4 a5 r4 h5
          else
            if r4 = a3 then
              gd (ixb a5 12) <|
              gd (ixb a4 12) <|
              if (h5 4 22 (nC a4)) ≤ (h5 4 22 (nC a5)) then
                JX1_greedyStep_85 a1 a2 a3 a4 a5 r4 h5
              else
                JX1_greedyStep_86 a1 a2 a3 a4 a5 r4 1 h5
            else
              JX1_greedyStep_85 a1 a2 a3 a4 a5 r4 h5
      else
        some (Sum.inl (a3, a4, (a5 + 1), h))
def FX1_greedyStep (a1 : Int32) (a2 : Int32) (h : HI) : Option (Int32 × HI) :=
  Option.bind (FX1_valueOf a1 h) fun (r1, h2) =>
  Option.bind (loopN (SX1_greedyStep_12 a1 a2) FU (r1, (-1), 0, h2)) fun (e6, h7) =>
    some (e6, h7)
set_option maxRecDepth 100000 in
set_option maxHeartbeats 4000000 in
theorem JX1_greedyStep_86_ok (a1 : Int32) (a2 : Int32) (a3 : Int32) (a4 : Int32) (a5 : Int32) (a6 : Int32) (s0 : Int32) (T : ZT) (h : HI) (L : HL) : VX mX1_greedyStep 3 T (gS (fun s : Int32 × Int32 × Int32 × HI => V mX1_greedyStep 3 T 12 [some (aR 4 18), some (aI a1), some (aI a2), some (aI (s.1)), some (aI (s.2.1)), some (aI (s.2.2.1)), none, none] [] (s.2.2.2) L) (fun s : Int32 × HI => V mX1_greedyStep 3 T 112 [none, none, none, none, some (aI (s.1)), none, none, none] [] (s.2) L)) 86 [some (aR 4 18), some (aI a1), some (aI a2), some (aI a3), some (aI a4), some (aI a5), some (aI a6), none] [aI s0] h L (JX1_greedyStep_86 a1 a2 a3 a4 a5 a6 s0 h) := by
  unfold JX1_greedyStep_86
  refine g_istore (M := mX1_greedyStep) (pc := 86) (ls' := [some (aR 4 18), some (aI a1), some (aI a2), some (aI a3), some (aI a4), some (aI a5), some (aI a6), some (aI s0)]) 88 dX1_greedyStep_86 rfl rfl rfl ?_
  refine g_iload (M := mX1_greedyStep) (pc := 88) 90 dX1_greedyStep_88 rfl rfl ?_
  refine g_iload_n (M := mX1_greedyStep) (pc := 90) 91 dX1_greedyStep_90 rfl rfl rfl ?_
  refine g_icmp_gt (M := mX1_greedyStep) (pc := 91) 99 94 dX1_greedyStep_91 (by decide) rfl (fun _ => ?_) (fun _ => ?_)
  · refine g_iload (M := mX1_greedyStep) (pc := 99) 101 dX1_greedyStep_99 rfl rfl ?_
    refine g_istore_n (M := mX1_greedyStep) (pc := 101) (ls' := [some (aR 4 18), some (aI a1), some (aI a2), some (aI a6), some (aI a4), some (aI a5), some (aI a6), some (aI s0)]) 102 dX1_greedyStep_101 rfl rfl rfl rfl ?_
    refine g_iload (M := mX1_greedyStep) (pc := 102) 104 dX1_greedyStep_102 rfl rfl ?_
    refine g_istore (M := mX1_greedyStep) (pc := 104) (ls' := [some (aR 4 18), some (aI a1), some (aI a2), some (aI a6), some (aI a5), some (aI a5), some (aI a6), some (aI s0)]) 106 dX1_greedyStep_104 rfl rfl rfl ?_
    refine g_iinc (M := mX1_greedyStep) (pc := 106) (c := 1) (ls' := [some (aR 4 18), some (aI a1), some (aI a2), some (aI a6), some (aI a5), some (aI (a5 + 1)), some (aI a6), some (aI s0)]) 109 dX1_greedyStep_106 rfl ic1 rfl rfl rfl ?_
    refine g_goto (M := mX1_greedyStep) (pc := 109) 12 dX1_greedyStep_109 (by decide) ?_
    exact g_jmp (fun z => v_fgt [true, true, true, true, true, true, false, false] z)
  · refine g_iload (M := mX1_greedyStep) (pc := 94) 96 dX1_greedyStep_94 rfl rfl ?_
    refine g_if_eq (M := mX1_greedyStep) (pc := 96) 106 99 dX1_greedyStep_96 (by decide) rfl (fun _ => ?_) (fun _ => ?_)
    · refine g_iinc (M := mX1_greedyStep) (pc := 106) (c := 1) (ls' := [some (aR 4 18), some (aI a1), some (aI a2), some (aI a3), some (aI a4), some (aI (a5 + 1)), some (aI a6), some (aI s0)]) 109 dX1_greedyStep_106 rfl ic1 rfl rfl rfl ?_
      refine g_goto (M := mX1_greedyStep) (pc := 109) 12 dX1_greedyStep_109 (by decide) ?_
      exact g_jmp (fun z => v_fgt [true, true, true, true, true, true, false, false] z)
    · refine g_iload (M := mX1_greedyStep) (pc := 99) 101 dX1_greedyStep_99 rfl rfl ?_
      refine g_istore_n (M := mX1_greedyStep) (pc := 101) (ls' := [some (aR 4 18), some (aI a1), some (aI a2), some (aI a6), some (aI a4), some (aI a5), some (aI a6), some (aI s0)]) 102 dX1_greedyStep_101 rfl rfl rfl rfl ?_
      refine g_iload (M := mX1_greedyStep) (pc := 102) 104 dX1_greedyStep_102 rfl rfl ?_
      refine g_istore (M := mX1_greedyStep) (pc := 104) (ls' := [some (aR 4 18), some (aI a1), some (aI a2), some (aI a6), some (aI a5), some (aI a5), some (aI a6), some (aI s0)]) 106 dX1_greedyStep_104 rfl rfl rfl ?_
      refine g_iinc (M := mX1_greedyStep) (pc := 106) (c := 1) (ls' := [some (aR 4 18), some (aI a1), some (aI a2), some (aI a6), some (aI a5), some (aI (a5 + 1)), some (aI a6), some (aI s0)]) 109 dX1_greedyStep_106 rfl ic1 rfl rfl rfl ?_
      refine g_goto (M := mX1_greedyStep) (pc := 109) 12 dX1_greedyStep_109 (by decide) ?_
      exact g_jmp (fun z => v_fgt [true, true, true, true, true, true, false, false] z)
set_option maxRecDepth 100000 in
set_option maxHeartbeats 4000000 in
theorem JX1_greedyStep_85_ok (a1 : Int32) (a2 : Int32) (a3 : Int32) (a4 : Int32) (a5 : Int32) (a6 : Int32) (T : ZT) (h : HI) (L : HL) : VX mX1_greedyStep 3 T (gS (fun s : Int32 × Int32 × Int32 × HI => V mX1_greedyStep 3 T 12 [some (aR 4 18), some (aI a1), some (aI a2), some (aI (s.1)), some (aI (s.2.1)), some (aI (s.2.2.1)), none, none] [] (s.2.2.2) L) (fun s : Int32 × HI => V mX1_greedyStep 3 T 112 [none, none, none, none, some (aI (s.1)), none, none, none] [] (s.2) L)) 85 [some (aR 4 18), some (aI a1), some (aI a2), some (aI a3), some (aI a4), some (aI a5), some (aI a6), none] [] h L (JX1_greedyStep_85 a1 a2 a3 a4 a5 a6 h) := by
  unfold JX1_greedyStep_85
  refine g_iconst (M := mX1_greedyStep) (pc := 85) (v := 0) 86 dX1_greedyStep_85 rfl ic0 ?_
  exact g_fgt [true, true, true, true, true, true, true, false] (JX1_greedyStep_86_ok a1 a2 a3 a4 a5 a6 0 T h L)
set_option maxRecDepth 100000 in
set_option maxHeartbeats 4000000 in
theorem SX1_greedyStep_12_ok (a1 : Int32) (a2 : Int32) (L : HL) (T : ZT) (a3 : Int32) (a4 : Int32) (a5 : Int32) (h : HI) : VX mX1_greedyStep 3 T (gS (fun s : Int32 × Int32 × Int32 × HI => V mX1_greedyStep 3 T 12 [some (aR 4 18), some (aI a1), some (aI a2), some (aI (s.1)), some (aI (s.2.1)), some (aI (s.2.2.1)), none, none] [] (s.2.2.2) L) (fun s : Int32 × HI => V mX1_greedyStep 3 T 112 [none, none, none, none, some (aI (s.1)), none, none, none] [] (s.2) L)) 12 [some (aR 4 18), some (aI a1), some (aI a2), some (aI a3), some (aI a4), some (aI a5), none, none] [] h L (SX1_greedyStep_12 a1 a2 (a3, a4, a5, h)) := by
  unfold SX1_greedyStep_12
  refine g_iload (M := mX1_greedyStep) (pc := 12) 14 dX1_greedyStep_12 rfl rfl ?_
  refine g_aload_n (M := mX1_greedyStep) (pc := 14) 15 dX1_greedyStep_14 rfl rfl rfl ?_
  refine g_getI (M := mX1_greedyStep) (pc := 15) 18 dX1_greedyStep_15 rfl fX1_34 oF18_7 ?_
  refine g_icmp_ge (M := mX1_greedyStep) (pc := 18) 112 21 dX1_greedyStep_18 (by decide) rfl (fun _ => ?_) (fun _ => ?_)
  · exact g_jmp (fun z => v_fgt [false, false, false, false, true, false, false, false] z)
  · refine g_iload_n (M := mX1_greedyStep) (pc := 21) 22 dX1_greedyStep_21 rfl rfl rfl ?_
    refine g_iload (M := mX1_greedyStep) (pc := 22) 24 dX1_greedyStep_22 rfl rfl ?_
    refine g_cN_I (M := mX1_greedyStep) (pc := 24) (M' := mX9_isIn) (rest := []) 27 dX1_greedyStep_24 rfl nX1_73 okX9_isIn (CX9_isIn a1 a5 h L) rfl rfl rfl rfl (fun r3 => ?_)
    refine g_if_ne (M := mX1_greedyStep) (pc := 27) 106 30 dX1_greedyStep_27 (by decide) rfl (fun _ => ?_) (fun _ => ?_)
    · refine g_iinc (M := mX1_greedyStep) (pc := 106) (c := 1) (ls' := [some (aR 4 18), some (aI a1), some (aI a2), some (aI a3), some (aI a4), some (aI (a5 + 1)), none, none]) 109 dX1_greedyStep_106 rfl ic1 rfl rfl rfl ?_
      refine g_goto (M := mX1_greedyStep) (pc := 109) 12 dX1_greedyStep_109 (by decide) ?_
      exact g_jmp (fun z => v_fgt [true, true, true, true, true, true, false, false] z)
    · refine g_aload_n (M := mX1_greedyStep) (pc := 30) 31 dX1_greedyStep_30 rfl rfl rfl ?_
      refine g_getR (M := mX1_greedyStep) (pc := 31) 34 dX1_greedyStep_31 rfl fX1_21 oR18_3 ?_
      refine g_iload (M := mX1_greedyStep) (pc := 34) 36 dX1_greedyStep_34 rfl rfl ?_
      refine g_iald (M := mX1_greedyStep) (pc := 36) 37 dX1_greedyStep_36 rfl oA22 ?_
      refine g_iload_n (M := mX1_greedyStep) (pc := 37) 38 dX1_greedyStep_37 rfl rfl rfl ?_
      refine g_icmp_gt (M := mX1_greedyStep) (pc := 38) 106 41 dX1_greedyStep_38 (by decide) rfl (fun _ => ?_) (fun _ => ?_)
      · refine g_iinc (M := mX1_greedyStep) (pc := 106) (c := 1) (ls' := [some (aR 4 18), some (aI a1), some (aI a2), some (aI a3), some (aI a4), some (aI (a5 + 1)), none, none]) 109 dX1_greedyStep_106 rfl ic1 rfl rfl rfl ?_
        refine g_goto (M := mX1_greedyStep) (pc := 109) 12 dX1_greedyStep_109 (by decide) ?_
        exact g_jmp (fun z => v_fgt [true, true, true, true, true, true, false, false] z)
      · refine g_aload_n (M := mX1_greedyStep) (pc := 41) 42 dX1_greedyStep_41 rfl rfl rfl ?_
        refine g_iload_n (M := mX1_greedyStep) (pc := 42) 43 dX1_greedyStep_42 rfl rfl rfl ?_
        refine g_iconst (M := mX1_greedyStep) (pc := 43) (v := 1) 44 dX1_greedyStep_43 rfl ic1 ?_
        refine g_iload (M := mX1_greedyStep) (pc := 44) 46 dX1_greedyStep_44 rfl rfl ?_
        refine g_ishl (M := mX1_greedyStep) (pc := 46) 47 dX1_greedyStep_46 rfl ?_
        refine g_ior (M := mX1_greedyStep) (pc := 47) 48 dX1_greedyStep_47 rfl ?_
        refine g_cV_IH (M := mX1_greedyStep) (pc := 48) (M' := mX1_valueOf) (rest := []) 51 dX1_greedyStep_48 rfl kX1_76 okX1_valueOf (CX1_valueOf (a1 ||| (1 <<< (a5 &&& 31))) h L) oO18 rfl rfl rfl rfl (fun r4 h5 => ?_)
        refine g_istore (M := mX1_greedyStep) (pc := 51) (ls' := [some (aR 4 18), some (aI a1), some (aI a2), some (aI a3), some (aI a4), some (aI a5), some (aI r4), none]) 53 dX1_greedyStep_51 rfl rfl rfl ?_
        refine g_iload (M := mX1_greedyStep) (pc := 53) 55 dX1_greedyStep_53 rfl rfl ?_
        refine g_if_lt (M := mX1_greedyStep) (pc := 55) 85 58 dX1_greedyStep_55 (by decide) rfl (fun _ => ?_) (fun _ => ?_)
        · exact g_fgt [true, true, true, true, true, true, true, false] (JX1_greedyStep_85_ok a1 a2 a3 a4 a5 r4 T h5 L)
        · refine g_iload (M := mX1_greedyStep) (pc := 58) 60 dX1_greedyStep_58 rfl rfl ?_
          refine g_iload_n (M := mX1_greedyStep) (pc := 60) 61 dX1_greedyStep_60 rfl rfl rfl ?_
          refine g_icmp_ne (M := mX1_greedyStep) (pc := 61) 85 64 dX1_greedyStep_61 (by decide) rfl (fun _ => ?_) (fun _ => ?_)
          · exact g_fgt [true, true, true, true, true, true, true, false] (JX1_greedyStep_85_ok a1 a2 a3 a4 a5 r4 T h5 L)
          · refine g_aload_n (M := mX1_greedyStep) (pc := 64) 65 dX1_greedyStep_64 rfl rfl rfl ?_
            refine g_getR (M := mX1_greedyStep) (pc := 65) 68 dX1_greedyStep_65 rfl fX1_21 oR18_3 ?_
            refine g_iload (M := mX1_greedyStep) (pc := 68) 70 dX1_greedyStep_68 rfl rfl ?_
            refine g_iald (M := mX1_greedyStep) (pc := 70) 71 dX1_greedyStep_70 rfl oA22 ?_
            refine g_aload_n (M := mX1_greedyStep) (pc := 71) 72 dX1_greedyStep_71 rfl rfl rfl ?_
            refine g_getR (M := mX1_greedyStep) (pc := 72) 75 dX1_greedyStep_72 rfl fX1_21 oR18_3 ?_
            refine g_iload (M := mX1_greedyStep) (pc := 75) 77 dX1_greedyStep_75 rfl rfl ?_
            refine g_iald (M := mX1_greedyStep) (pc := 77) 78 dX1_greedyStep_77 rfl oA22 ?_
            refine g_icmp_ge (M := mX1_greedyStep) (pc := 78) 85 81 dX1_greedyStep_78 (by decide) rfl (fun _ => ?_) (fun _ => ?_)
            · exact g_fgt [true, true, true, true, true, true, true, false] (JX1_greedyStep_85_ok a1 a2 a3 a4 a5 r4 T h5 L)
            · refine g_iconst (M := mX1_greedyStep) (pc := 81) (v := 1) 82 dX1_greedyStep_81 rfl ic1 ?_
              refine g_goto (M := mX1_greedyStep) (pc := 82) 86 dX1_greedyStep_82 (by decide) ?_
              exact g_fgt [true, true, true, true, true, true, true, false] (JX1_greedyStep_86_ok a1 a2 a3 a4 a5 r4 1 T h5 L)
set_option maxRecDepth 100000 in
set_option maxHeartbeats 4000000 in
theorem CX1_greedyStep (a1 : Int32) (a2 : Int32) (h : HI) (L : HL) : CG mX1_greedyStep 3 [aR 4 18, aI a1, aI a2] h L (lfIH L) (FX1_greedyStep a1 a2 h) := by
  unfold FX1_greedyStep
  refine cg_of [some (aR 4 18), some (aI a1), some (aI a2), none, none, none, none, none] rfl (by decide) rfl rfl (fun T => ?_)
  refine g_aload_n (M := mX1_greedyStep) (pc := 0) 1 dX1_greedyStep_0 rfl rfl rfl ?_
  refine g_iload_n (M := mX1_greedyStep) (pc := 1) 2 dX1_greedyStep_1 rfl rfl rfl ?_
  refine g_cV_IH (M := mX1_greedyStep) (pc := 2) (M' := mX1_valueOf) (rest := []) 5 dX1_greedyStep_2 rfl kX1_76 okX1_valueOf (CX1_valueOf a1 h L) oO18 rfl rfl rfl rfl (fun r1 h2 => ?_)
  refine g_istore_n (M := mX1_greedyStep) (pc := 5) (ls' := [some (aR 4 18), some (aI a1), some (aI a2), some (aI r1), none, none, none, none]) 6 dX1_greedyStep_5 rfl rfl rfl rfl ?_
  refine g_iconst (M := mX1_greedyStep) (pc := 6) (v := (-1)) 7 dX1_greedyStep_6 rfl icm1 ?_
  refine g_istore (M := mX1_greedyStep) (pc := 7) (ls' := [some (aR 4 18), some (aI a1), some (aI a2), some (aI r1), some (aI (-1)), none, none, none]) 9 dX1_greedyStep_7 rfl rfl rfl ?_
  refine g_iconst (M := mX1_greedyStep) (pc := 9) (v := 0) 10 dX1_greedyStep_9 rfl ic0 ?_
  refine g_istore (M := mX1_greedyStep) (pc := 10) (ls' := [some (aR 4 18), some (aI a1), some (aI a2), some (aI r1), some (aI (-1)), some (aI 0), none, none]) 12 dX1_greedyStep_10 rfl rfl rfl ?_
  refine g_loop (fun s => SX1_greedyStep_12_ok a1 a2 L T s.1 s.2.1 s.2.2.1 s.2.2.2) ?_ (fun z => v_fgt [true, true, true, true, true, true, false, false] z)
  rintro ⟨e6, h7⟩
  show VX mX1_greedyStep 3 T _ 112 [none, none, none, none, some (aI e6), none, none, none] [] h7 L _
  refine g_iload (M := mX1_greedyStep) (pc := 112) 114 dX1_greedyStep_112 rfl rfl ?_
  exact g_iret (M := mX1_greedyStep) (pc := 114) dX1_greedyStep_114 rfl rfl (fun z => z)
def SX1_greedySet_7 : (Int32 × Int32 × Int32 × HI) → Option ((Int32 × Int32 × Int32 × HI) ⊕ (Int32 × HI))
  | (a2, a3, a4, h) =>
    if (h 4 18 7) ≤ a4 then
      some (Sum.inr (a2, h))
    else
      Option.bind (FX1_greedyStep a2 a3 h) fun (r1, h2) =>
      if 0 ≤ r1 then
        nm (a2 ||| (1 <<< (r1 &&& 31))) fun t3 =>
        gd (ixb r1 12) <|
        nm (a3 - (h2 4 22 (nC r1))) fun t4 =>
        some (Sum.inl (t3, t4, (a4 + 1), h2))
      else
        some (Sum.inr (a2, h2))
def FX1_greedySet (a1 : Int32) (h : HI) : Option (Int32 × HI) :=
  Option.bind (loopN (SX1_greedySet_7) FU (0, a1, 0, h)) fun r => some r
set_option maxRecDepth 100000 in
set_option maxHeartbeats 4000000 in
theorem SX1_greedySet_7_ok (L : HL) (T : ZT) (a2 : Int32) (a3 : Int32) (a4 : Int32) (h : HI) : VX mX1_greedySet 4 T (gS (fun s : Int32 × Int32 × Int32 × HI => V mX1_greedySet 4 T 7 [some (aR 4 18), none, some (aI (s.1)), some (aI (s.2.1)), some (aI (s.2.2.1)), none] [] (s.2.2.2) L) (fun r => Zl (lfIH L) r = T)) 7 [some (aR 4 18), none, some (aI a2), some (aI a3), some (aI a4), none] [] h L (SX1_greedySet_7 (a2, a3, a4, h)) := by
  unfold SX1_greedySet_7
  refine g_iload (M := mX1_greedySet) (pc := 7) 9 dX1_greedySet_7 rfl rfl ?_
  refine g_aload_n (M := mX1_greedySet) (pc := 9) 10 dX1_greedySet_9 rfl rfl rfl ?_
  refine g_getI (M := mX1_greedySet) (pc := 10) 13 dX1_greedySet_10 rfl fX1_34 oF18_7 ?_
  refine g_icmp_ge (M := mX1_greedySet) (pc := 13) 55 16 dX1_greedySet_13 (by decide) rfl (fun _ => ?_) (fun _ => ?_)
  · refine g_iload_n (M := mX1_greedySet) (pc := 55) 56 dX1_greedySet_55 rfl rfl rfl ?_
    exact g_iret (M := mX1_greedySet) (pc := 56) dX1_greedySet_56 rfl rfl (fun z => z)
  · refine g_aload_n (M := mX1_greedySet) (pc := 16) 17 dX1_greedySet_16 rfl rfl rfl ?_
    refine g_iload_n (M := mX1_greedySet) (pc := 17) 18 dX1_greedySet_17 rfl rfl rfl ?_
    refine g_iload_n (M := mX1_greedySet) (pc := 18) 19 dX1_greedySet_18 rfl rfl rfl ?_
    refine g_cV_IH (M := mX1_greedySet) (pc := 19) (M' := mX1_greedyStep) (rest := []) 22 dX1_greedySet_19 rfl kX1_82 okX1_greedyStep (CX1_greedyStep a2 a3 h L) oO18 rfl rfl rfl rfl (fun r1 h2 => ?_)
    refine g_istore (M := mX1_greedySet) (pc := 22) (ls' := [some (aR 4 18), none, some (aI a2), some (aI a3), some (aI a4), some (aI r1)]) 24 dX1_greedySet_22 rfl rfl rfl ?_
    refine g_iload (M := mX1_greedySet) (pc := 24) 26 dX1_greedySet_24 rfl rfl ?_
    refine g_if_ge (M := mX1_greedySet) (pc := 26) 32 29 dX1_greedySet_26 (by decide) rfl (fun _ => ?_) (fun _ => ?_)
    · refine g_iload_n (M := mX1_greedySet) (pc := 32) 33 dX1_greedySet_32 rfl rfl rfl ?_
      refine g_iconst (M := mX1_greedySet) (pc := 33) (v := 1) 34 dX1_greedySet_33 rfl ic1 ?_
      refine g_iload (M := mX1_greedySet) (pc := 34) 36 dX1_greedySet_34 rfl rfl ?_
      refine g_ishl (M := mX1_greedySet) (pc := 36) 37 dX1_greedySet_36 rfl ?_
      refine g_ior (M := mX1_greedySet) (pc := 37) 38 dX1_greedySet_37 rfl ?_
      refine g_nmI (fun t3 => ?_)
      refine g_istore_n (M := mX1_greedySet) (pc := 38) (ls' := [some (aR 4 18), none, some (aI t3), some (aI a3), some (aI a4), some (aI r1)]) 39 dX1_greedySet_38 rfl rfl rfl rfl ?_
      refine g_iload_n (M := mX1_greedySet) (pc := 39) 40 dX1_greedySet_39 rfl rfl rfl ?_
      refine g_aload_n (M := mX1_greedySet) (pc := 40) 41 dX1_greedySet_40 rfl rfl rfl ?_
      refine g_getR (M := mX1_greedySet) (pc := 41) 44 dX1_greedySet_41 rfl fX1_21 oR18_3 ?_
      refine g_iload (M := mX1_greedySet) (pc := 44) 46 dX1_greedySet_44 rfl rfl ?_
      refine g_iald (M := mX1_greedySet) (pc := 46) 47 dX1_greedySet_46 rfl oA22 ?_
      refine g_isub (M := mX1_greedySet) (pc := 47) 48 dX1_greedySet_47 rfl ?_
      refine g_nmI (fun t4 => ?_)
      refine g_istore_n (M := mX1_greedySet) (pc := 48) (ls' := [some (aR 4 18), none, some (aI t3), some (aI t4), some (aI a4), some (aI r1)]) 49 dX1_greedySet_48 rfl rfl rfl rfl ?_
      refine g_iinc (M := mX1_greedySet) (pc := 49) (c := 1) (ls' := [some (aR 4 18), none, some (aI t3), some (aI t4), some (aI (a4 + 1)), some (aI r1)]) 52 dX1_greedySet_49 rfl ic1 rfl rfl rfl ?_
      refine g_goto (M := mX1_greedySet) (pc := 52) 7 dX1_greedySet_52 (by decide) ?_
      exact g_jmp (fun z => v_fgt [true, false, true, true, true, false] z)
    · refine g_goto (M := mX1_greedySet) (pc := 29) 55 dX1_greedySet_29 (by decide) ?_
      refine g_iload_n (M := mX1_greedySet) (pc := 55) 56 dX1_greedySet_55 rfl rfl rfl ?_
      exact g_iret (M := mX1_greedySet) (pc := 56) dX1_greedySet_56 rfl rfl (fun z => z)
set_option maxRecDepth 100000 in
set_option maxHeartbeats 4000000 in
theorem CX1_greedySet (a1 : Int32) (h : HI) (L : HL) : CG mX1_greedySet 4 [aR 4 18, aI a1] h L (lfIH L) (FX1_greedySet a1 h) := by
  unfold FX1_greedySet
  refine cg_of [some (aR 4 18), some (aI a1), none, none, none, none] rfl (by decide) rfl rfl (fun T => ?_)
  refine g_iconst (M := mX1_greedySet) (pc := 0) (v := 0) 1 dX1_greedySet_0 rfl ic0 ?_
  refine g_istore_n (M := mX1_greedySet) (pc := 1) (ls' := [some (aR 4 18), some (aI a1), some (aI 0), none, none, none]) 2 dX1_greedySet_1 rfl rfl rfl rfl ?_
  refine g_iload_n (M := mX1_greedySet) (pc := 2) 3 dX1_greedySet_2 rfl rfl rfl ?_
  refine g_istore_n (M := mX1_greedySet) (pc := 3) (ls' := [some (aR 4 18), some (aI a1), some (aI 0), some (aI a1), none, none]) 4 dX1_greedySet_3 rfl rfl rfl rfl ?_
  refine g_iconst (M := mX1_greedySet) (pc := 4) (v := 0) 5 dX1_greedySet_4 rfl ic0 ?_
  refine g_istore (M := mX1_greedySet) (pc := 5) (ls' := [some (aR 4 18), some (aI a1), some (aI 0), some (aI a1), some (aI 0), none]) 7 dX1_greedySet_5 rfl rfl rfl ?_
  exact g_loop (fun s => SX1_greedySet_7_ok L T s.1 s.2.1 s.2.2.1 s.2.2.2) (fun e b z1 z2 => by cases z1; exact z2) (fun z => v_fgt [true, false, true, true, true, false] z)
def SX1_bringsMost_11 (a1 : Int32) : (Int32 × Int32 × Int32 × HI) → Option ((Int32 × Int32 × Int32 × HI) ⊕ (Int32 × HI))
  | (a2, a3, a4, h) =>
    if (h 4 18 7) ≤ a4 then
      some (Sum.inr (a3, h))
    else
      Option.bind (FX9_isIn a1 a4) fun r3 =>
      if r3 = 0 then
        Option.bind (FX1_valueOf (a1 ||| (1 <<< (a4 &&& 31))) h) fun (r4, h5) =>
        if r4 ≤ a2 then
          some (Sum.inl (a2, a3, (a4 + 1), h5))
        else
          some (Sum.inl (r4, a4, (a4 + 1), h5))
      else
        some (Sum.inl (a2, a3, (a4 + 1), h))
def FX1_bringsMost (a1 : Int32) (h : HI) : Option (Int32 × HI) :=
  Option.bind (FX1_valueOf a1 h) fun (r1, h2) =>
  Option.bind (loopN (SX1_bringsMost_11 a1) FU (r1, (-1), 0, h2)) fun (e6, h7) =>
    some (e6, h7)
set_option maxRecDepth 100000 in
set_option maxHeartbeats 4000000 in
theorem SX1_bringsMost_11_ok (a1 : Int32) (L : HL) (T : ZT) (a2 : Int32) (a3 : Int32) (a4 : Int32) (h : HI) : VX mX1_bringsMost 3 T (gS (fun s : Int32 × Int32 × Int32 × HI => V mX1_bringsMost 3 T 11 [some (aR 4 18), some (aI a1), some (aI (s.1)), some (aI (s.2.1)), some (aI (s.2.2.1)), none] [] (s.2.2.2) L) (fun s : Int32 × HI => V mX1_bringsMost 3 T 59 [none, none, none, some (aI (s.1)), none, none] [] (s.2) L)) 11 [some (aR 4 18), some (aI a1), some (aI a2), some (aI a3), some (aI a4), none] [] h L (SX1_bringsMost_11 a1 (a2, a3, a4, h)) := by
  unfold SX1_bringsMost_11
  refine g_iload (M := mX1_bringsMost) (pc := 11) 13 dX1_bringsMost_11 rfl rfl ?_
  refine g_aload_n (M := mX1_bringsMost) (pc := 13) 14 dX1_bringsMost_13 rfl rfl rfl ?_
  refine g_getI (M := mX1_bringsMost) (pc := 14) 17 dX1_bringsMost_14 rfl fX1_34 oF18_7 ?_
  refine g_icmp_ge (M := mX1_bringsMost) (pc := 17) 59 20 dX1_bringsMost_17 (by decide) rfl (fun _ => ?_) (fun _ => ?_)
  · exact g_jmp (fun z => v_fgt [false, false, false, true, false, false] z)
  · refine g_iload_n (M := mX1_bringsMost) (pc := 20) 21 dX1_bringsMost_20 rfl rfl rfl ?_
    refine g_iload (M := mX1_bringsMost) (pc := 21) 23 dX1_bringsMost_21 rfl rfl ?_
    refine g_cN_I (M := mX1_bringsMost) (pc := 23) (M' := mX9_isIn) (rest := []) 26 dX1_bringsMost_23 rfl nX1_73 okX9_isIn (CX9_isIn a1 a4 h L) rfl rfl rfl rfl (fun r3 => ?_)
    refine g_if_ne (M := mX1_bringsMost) (pc := 26) 53 29 dX1_bringsMost_26 (by decide) rfl (fun _ => ?_) (fun _ => ?_)
    · refine g_iinc (M := mX1_bringsMost) (pc := 53) (c := 1) (ls' := [some (aR 4 18), some (aI a1), some (aI a2), some (aI a3), some (aI (a4 + 1)), none]) 56 dX1_bringsMost_53 rfl ic1 rfl rfl rfl ?_
      refine g_goto (M := mX1_bringsMost) (pc := 56) 11 dX1_bringsMost_56 (by decide) ?_
      exact g_jmp (fun z => v_fgt [true, true, true, true, true, false] z)
    · refine g_aload_n (M := mX1_bringsMost) (pc := 29) 30 dX1_bringsMost_29 rfl rfl rfl ?_
      refine g_iload_n (M := mX1_bringsMost) (pc := 30) 31 dX1_bringsMost_30 rfl rfl rfl ?_
      refine g_iconst (M := mX1_bringsMost) (pc := 31) (v := 1) 32 dX1_bringsMost_31 rfl ic1 ?_
      refine g_iload (M := mX1_bringsMost) (pc := 32) 34 dX1_bringsMost_32 rfl rfl ?_
      refine g_ishl (M := mX1_bringsMost) (pc := 34) 35 dX1_bringsMost_34 rfl ?_
      refine g_ior (M := mX1_bringsMost) (pc := 35) 36 dX1_bringsMost_35 rfl ?_
      refine g_cV_IH (M := mX1_bringsMost) (pc := 36) (M' := mX1_valueOf) (rest := []) 39 dX1_bringsMost_36 rfl kX1_76 okX1_valueOf (CX1_valueOf (a1 ||| (1 <<< (a4 &&& 31))) h L) oO18 rfl rfl rfl rfl (fun r4 h5 => ?_)
      refine g_istore (M := mX1_bringsMost) (pc := 39) (ls' := [some (aR 4 18), some (aI a1), some (aI a2), some (aI a3), some (aI a4), some (aI r4)]) 41 dX1_bringsMost_39 rfl rfl rfl ?_
      refine g_iload (M := mX1_bringsMost) (pc := 41) 43 dX1_bringsMost_41 rfl rfl ?_
      refine g_iload_n (M := mX1_bringsMost) (pc := 43) 44 dX1_bringsMost_43 rfl rfl rfl ?_
      refine g_icmp_le (M := mX1_bringsMost) (pc := 44) 53 47 dX1_bringsMost_44 (by decide) rfl (fun _ => ?_) (fun _ => ?_)
      · refine g_iinc (M := mX1_bringsMost) (pc := 53) (c := 1) (ls' := [some (aR 4 18), some (aI a1), some (aI a2), some (aI a3), some (aI (a4 + 1)), some (aI r4)]) 56 dX1_bringsMost_53 rfl ic1 rfl rfl rfl ?_
        refine g_goto (M := mX1_bringsMost) (pc := 56) 11 dX1_bringsMost_56 (by decide) ?_
        exact g_jmp (fun z => v_fgt [true, true, true, true, true, false] z)
      · refine g_iload (M := mX1_bringsMost) (pc := 47) 49 dX1_bringsMost_47 rfl rfl ?_
        refine g_istore_n (M := mX1_bringsMost) (pc := 49) (ls' := [some (aR 4 18), some (aI a1), some (aI r4), some (aI a3), some (aI a4), some (aI r4)]) 50 dX1_bringsMost_49 rfl rfl rfl rfl ?_
        refine g_iload (M := mX1_bringsMost) (pc := 50) 52 dX1_bringsMost_50 rfl rfl ?_
        refine g_istore_n (M := mX1_bringsMost) (pc := 52) (ls' := [some (aR 4 18), some (aI a1), some (aI r4), some (aI a4), some (aI a4), some (aI r4)]) 53 dX1_bringsMost_52 rfl rfl rfl rfl ?_
        refine g_iinc (M := mX1_bringsMost) (pc := 53) (c := 1) (ls' := [some (aR 4 18), some (aI a1), some (aI r4), some (aI a4), some (aI (a4 + 1)), some (aI r4)]) 56 dX1_bringsMost_53 rfl ic1 rfl rfl rfl ?_
        refine g_goto (M := mX1_bringsMost) (pc := 56) 11 dX1_bringsMost_56 (by decide) ?_
        exact g_jmp (fun z => v_fgt [true, true, true, true, true, false] z)
set_option maxRecDepth 100000 in
set_option maxHeartbeats 4000000 in
theorem CX1_bringsMost (a1 : Int32) (h : HI) (L : HL) : CG mX1_bringsMost 3 [aR 4 18, aI a1] h L (lfIH L) (FX1_bringsMost a1 h) := by
  unfold FX1_bringsMost
  refine cg_of [some (aR 4 18), some (aI a1), none, none, none, none] rfl (by decide) rfl rfl (fun T => ?_)
  refine g_aload_n (M := mX1_bringsMost) (pc := 0) 1 dX1_bringsMost_0 rfl rfl rfl ?_
  refine g_iload_n (M := mX1_bringsMost) (pc := 1) 2 dX1_bringsMost_1 rfl rfl rfl ?_
  refine g_cV_IH (M := mX1_bringsMost) (pc := 2) (M' := mX1_valueOf) (rest := []) 5 dX1_bringsMost_2 rfl kX1_76 okX1_valueOf (CX1_valueOf a1 h L) oO18 rfl rfl rfl rfl (fun r1 h2 => ?_)
  refine g_istore_n (M := mX1_bringsMost) (pc := 5) (ls' := [some (aR 4 18), some (aI a1), some (aI r1), none, none, none]) 6 dX1_bringsMost_5 rfl rfl rfl rfl ?_
  refine g_iconst (M := mX1_bringsMost) (pc := 6) (v := (-1)) 7 dX1_bringsMost_6 rfl icm1 ?_
  refine g_istore_n (M := mX1_bringsMost) (pc := 7) (ls' := [some (aR 4 18), some (aI a1), some (aI r1), some (aI (-1)), none, none]) 8 dX1_bringsMost_7 rfl rfl rfl rfl ?_
  refine g_iconst (M := mX1_bringsMost) (pc := 8) (v := 0) 9 dX1_bringsMost_8 rfl ic0 ?_
  refine g_istore (M := mX1_bringsMost) (pc := 9) (ls' := [some (aR 4 18), some (aI a1), some (aI r1), some (aI (-1)), some (aI 0), none]) 11 dX1_bringsMost_9 rfl rfl rfl ?_
  refine g_loop (fun s => SX1_bringsMost_11_ok a1 L T s.1 s.2.1 s.2.2.1 s.2.2.2) ?_ (fun z => v_fgt [true, true, true, true, true, false] z)
  rintro ⟨e6, h7⟩
  show VX mX1_bringsMost 3 T _ 59 [none, none, none, some (aI e6), none, none] [] h7 L _
  refine g_iload_n (M := mX1_bringsMost) (pc := 59) 60 dX1_bringsMost_59 rfl rfl rfl ?_
  exact g_iret (M := mX1_bringsMost) (pc := 60) dX1_bringsMost_60 rfl rfl (fun z => z)
def SX1_leastMissed_7 (a1 : Int32) : (Int32 × Int32 × Int32 × HI) → Option ((Int32 × Int32 × Int32 × HI) ⊕ (Int32 × HI))
  | (a2, a3, a4, h) =>
    if (h 4 18 7) ≤ a4 then
      some (Sum.inr (a3, h))
    else
      Option.bind (FX9_isIn a1 a4) fun r1 =>
      if r1 = 0 then
        some (Sum.inl (a2, a3, (a4 + 1), h))
      else
        Option.bind (FX1_valueOf (a1 &&& ((1 <<< (a4 &&& 31)) ^^^ (-1))) h) fun (r2, h3) =>
        if r2 ≤ a2 then
          some (Sum.inl (a2, a3, (a4 + 1), h3))
        else
          some (Sum.inl (r2, a4, (a4 + 1), h3))
def FX1_leastMissed (a1 : Int32) (h : HI) : Option (Int32 × HI) :=
  Option.bind (loopN (SX1_leastMissed_7 a1) FU ((-1), (-1), 0, h)) fun (e4, h5) =>
    some (e4, h5)
set_option maxRecDepth 100000 in
set_option maxHeartbeats 4000000 in
theorem SX1_leastMissed_7_ok (a1 : Int32) (L : HL) (T : ZT) (a2 : Int32) (a3 : Int32) (a4 : Int32) (h : HI) : VX mX1_leastMissed 3 T (gS (fun s : Int32 × Int32 × Int32 × HI => V mX1_leastMissed 3 T 7 [some (aR 4 18), some (aI a1), some (aI (s.1)), some (aI (s.2.1)), some (aI (s.2.2.1)), none] [] (s.2.2.2) L) (fun s : Int32 × HI => V mX1_leastMissed 3 T 57 [none, none, none, some (aI (s.1)), none, none] [] (s.2) L)) 7 [some (aR 4 18), some (aI a1), some (aI a2), some (aI a3), some (aI a4), none] [] h L (SX1_leastMissed_7 a1 (a2, a3, a4, h)) := by
  unfold SX1_leastMissed_7
  refine g_iload (M := mX1_leastMissed) (pc := 7) 9 dX1_leastMissed_7 rfl rfl ?_
  refine g_aload_n (M := mX1_leastMissed) (pc := 9) 10 dX1_leastMissed_9 rfl rfl rfl ?_
  refine g_getI (M := mX1_leastMissed) (pc := 10) 13 dX1_leastMissed_10 rfl fX1_34 oF18_7 ?_
  refine g_icmp_ge (M := mX1_leastMissed) (pc := 13) 57 16 dX1_leastMissed_13 (by decide) rfl (fun _ => ?_) (fun _ => ?_)
  · exact g_jmp (fun z => v_fgt [false, false, false, true, false, false] z)
  · refine g_iload_n (M := mX1_leastMissed) (pc := 16) 17 dX1_leastMissed_16 rfl rfl rfl ?_
    refine g_iload (M := mX1_leastMissed) (pc := 17) 19 dX1_leastMissed_17 rfl rfl ?_
    refine g_cN_I (M := mX1_leastMissed) (pc := 19) (M' := mX9_isIn) (rest := []) 22 dX1_leastMissed_19 rfl nX1_73 okX9_isIn (CX9_isIn a1 a4 h L) rfl rfl rfl rfl (fun r1 => ?_)
    refine g_if_eq (M := mX1_leastMissed) (pc := 22) 51 25 dX1_leastMissed_22 (by decide) rfl (fun _ => ?_) (fun _ => ?_)
    · refine g_iinc (M := mX1_leastMissed) (pc := 51) (c := 1) (ls' := [some (aR 4 18), some (aI a1), some (aI a2), some (aI a3), some (aI (a4 + 1)), none]) 54 dX1_leastMissed_51 rfl ic1 rfl rfl rfl ?_
      refine g_goto (M := mX1_leastMissed) (pc := 54) 7 dX1_leastMissed_54 (by decide) ?_
      exact g_jmp (fun z => v_fgt [true, true, true, true, true, false] z)
    · refine g_aload_n (M := mX1_leastMissed) (pc := 25) 26 dX1_leastMissed_25 rfl rfl rfl ?_
      refine g_iload_n (M := mX1_leastMissed) (pc := 26) 27 dX1_leastMissed_26 rfl rfl rfl ?_
      refine g_iconst (M := mX1_leastMissed) (pc := 27) (v := 1) 28 dX1_leastMissed_27 rfl ic1 ?_
      refine g_iload (M := mX1_leastMissed) (pc := 28) 30 dX1_leastMissed_28 rfl rfl ?_
      refine g_ishl (M := mX1_leastMissed) (pc := 30) 31 dX1_leastMissed_30 rfl ?_
      refine g_iconst (M := mX1_leastMissed) (pc := 31) (v := (-1)) 32 dX1_leastMissed_31 rfl icm1 ?_
      refine g_ixor (M := mX1_leastMissed) (pc := 32) 33 dX1_leastMissed_32 rfl ?_
      refine g_iand (M := mX1_leastMissed) (pc := 33) 34 dX1_leastMissed_33 rfl ?_
      refine g_cV_IH (M := mX1_leastMissed) (pc := 34) (M' := mX1_valueOf) (rest := []) 37 dX1_leastMissed_34 rfl kX1_76 okX1_valueOf (CX1_valueOf (a1 &&& ((1 <<< (a4 &&& 31)) ^^^ (-1))) h L) oO18 rfl rfl rfl rfl (fun r2 h3 => ?_)
      refine g_istore (M := mX1_leastMissed) (pc := 37) (ls' := [some (aR 4 18), some (aI a1), some (aI a2), some (aI a3), some (aI a4), some (aI r2)]) 39 dX1_leastMissed_37 rfl rfl rfl ?_
      refine g_iload (M := mX1_leastMissed) (pc := 39) 41 dX1_leastMissed_39 rfl rfl ?_
      refine g_iload_n (M := mX1_leastMissed) (pc := 41) 42 dX1_leastMissed_41 rfl rfl rfl ?_
      refine g_icmp_le (M := mX1_leastMissed) (pc := 42) 51 45 dX1_leastMissed_42 (by decide) rfl (fun _ => ?_) (fun _ => ?_)
      · refine g_iinc (M := mX1_leastMissed) (pc := 51) (c := 1) (ls' := [some (aR 4 18), some (aI a1), some (aI a2), some (aI a3), some (aI (a4 + 1)), some (aI r2)]) 54 dX1_leastMissed_51 rfl ic1 rfl rfl rfl ?_
        refine g_goto (M := mX1_leastMissed) (pc := 54) 7 dX1_leastMissed_54 (by decide) ?_
        exact g_jmp (fun z => v_fgt [true, true, true, true, true, false] z)
      · refine g_iload (M := mX1_leastMissed) (pc := 45) 47 dX1_leastMissed_45 rfl rfl ?_
        refine g_istore_n (M := mX1_leastMissed) (pc := 47) (ls' := [some (aR 4 18), some (aI a1), some (aI r2), some (aI a3), some (aI a4), some (aI r2)]) 48 dX1_leastMissed_47 rfl rfl rfl rfl ?_
        refine g_iload (M := mX1_leastMissed) (pc := 48) 50 dX1_leastMissed_48 rfl rfl ?_
        refine g_istore_n (M := mX1_leastMissed) (pc := 50) (ls' := [some (aR 4 18), some (aI a1), some (aI r2), some (aI a4), some (aI a4), some (aI r2)]) 51 dX1_leastMissed_50 rfl rfl rfl rfl ?_
        refine g_iinc (M := mX1_leastMissed) (pc := 51) (c := 1) (ls' := [some (aR 4 18), some (aI a1), some (aI r2), some (aI a4), some (aI (a4 + 1)), some (aI r2)]) 54 dX1_leastMissed_51 rfl ic1 rfl rfl rfl ?_
        refine g_goto (M := mX1_leastMissed) (pc := 54) 7 dX1_leastMissed_54 (by decide) ?_
        exact g_jmp (fun z => v_fgt [true, true, true, true, true, false] z)
set_option maxRecDepth 100000 in
set_option maxHeartbeats 4000000 in
theorem CX1_leastMissed (a1 : Int32) (h : HI) (L : HL) : CG mX1_leastMissed 3 [aR 4 18, aI a1] h L (lfIH L) (FX1_leastMissed a1 h) := by
  unfold FX1_leastMissed
  refine cg_of [some (aR 4 18), some (aI a1), none, none, none, none] rfl (by decide) rfl rfl (fun T => ?_)
  refine g_iconst (M := mX1_leastMissed) (pc := 0) (v := (-1)) 1 dX1_leastMissed_0 rfl icm1 ?_
  refine g_istore_n (M := mX1_leastMissed) (pc := 1) (ls' := [some (aR 4 18), some (aI a1), some (aI (-1)), none, none, none]) 2 dX1_leastMissed_1 rfl rfl rfl rfl ?_
  refine g_iconst (M := mX1_leastMissed) (pc := 2) (v := (-1)) 3 dX1_leastMissed_2 rfl icm1 ?_
  refine g_istore_n (M := mX1_leastMissed) (pc := 3) (ls' := [some (aR 4 18), some (aI a1), some (aI (-1)), some (aI (-1)), none, none]) 4 dX1_leastMissed_3 rfl rfl rfl rfl ?_
  refine g_iconst (M := mX1_leastMissed) (pc := 4) (v := 0) 5 dX1_leastMissed_4 rfl ic0 ?_
  refine g_istore (M := mX1_leastMissed) (pc := 5) (ls' := [some (aR 4 18), some (aI a1), some (aI (-1)), some (aI (-1)), some (aI 0), none]) 7 dX1_leastMissed_5 rfl rfl rfl ?_
  refine g_loop (fun s => SX1_leastMissed_7_ok a1 L T s.1 s.2.1 s.2.2.1 s.2.2.2) ?_ (fun z => v_fgt [true, true, true, true, true, false] z)
  rintro ⟨e4, h5⟩
  show VX mX1_leastMissed 3 T _ 57 [none, none, none, some (aI e4), none, none] [] h5 L _
  refine g_iload_n (M := mX1_leastMissed) (pc := 57) 58 dX1_leastMissed_57 rfl rfl rfl ?_
  exact g_iret (M := mX1_leastMissed) (pc := 58) dX1_leastMissed_58 rfl rfl (fun z => z)
def FX7_isLetter (a1 : Int32) (h : HI) : Option (Int32) :=
  gd (ixb a1 120) <|
  if (h 5 27 (nC a1)) < 97 then
    some 0
  else
    gd (ixb a1 120) <|
    if 122 < (h 5 27 (nC a1)) then
      some 0
    else
      some 1
set_option maxRecDepth 100000 in
set_option maxHeartbeats 4000000 in
theorem CX7_isLetter (a1 : Int32) (h : HI) (L : HL) : CG mX7_isLetter 0 [aR 5 26, aI a1] h L (lfI h L) (FX7_isLetter a1 h) := by
  unfold FX7_isLetter
  refine cg_of [some (aR 5 26), some (aI a1)] rfl (by decide) rfl rfl (fun T => ?_)
  refine g_aload_n (M := mX7_isLetter) (pc := 0) 1 dX7_isLetter_0 rfl rfl rfl ?_
  refine g_getR (M := mX7_isLetter) (pc := 1) 4 dX7_isLetter_1 rfl fX7_9 oR26_0 ?_
  refine g_iload_n (M := mX7_isLetter) (pc := 4) 5 dX7_isLetter_4 rfl rfl rfl ?_
  refine g_iald (M := mX7_isLetter) (pc := 5) 6 dX7_isLetter_5 rfl oA27 ?_
  refine g_bipush (M := mX7_isLetter) (pc := 6) (v := 97) 8 dX7_isLetter_6 rfl bp97 ?_
  refine g_icmp_lt (M := mX7_isLetter) (pc := 8) 26 11 dX7_isLetter_8 (by decide) rfl (fun _ => ?_) (fun _ => ?_)
  · refine g_iconst (M := mX7_isLetter) (pc := 26) (v := 0) 27 dX7_isLetter_26 rfl ic0 ?_
    exact g_iret (M := mX7_isLetter) (pc := 27) dX7_isLetter_27 rfl nz0 (fun z => z)
  · refine g_aload_n (M := mX7_isLetter) (pc := 11) 12 dX7_isLetter_11 rfl rfl rfl ?_
    refine g_getR (M := mX7_isLetter) (pc := 12) 15 dX7_isLetter_12 rfl fX7_9 oR26_0 ?_
    refine g_iload_n (M := mX7_isLetter) (pc := 15) 16 dX7_isLetter_15 rfl rfl rfl ?_
    refine g_iald (M := mX7_isLetter) (pc := 16) 17 dX7_isLetter_16 rfl oA27 ?_
    refine g_bipush (M := mX7_isLetter) (pc := 17) (v := 122) 19 dX7_isLetter_17 rfl bp122 ?_
    refine g_icmp_gt (M := mX7_isLetter) (pc := 19) 26 22 dX7_isLetter_19 (by decide) rfl (fun _ => ?_) (fun _ => ?_)
    · refine g_iconst (M := mX7_isLetter) (pc := 26) (v := 0) 27 dX7_isLetter_26 rfl ic0 ?_
      exact g_iret (M := mX7_isLetter) (pc := 27) dX7_isLetter_27 rfl nz0 (fun z => z)
    · refine g_iconst (M := mX7_isLetter) (pc := 22) (v := 1) 23 dX7_isLetter_22 rfl ic1 ?_
      refine g_goto (M := mX7_isLetter) (pc := 23) 27 dX7_isLetter_23 (by decide) ?_
      exact g_iret (M := mX7_isLetter) (pc := 27) dX7_isLetter_27 rfl nz1 (fun z => z)
def FX7_isDigit (a1 : Int32) (h : HI) : Option (Int32) :=
  gd (ixb a1 120) <|
  if (h 5 27 (nC a1)) < 48 then
    some 0
  else
    gd (ixb a1 120) <|
    if 57 < (h 5 27 (nC a1)) then
      some 0
    else
      some 1
set_option maxRecDepth 100000 in
set_option maxHeartbeats 4000000 in
theorem CX7_isDigit (a1 : Int32) (h : HI) (L : HL) : CG mX7_isDigit 0 [aR 5 26, aI a1] h L (lfI h L) (FX7_isDigit a1 h) := by
  unfold FX7_isDigit
  refine cg_of [some (aR 5 26), some (aI a1)] rfl (by decide) rfl rfl (fun T => ?_)
  refine g_aload_n (M := mX7_isDigit) (pc := 0) 1 dX7_isDigit_0 rfl rfl rfl ?_
  refine g_getR (M := mX7_isDigit) (pc := 1) 4 dX7_isDigit_1 rfl fX7_9 oR26_0 ?_
  refine g_iload_n (M := mX7_isDigit) (pc := 4) 5 dX7_isDigit_4 rfl rfl rfl ?_
  refine g_iald (M := mX7_isDigit) (pc := 5) 6 dX7_isDigit_5 rfl oA27 ?_
  refine g_bipush (M := mX7_isDigit) (pc := 6) (v := 48) 8 dX7_isDigit_6 rfl bp48 ?_
  refine g_icmp_lt (M := mX7_isDigit) (pc := 8) 26 11 dX7_isDigit_8 (by decide) rfl (fun _ => ?_) (fun _ => ?_)
  · refine g_iconst (M := mX7_isDigit) (pc := 26) (v := 0) 27 dX7_isDigit_26 rfl ic0 ?_
    exact g_iret (M := mX7_isDigit) (pc := 27) dX7_isDigit_27 rfl nz0 (fun z => z)
  · refine g_aload_n (M := mX7_isDigit) (pc := 11) 12 dX7_isDigit_11 rfl rfl rfl ?_
    refine g_getR (M := mX7_isDigit) (pc := 12) 15 dX7_isDigit_12 rfl fX7_9 oR26_0 ?_
    refine g_iload_n (M := mX7_isDigit) (pc := 15) 16 dX7_isDigit_15 rfl rfl rfl ?_
    refine g_iald (M := mX7_isDigit) (pc := 16) 17 dX7_isDigit_16 rfl oA27 ?_
    refine g_bipush (M := mX7_isDigit) (pc := 17) (v := 57) 19 dX7_isDigit_17 rfl bp57 ?_
    refine g_icmp_gt (M := mX7_isDigit) (pc := 19) 26 22 dX7_isDigit_19 (by decide) rfl (fun _ => ?_) (fun _ => ?_)
    · refine g_iconst (M := mX7_isDigit) (pc := 26) (v := 0) 27 dX7_isDigit_26 rfl ic0 ?_
      exact g_iret (M := mX7_isDigit) (pc := 27) dX7_isDigit_27 rfl nz0 (fun z => z)
    · refine g_iconst (M := mX7_isDigit) (pc := 22) (v := 1) 23 dX7_isDigit_22 rfl ic1 ?_
      refine g_goto (M := mX7_isDigit) (pc := 23) 27 dX7_isDigit_23 (by decide) ?_
      exact g_iret (M := mX7_isDigit) (pc := 27) dX7_isDigit_27 rfl nz1 (fun z => z)
def SX7_advance_8 : HI → Option ((HI) ⊕ (HI))
  | h =>
    if (h 5 26 1) ≤ (h 5 26 3) then
      some (Sum.inr h)
    else
      gd (ixb (h 5 26 3) 120) <|
      if (h 5 27 (nC (h 5 26 3))) = 32 then
        nm (hP1 h 5 26 3 ((h 5 26 3) + 1)) fun h2 =>
        some (Sum.inl h2)
      else
        some (Sum.inr h)
def JX7_advance_230 (s1 : Int32) (h : HI) : Option (HI) :=
  nm (hP1 h 5 26 2 s1) fun h7 =>
  nm (hP1 h7 5 26 5 ((h7 5 26 3) + 1)) fun h8 =>
  some h8
def SX7_advance_145 : HI → Option ((HI) ⊕ (HI))
  | h =>
    if (h 5 26 1) ≤ (h 5 26 5) then
      some (Sum.inr h)
    else
      Option.bind (FX7_isDigit (h 5 26 5) h) fun r11 =>
      if r11 = 0 then
        some (Sum.inr h)
      else
        gd (ixb (h 5 26 5) 120) <|
        nm (hP1 h 5 26 4 (if ((((h 5 26 4) * 10) + (h 5 27 (nC (h 5 26 5)))) - 48) < 1000 then ((((h 5 26 4) * 10) + (h 5 27 (nC (h 5 26 5)))) - 48) else 1000)) fun h12 =>
        nm (hP1 h12 5 26 5 ((h12 5 26 5) + 1)) fun h13 =>
        some (Sum.inl h13)
def SX7_advance_89 : HI → Option ((HI) ⊕ (HI))
  | h =>
    if (h 5 26 1) ≤ (h 5 26 5) then
      some (Sum.inr h)
    else
      Option.bind (FX7_isLetter (h 5 26 5) h) fun r16 =>
      if r16 = 0 then
        some (Sum.inr h)
      else
        nm (hP1 h 5 26 5 ((h 5 26 5) + 1)) fun h17 =>
        some (Sum.inl h17)
def JX7_advance_46 (h : HI) : Option (HI) :=
  nm (hP1 h 5 26 5 (h 5 26 3)) fun h4 =>
  if (h4 5 26 3) < (h4 5 26 1) then
    Option.bind (FX7_isLetter (h4 5 26 3) h4) fun r5 =>
    if r5 = 0 then
      Option.bind (FX7_isDigit (h4 5 26 3) h4) fun r6 =>
      if r6 = 0 then
        gd (ixb (h4 5 26 3) 120) <|
        if (h4 5 27 (nC (h4 5 26 3))) = 59 then
          JX7_advance_230 3 h4
        else
          JX7_advance_230 4 h4
      else
        nm (hP1 h4 5 26 2 2) fun h9 =>
        nm (hP1 h9 5 26 4 0) fun h10 =>
        Option.bind (loopN (SX7_advance_145) FU h10) fun h14 =>
          some h14
    else
      nm (hP1 h4 5 26 2 1) fun h15 =>
      Option.bind (loopN (SX7_advance_89) FU h15) fun h18 =>
        some h18
  else
    nm (hP1 h4 5 26 2 0) fun h19 =>
    some h19
def FX7_advance (h : HI) : Option (HI) :=
  nm (hP1 h 5 26 3 (h 5 26 5)) fun h1 =>
  Option.bind (loopN (SX7_advance_8) FU h1) fun h3 =>
    JX7_advance_46 h3
set_option maxRecDepth 100000 in
set_option maxHeartbeats 4000000 in
theorem SX7_advance_8_ok (L : HL) (T : ZT) (h : HI) : VX mX7_advance 1 T (gS (fun s : HI => V mX7_advance 1 T 8 [some (aR 5 26)] [] s L) (fun s : HI => V mX7_advance 1 T 46 [some (aR 5 26)] [] s L)) 8 [some (aR 5 26)] [] h L (SX7_advance_8 h) := by
  unfold SX7_advance_8
  refine g_aload_n (M := mX7_advance) (pc := 8) 9 dX7_advance_8 rfl rfl rfl ?_
  refine g_getI (M := mX7_advance) (pc := 9) 12 dX7_advance_9 rfl fX7_20 oF26_3 ?_
  refine g_aload_n (M := mX7_advance) (pc := 12) 13 dX7_advance_12 rfl rfl rfl ?_
  refine g_getI (M := mX7_advance) (pc := 13) 16 dX7_advance_13 rfl fX7_13 oF26_1 ?_
  refine g_icmp_ge (M := mX7_advance) (pc := 16) 46 19 dX7_advance_16 (by decide) rfl (fun _ => ?_) (fun _ => ?_)
  · exact g_jmp (fun z => v_fgt [true] z)
  · refine g_aload_n (M := mX7_advance) (pc := 19) 20 dX7_advance_19 rfl rfl rfl ?_
    refine g_getR (M := mX7_advance) (pc := 20) 23 dX7_advance_20 rfl fX7_9 oR26_0 ?_
    refine g_aload_n (M := mX7_advance) (pc := 23) 24 dX7_advance_23 rfl rfl rfl ?_
    refine g_getI (M := mX7_advance) (pc := 24) 27 dX7_advance_24 rfl fX7_20 oF26_3 ?_
    refine g_iald (M := mX7_advance) (pc := 27) 28 dX7_advance_27 rfl oA27 ?_
    refine g_bipush (M := mX7_advance) (pc := 28) (v := 32) 30 dX7_advance_28 rfl bp32 ?_
    refine g_icmp_ne (M := mX7_advance) (pc := 30) 46 33 dX7_advance_30 (by decide) rfl (fun _ => ?_) (fun _ => ?_)
    · exact g_jmp (fun z => v_fgt [true] z)
    · refine g_aload_n (M := mX7_advance) (pc := 33) 34 dX7_advance_33 rfl rfl rfl ?_
      refine g_dup (M := mX7_advance) (pc := 34) 35 dX7_advance_34 rfl rfl ?_
      refine g_getI (M := mX7_advance) (pc := 35) 38 dX7_advance_35 rfl fX7_20 oF26_3 ?_
      refine g_iconst (M := mX7_advance) (pc := 38) (v := 1) 39 dX7_advance_38 rfl ic1 ?_
      refine g_iadd (M := mX7_advance) (pc := 39) 40 dX7_advance_39 rfl ?_
      refine g_put (M := mX7_advance) (pc := 40) 43 dX7_advance_40 rfl pX7_20 oF26_3 rfl rfl (fun h2 => ?_)
      refine g_goto (M := mX7_advance) (pc := 43) 8 dX7_advance_43 (by decide) ?_
      exact g_jmp (fun z => v_fgt [true] z)
set_option maxRecDepth 100000 in
set_option maxHeartbeats 4000000 in
theorem JX7_advance_230_ok (s1 : Int32) (T : ZT) (h : HI) (L : HL) : VX mX7_advance 1 T (fun r => Zl (lfVH L) r = T) 230 [some (aR 5 26)] [aI s1, aR 5 26] h L (JX7_advance_230 s1 h) := by
  unfold JX7_advance_230
  refine g_put (M := mX7_advance) (pc := 230) 233 dX7_advance_230 rfl pX7_17 oF26_2 rfl rfl (fun h7 => ?_)
  refine g_aload_n (M := mX7_advance) (pc := 233) 234 dX7_advance_233 rfl rfl rfl ?_
  refine g_aload_n (M := mX7_advance) (pc := 234) 235 dX7_advance_234 rfl rfl rfl ?_
  refine g_getI (M := mX7_advance) (pc := 235) 238 dX7_advance_235 rfl fX7_20 oF26_3 ?_
  refine g_iconst (M := mX7_advance) (pc := 238) (v := 1) 239 dX7_advance_238 rfl ic1 ?_
  refine g_iadd (M := mX7_advance) (pc := 239) 240 dX7_advance_239 rfl ?_
  refine g_put (M := mX7_advance) (pc := 240) 243 dX7_advance_240 rfl pX7_26 oF26_5 rfl rfl (fun h8 => ?_)
  exact g_vret (M := mX7_advance) (pc := 243) dX7_advance_243 rfl (fun z => z)
set_option maxRecDepth 100000 in
set_option maxHeartbeats 4000000 in
theorem SX7_advance_145_ok (L : HL) (T : ZT) (h : HI) : VX mX7_advance 1 T (gS (fun s : HI => V mX7_advance 1 T 145 [some (aR 5 26)] [] s L) (fun s : HI => V mX7_advance 1 T 243 [none] [] s L)) 145 [some (aR 5 26)] [] h L (SX7_advance_145 h) := by
  unfold SX7_advance_145
  refine g_aload_n (M := mX7_advance) (pc := 145) 146 dX7_advance_145 rfl rfl rfl ?_
  refine g_getI (M := mX7_advance) (pc := 146) 149 dX7_advance_146 rfl fX7_26 oF26_5 ?_
  refine g_aload_n (M := mX7_advance) (pc := 149) 150 dX7_advance_149 rfl rfl rfl ?_
  refine g_getI (M := mX7_advance) (pc := 150) 153 dX7_advance_150 rfl fX7_13 oF26_1 ?_
  refine g_icmp_ge (M := mX7_advance) (pc := 153) 243 156 dX7_advance_153 (by decide) rfl (fun _ => ?_) (fun _ => ?_)
  · exact g_jmp (fun z => v_fgt [false] z)
  · refine g_aload_n (M := mX7_advance) (pc := 156) 157 dX7_advance_156 rfl rfl rfl ?_
    refine g_aload_n (M := mX7_advance) (pc := 157) 158 dX7_advance_157 rfl rfl rfl ?_
    refine g_getI (M := mX7_advance) (pc := 158) 161 dX7_advance_158 rfl fX7_26 oF26_5 ?_
    refine g_cV_I (M := mX7_advance) (pc := 161) (M' := mX7_isDigit) (rest := []) 164 dX7_advance_161 rfl kX7_36 okX7_isDigit (CX7_isDigit (h 5 26 5) h L) oO26 rfl rfl rfl rfl (fun r11 => ?_)
    refine g_if_eq (M := mX7_advance) (pc := 164) 243 167 dX7_advance_164 (by decide) rfl (fun _ => ?_) (fun _ => ?_)
    · exact g_jmp (fun z => v_fgt [false] z)
    · refine g_aload_n (M := mX7_advance) (pc := 167) 168 dX7_advance_167 rfl rfl rfl ?_
      refine g_sipush (M := mX7_advance) (pc := 168) (v := 1000) 171 dX7_advance_168 rfl sp1000 ?_
      refine g_aload_n (M := mX7_advance) (pc := 171) 172 dX7_advance_171 rfl rfl rfl ?_
      refine g_getI (M := mX7_advance) (pc := 172) 175 dX7_advance_172 rfl fX7_23 oF26_4 ?_
      refine g_bipush (M := mX7_advance) (pc := 175) (v := 10) 177 dX7_advance_175 rfl bp10 ?_
      refine g_imul (M := mX7_advance) (pc := 177) 178 dX7_advance_177 rfl ?_
      refine g_aload_n (M := mX7_advance) (pc := 178) 179 dX7_advance_178 rfl rfl rfl ?_
      refine g_getR (M := mX7_advance) (pc := 179) 182 dX7_advance_179 rfl fX7_9 oR26_0 ?_
      refine g_aload_n (M := mX7_advance) (pc := 182) 183 dX7_advance_182 rfl rfl rfl ?_
      refine g_getI (M := mX7_advance) (pc := 183) 186 dX7_advance_183 rfl fX7_26 oF26_5 ?_
      refine g_iald (M := mX7_advance) (pc := 186) 187 dX7_advance_186 rfl oA27 ?_
      refine g_iadd (M := mX7_advance) (pc := 187) 188 dX7_advance_187 rfl ?_
      refine g_bipush (M := mX7_advance) (pc := 188) (v := 48) 190 dX7_advance_188 rfl bp48 ?_
      refine g_isub (M := mX7_advance) (pc := 190) 191 dX7_advance_190 rfl ?_
      refine g_min (M := mX7_advance) (pc := 191) 194 dX7_advance_191 rfl kX7_39 rfl rfl ?_
      refine g_put (M := mX7_advance) (pc := 194) 197 dX7_advance_194 rfl pX7_23 oF26_4 rfl rfl (fun h12 => ?_)
      refine g_aload_n (M := mX7_advance) (pc := 197) 198 dX7_advance_197 rfl rfl rfl ?_
      refine g_dup (M := mX7_advance) (pc := 198) 199 dX7_advance_198 rfl rfl ?_
      refine g_getI (M := mX7_advance) (pc := 199) 202 dX7_advance_199 rfl fX7_26 oF26_5 ?_
      refine g_iconst (M := mX7_advance) (pc := 202) (v := 1) 203 dX7_advance_202 rfl ic1 ?_
      refine g_iadd (M := mX7_advance) (pc := 203) 204 dX7_advance_203 rfl ?_
      refine g_put (M := mX7_advance) (pc := 204) 207 dX7_advance_204 rfl pX7_26 oF26_5 rfl rfl (fun h13 => ?_)
      refine g_goto (M := mX7_advance) (pc := 207) 145 dX7_advance_207 (by decide) ?_
      exact g_jmp (fun z => v_fgt [true] z)
set_option maxRecDepth 100000 in
set_option maxHeartbeats 4000000 in
theorem SX7_advance_89_ok (L : HL) (T : ZT) (h : HI) : VX mX7_advance 1 T (gS (fun s : HI => V mX7_advance 1 T 89 [some (aR 5 26)] [] s L) (fun s : HI => V mX7_advance 1 T 243 [none] [] s L)) 89 [some (aR 5 26)] [] h L (SX7_advance_89 h) := by
  unfold SX7_advance_89
  refine g_aload_n (M := mX7_advance) (pc := 89) 90 dX7_advance_89 rfl rfl rfl ?_
  refine g_getI (M := mX7_advance) (pc := 90) 93 dX7_advance_90 rfl fX7_26 oF26_5 ?_
  refine g_aload_n (M := mX7_advance) (pc := 93) 94 dX7_advance_93 rfl rfl rfl ?_
  refine g_getI (M := mX7_advance) (pc := 94) 97 dX7_advance_94 rfl fX7_13 oF26_1 ?_
  refine g_icmp_ge (M := mX7_advance) (pc := 97) 243 100 dX7_advance_97 (by decide) rfl (fun _ => ?_) (fun _ => ?_)
  · exact g_jmp (fun z => v_fgt [false] z)
  · refine g_aload_n (M := mX7_advance) (pc := 100) 101 dX7_advance_100 rfl rfl rfl ?_
    refine g_aload_n (M := mX7_advance) (pc := 101) 102 dX7_advance_101 rfl rfl rfl ?_
    refine g_getI (M := mX7_advance) (pc := 102) 105 dX7_advance_102 rfl fX7_26 oF26_5 ?_
    refine g_cV_I (M := mX7_advance) (pc := 105) (M' := mX7_isLetter) (rest := []) 108 dX7_advance_105 rfl kX7_32 okX7_isLetter (CX7_isLetter (h 5 26 5) h L) oO26 rfl rfl rfl rfl (fun r16 => ?_)
    refine g_if_eq (M := mX7_advance) (pc := 108) 243 111 dX7_advance_108 (by decide) rfl (fun _ => ?_) (fun _ => ?_)
    · exact g_jmp (fun z => v_fgt [false] z)
    · refine g_aload_n (M := mX7_advance) (pc := 111) 112 dX7_advance_111 rfl rfl rfl ?_
      refine g_dup (M := mX7_advance) (pc := 112) 113 dX7_advance_112 rfl rfl ?_
      refine g_getI (M := mX7_advance) (pc := 113) 116 dX7_advance_113 rfl fX7_26 oF26_5 ?_
      refine g_iconst (M := mX7_advance) (pc := 116) (v := 1) 117 dX7_advance_116 rfl ic1 ?_
      refine g_iadd (M := mX7_advance) (pc := 117) 118 dX7_advance_117 rfl ?_
      refine g_put (M := mX7_advance) (pc := 118) 121 dX7_advance_118 rfl pX7_26 oF26_5 rfl rfl (fun h17 => ?_)
      refine g_goto (M := mX7_advance) (pc := 121) 89 dX7_advance_121 (by decide) ?_
      exact g_jmp (fun z => v_fgt [true] z)
set_option maxRecDepth 100000 in
set_option maxHeartbeats 4000000 in
theorem JX7_advance_46_ok (T : ZT) (h : HI) (L : HL) : VX mX7_advance 1 T (fun r => Zl (lfVH L) r = T) 46 [some (aR 5 26)] [] h L (JX7_advance_46 h) := by
  unfold JX7_advance_46
  refine g_aload_n (M := mX7_advance) (pc := 46) 47 dX7_advance_46 rfl rfl rfl ?_
  refine g_aload_n (M := mX7_advance) (pc := 47) 48 dX7_advance_47 rfl rfl rfl ?_
  refine g_getI (M := mX7_advance) (pc := 48) 51 dX7_advance_48 rfl fX7_20 oF26_3 ?_
  refine g_put (M := mX7_advance) (pc := 51) 54 dX7_advance_51 rfl pX7_26 oF26_5 rfl rfl (fun h4 => ?_)
  refine g_aload_n (M := mX7_advance) (pc := 54) 55 dX7_advance_54 rfl rfl rfl ?_
  refine g_getI (M := mX7_advance) (pc := 55) 58 dX7_advance_55 rfl fX7_20 oF26_3 ?_
  refine g_aload_n (M := mX7_advance) (pc := 58) 59 dX7_advance_58 rfl rfl rfl ?_
  refine g_getI (M := mX7_advance) (pc := 59) 62 dX7_advance_59 rfl fX7_13 oF26_1 ?_
  refine g_icmp_lt (M := mX7_advance) (pc := 62) 73 65 dX7_advance_62 (by decide) rfl (fun _ => ?_) (fun _ => ?_)
  · refine g_aload_n (M := mX7_advance) (pc := 73) 74 dX7_advance_73 rfl rfl rfl ?_
    refine g_aload_n (M := mX7_advance) (pc := 74) 75 dX7_advance_74 rfl rfl rfl ?_
    refine g_getI (M := mX7_advance) (pc := 75) 78 dX7_advance_75 rfl fX7_20 oF26_3 ?_
    refine g_cV_I (M := mX7_advance) (pc := 78) (M' := mX7_isLetter) (rest := []) 81 dX7_advance_78 rfl kX7_32 okX7_isLetter (CX7_isLetter (h4 5 26 3) h4 L) oO26 rfl rfl rfl rfl (fun r5 => ?_)
    refine g_if_eq (M := mX7_advance) (pc := 81) 124 84 dX7_advance_81 (by decide) rfl (fun _ => ?_) (fun _ => ?_)
    · refine g_aload_n (M := mX7_advance) (pc := 124) 125 dX7_advance_124 rfl rfl rfl ?_
      refine g_aload_n (M := mX7_advance) (pc := 125) 126 dX7_advance_125 rfl rfl rfl ?_
      refine g_getI (M := mX7_advance) (pc := 126) 129 dX7_advance_126 rfl fX7_20 oF26_3 ?_
      refine g_cV_I (M := mX7_advance) (pc := 129) (M' := mX7_isDigit) (rest := []) 132 dX7_advance_129 rfl kX7_36 okX7_isDigit (CX7_isDigit (h4 5 26 3) h4 L) oO26 rfl rfl rfl rfl (fun r6 => ?_)
      refine g_if_eq (M := mX7_advance) (pc := 132) 210 135 dX7_advance_132 (by decide) rfl (fun _ => ?_) (fun _ => ?_)
      · refine g_aload_n (M := mX7_advance) (pc := 210) 211 dX7_advance_210 rfl rfl rfl ?_
        refine g_aload_n (M := mX7_advance) (pc := 211) 212 dX7_advance_211 rfl rfl rfl ?_
        refine g_getR (M := mX7_advance) (pc := 212) 215 dX7_advance_212 rfl fX7_9 oR26_0 ?_
        refine g_aload_n (M := mX7_advance) (pc := 215) 216 dX7_advance_215 rfl rfl rfl ?_
        refine g_getI (M := mX7_advance) (pc := 216) 219 dX7_advance_216 rfl fX7_20 oF26_3 ?_
        refine g_iald (M := mX7_advance) (pc := 219) 220 dX7_advance_219 rfl oA27 ?_
        refine g_bipush (M := mX7_advance) (pc := 220) (v := 59) 222 dX7_advance_220 rfl bp59 ?_
        refine g_icmp_ne (M := mX7_advance) (pc := 222) 229 225 dX7_advance_222 (by decide) rfl (fun _ => ?_) (fun _ => ?_)
        · refine g_iconst (M := mX7_advance) (pc := 229) (v := 4) 230 dX7_advance_229 rfl ic4 ?_
          exact g_fgt [true] (JX7_advance_230_ok 4 T h4 L)
        · refine g_iconst (M := mX7_advance) (pc := 225) (v := 3) 226 dX7_advance_225 rfl ic3 ?_
          refine g_goto (M := mX7_advance) (pc := 226) 230 dX7_advance_226 (by decide) ?_
          exact g_fgt [true] (JX7_advance_230_ok 3 T h4 L)
      · refine g_aload_n (M := mX7_advance) (pc := 135) 136 dX7_advance_135 rfl rfl rfl ?_
        refine g_iconst (M := mX7_advance) (pc := 136) (v := 2) 137 dX7_advance_136 rfl ic2 ?_
        refine g_put (M := mX7_advance) (pc := 137) 140 dX7_advance_137 rfl pX7_17 oF26_2 rfl rfl (fun h9 => ?_)
        refine g_aload_n (M := mX7_advance) (pc := 140) 141 dX7_advance_140 rfl rfl rfl ?_
        refine g_iconst (M := mX7_advance) (pc := 141) (v := 0) 142 dX7_advance_141 rfl ic0 ?_
        refine g_put (M := mX7_advance) (pc := 142) 145 dX7_advance_142 rfl pX7_23 oF26_4 rfl rfl (fun h10 => ?_)
        refine g_loop (fun s => SX7_advance_145_ok L T s) ?_ (fun z => v_fgt [true] z)
        intro h14
        show VX mX7_advance 1 T _ 243 [none] [] h14 L _
        exact g_vret (M := mX7_advance) (pc := 243) dX7_advance_243 rfl (fun z => z)
    · refine g_aload_n (M := mX7_advance) (pc := 84) 85 dX7_advance_84 rfl rfl rfl ?_
      refine g_iconst (M := mX7_advance) (pc := 85) (v := 1) 86 dX7_advance_85 rfl ic1 ?_
      refine g_put (M := mX7_advance) (pc := 86) 89 dX7_advance_86 rfl pX7_17 oF26_2 rfl rfl (fun h15 => ?_)
      refine g_loop (fun s => SX7_advance_89_ok L T s) ?_ (fun z => v_fgt [true] z)
      intro h18
      show VX mX7_advance 1 T _ 243 [none] [] h18 L _
      exact g_vret (M := mX7_advance) (pc := 243) dX7_advance_243 rfl (fun z => z)
  · refine g_aload_n (M := mX7_advance) (pc := 65) 66 dX7_advance_65 rfl rfl rfl ?_
    refine g_iconst (M := mX7_advance) (pc := 66) (v := 0) 67 dX7_advance_66 rfl ic0 ?_
    refine g_put (M := mX7_advance) (pc := 67) 70 dX7_advance_67 rfl pX7_17 oF26_2 rfl rfl (fun h19 => ?_)
    refine g_goto (M := mX7_advance) (pc := 70) 243 dX7_advance_70 (by decide) ?_
    exact g_vret (M := mX7_advance) (pc := 243) dX7_advance_243 rfl (fun z => z)
set_option maxRecDepth 100000 in
set_option maxHeartbeats 4000000 in
theorem CX7_advance (h : HI) (L : HL) : CG mX7_advance 1 [aR 5 26] h L (lfVH L) (FX7_advance h) := by
  unfold FX7_advance
  refine cg_of [some (aR 5 26)] rfl (by decide) rfl rfl (fun T => ?_)
  refine g_aload_n (M := mX7_advance) (pc := 0) 1 dX7_advance_0 rfl rfl rfl ?_
  refine g_aload_n (M := mX7_advance) (pc := 1) 2 dX7_advance_1 rfl rfl rfl ?_
  refine g_getI (M := mX7_advance) (pc := 2) 5 dX7_advance_2 rfl fX7_26 oF26_5 ?_
  refine g_put (M := mX7_advance) (pc := 5) 8 dX7_advance_5 rfl pX7_20 oF26_3 rfl rfl (fun h1 => ?_)
  refine g_loop (fun s => SX7_advance_8_ok L T s) ?_ (fun z => v_fgt [true] z)
  intro h3
  show VX mX7_advance 1 T _ 46 [some (aR 5 26)] [] h3 L _
  exact g_fgt [true] (JX7_advance_46_ok T h3 L)
def FX7_begin (h : HI) : Option (HI) :=
  nm (hP1 h 5 26 5 0) fun h1 =>
  Option.bind (FX7_advance h1) fun h2 =>
  some h2
set_option maxRecDepth 100000 in
set_option maxHeartbeats 4000000 in
theorem CX7_begin (h : HI) (L : HL) : CG mX7_begin 2 [aR 5 26] h L (lfVH L) (FX7_begin h) := by
  unfold FX7_begin
  refine cg_of [some (aR 5 26)] rfl (by decide) rfl rfl (fun T => ?_)
  refine g_aload_n (M := mX7_begin) (pc := 0) 1 dX7_begin_0 rfl rfl rfl ?_
  refine g_iconst (M := mX7_begin) (pc := 1) (v := 0) 2 dX7_begin_1 rfl ic0 ?_
  refine g_put (M := mX7_begin) (pc := 2) 5 dX7_begin_2 rfl pX7_26 oF26_5 rfl rfl (fun h1 => ?_)
  refine g_aload_n (M := mX7_begin) (pc := 5) 6 dX7_begin_5 rfl rfl rfl ?_
  refine g_cV_VH (M := mX7_begin) (pc := 6) (M' := mX7_advance) (rest := []) 9 dX7_begin_6 rfl kX7_29 okX7_advance (CX7_advance h1 L) oO26 rfl rfl rfl rfl (fun h2 => ?_)
  exact g_vret (M := mX7_begin) (pc := 9) dX7_begin_9 rfl (fun z => z)
def SX7_isWord_28 (i1 : Nat) (h : HI) : Int32 → Option ((Int32) ⊕ (Int32))
  | a2 =>
    gd (decide (i1 < 15)) <|
    if (nI (lenS.getD i1 0)) ≤ a2 then
      some (Sum.inr 1)
    else
      gd (ixb ((h 5 26 3) + a2) 120) <|
      gd (decide (i1 < 15) && ixb a2 (lenS.getD i1 0)) <|
      if (h 5 27 (nC ((h 5 26 3) + a2))) = ((bytS.getD i1 []).getD (nC a2) 0) then
        some (Sum.inl (a2 + 1))
      else
        some (Sum.inr 0)
def FX7_isWord (i1 : Nat) (h : HI) : Option (Int32) :=
  if (h 5 26 2) = 1 then
    gd (decide (i1 < 15)) <|
    if ((h 5 26 5) - (h 5 26 3)) = (nI (lenS.getD i1 0)) then
      Option.bind (loopN (SX7_isWord_28 i1 h) FU 0) fun r => some r
    else
      some 0
  else
    some 0
set_option maxRecDepth 100000 in
set_option maxHeartbeats 4000000 in
theorem SX7_isWord_28_ok (i1 : Nat) (h : HI) (L : HL) (T : ZT) (a2 : Int32) : VX mX7_isWord 5 T (gS (fun s : Int32 => V mX7_isWord 5 T 28 [some (aR 5 26), some (aR 10 i1), some (aI s)] [] h L) (fun r => Zl (lfI h L) r = T)) 28 [some (aR 5 26), some (aR 10 i1), some (aI a2)] [] h L (SX7_isWord_28 i1 h a2) := by
  unfold SX7_isWord_28
  refine g_iload_n (M := mX7_isWord) (pc := 28) 29 dX7_isWord_28 rfl rfl rfl ?_
  refine g_aload_n (M := mX7_isWord) (pc := 29) 30 dX7_isWord_29 rfl rfl rfl ?_
  refine g_strlen (M := mX7_isWord) (pc := 30) 33 dX7_isWord_30 rfl kX7_45 rfl rfl ?_
  refine g_icmp_ge (M := mX7_isWord) (pc := 33) 63 36 dX7_isWord_33 (by decide) rfl (fun _ => ?_) (fun _ => ?_)
  · refine g_iconst (M := mX7_isWord) (pc := 63) (v := 1) 64 dX7_isWord_63 rfl ic1 ?_
    exact g_iret (M := mX7_isWord) (pc := 64) dX7_isWord_64 rfl nz1 (fun z => z)
  · refine g_aload_n (M := mX7_isWord) (pc := 36) 37 dX7_isWord_36 rfl rfl rfl ?_
    refine g_getR (M := mX7_isWord) (pc := 37) 40 dX7_isWord_37 rfl fX7_9 oR26_0 ?_
    refine g_aload_n (M := mX7_isWord) (pc := 40) 41 dX7_isWord_40 rfl rfl rfl ?_
    refine g_getI (M := mX7_isWord) (pc := 41) 44 dX7_isWord_41 rfl fX7_20 oF26_3 ?_
    refine g_iload_n (M := mX7_isWord) (pc := 44) 45 dX7_isWord_44 rfl rfl rfl ?_
    refine g_iadd (M := mX7_isWord) (pc := 45) 46 dX7_isWord_45 rfl ?_
    refine g_iald (M := mX7_isWord) (pc := 46) 47 dX7_isWord_46 rfl oA27 ?_
    refine g_aload_n (M := mX7_isWord) (pc := 47) 48 dX7_isWord_47 rfl rfl rfl ?_
    refine g_iload_n (M := mX7_isWord) (pc := 48) 49 dX7_isWord_48 rfl rfl rfl ?_
    refine g_strchr (M := mX7_isWord) (pc := 49) 52 dX7_isWord_49 rfl kX7_50 rfl rfl ?_
    refine g_icmp_eq (M := mX7_isWord) (pc := 52) 57 55 dX7_isWord_52 (by decide) rfl (fun _ => ?_) (fun _ => ?_)
    · refine g_iinc (M := mX7_isWord) (pc := 57) (c := 1) (ls' := [some (aR 5 26), some (aR 10 i1), some (aI (a2 + 1))]) 60 dX7_isWord_57 rfl ic1 rfl rfl rfl ?_
      refine g_goto (M := mX7_isWord) (pc := 60) 28 dX7_isWord_60 (by decide) ?_
      exact g_jmp (fun z => v_fgt [true, true, true] z)
    · refine g_iconst (M := mX7_isWord) (pc := 55) (v := 0) 56 dX7_isWord_55 rfl ic0 ?_
      exact g_iret (M := mX7_isWord) (pc := 56) dX7_isWord_56 rfl nz0 (fun z => z)
set_option maxRecDepth 100000 in
set_option maxHeartbeats 4000000 in
theorem CX7_isWord (i1 : Nat) (h : HI) (L : HL) : CG mX7_isWord 5 [aR 5 26, aR 10 i1] h L (lfI h L) (FX7_isWord i1 h) := by
  unfold FX7_isWord
  refine cg_of [some (aR 5 26), some (aR 10 i1), none] rfl (by decide) rfl rfl (fun T => ?_)
  refine g_aload_n (M := mX7_isWord) (pc := 0) 1 dX7_isWord_0 rfl rfl rfl ?_
  refine g_getI (M := mX7_isWord) (pc := 1) 4 dX7_isWord_1 rfl fX7_17 oF26_2 ?_
  refine g_iconst (M := mX7_isWord) (pc := 4) (v := 1) 5 dX7_isWord_4 rfl ic1 ?_
  refine g_icmp_ne (M := mX7_isWord) (pc := 5) 24 8 dX7_isWord_5 (by decide) rfl (fun _ => ?_) (fun _ => ?_)
  · refine g_iconst (M := mX7_isWord) (pc := 24) (v := 0) 25 dX7_isWord_24 rfl ic0 ?_
    exact g_iret (M := mX7_isWord) (pc := 25) dX7_isWord_25 rfl nz0 (fun z => z)
  · refine g_aload_n (M := mX7_isWord) (pc := 8) 9 dX7_isWord_8 rfl rfl rfl ?_
    refine g_getI (M := mX7_isWord) (pc := 9) 12 dX7_isWord_9 rfl fX7_26 oF26_5 ?_
    refine g_aload_n (M := mX7_isWord) (pc := 12) 13 dX7_isWord_12 rfl rfl rfl ?_
    refine g_getI (M := mX7_isWord) (pc := 13) 16 dX7_isWord_13 rfl fX7_20 oF26_3 ?_
    refine g_isub (M := mX7_isWord) (pc := 16) 17 dX7_isWord_16 rfl ?_
    refine g_aload_n (M := mX7_isWord) (pc := 17) 18 dX7_isWord_17 rfl rfl rfl ?_
    refine g_strlen (M := mX7_isWord) (pc := 18) 21 dX7_isWord_18 rfl kX7_45 rfl rfl ?_
    refine g_icmp_eq (M := mX7_isWord) (pc := 21) 26 24 dX7_isWord_21 (by decide) rfl (fun _ => ?_) (fun _ => ?_)
    · refine g_iconst (M := mX7_isWord) (pc := 26) (v := 0) 27 dX7_isWord_26 rfl ic0 ?_
      refine g_istore_n (M := mX7_isWord) (pc := 27) (ls' := [some (aR 5 26), some (aR 10 i1), some (aI 0)]) 28 dX7_isWord_27 rfl rfl rfl rfl ?_
      exact g_loop (fun s => SX7_isWord_28_ok i1 h L T s) (fun e b z1 z2 => by cases z1; exact z2) (fun z => v_fgt [true, true, true] z)
    · refine g_iconst (M := mX7_isWord) (pc := 24) (v := 0) 25 dX7_isWord_24 rfl ic0 ?_
      exact g_iret (M := mX7_isWord) (pc := 25) dX7_isWord_25 rfl nz0 (fun z => z)
def FX2_kindNamed (h : HI) : Option (Int32) :=
  Option.bind (FX7_isWord 0 h) fun r1 =>
  if r1 = 0 then
    Option.bind (FX7_isWord 1 h) fun r2 =>
    if r2 = 0 then
      Option.bind (FX7_isWord 2 h) fun r3 =>
      if r3 = 0 then
        Option.bind (FX7_isWord 3 h) fun r4 =>
        if r4 = 0 then
          Option.bind (FX7_isWord 4 h) fun r5 =>
          if r5 = 0 then
            Option.bind (FX7_isWord 5 h) fun r6 =>
            if r6 = 0 then
              some (-1)
            else
              some 5
          else
            some 4
        else
          some 3
      else
        some 2
    else
      some 1
  else
    some 0
set_option maxRecDepth 100000 in
set_option maxHeartbeats 4000000 in
theorem CX2_kindNamed (h : HI) (L : HL) : CG mX2_kindNamed 6 [aR 5 25] h L (lfI h L) (FX2_kindNamed h) := by
  unfold FX2_kindNamed
  refine cg_of [some (aR 5 25)] rfl (by decide) rfl rfl (fun T => ?_)
  refine g_aload_n (M := mX2_kindNamed) (pc := 0) 1 dX2_kindNamed_0 rfl rfl rfl ?_
  refine g_getR (M := mX2_kindNamed) (pc := 1) 4 dX2_kindNamed_1 rfl fX2_12 oR25_0 ?_
  refine g_ldcS (M := mX2_kindNamed) (pc := 4) (i := 0) 6 dX2_kindNamed_4 rfl rfl rfl ?_
  refine g_cV_I (M := mX2_kindNamed) (pc := 6) (M' := mX7_isWord) (rest := []) 9 dX2_kindNamed_6 rfl kX2_51 okX7_isWord (CX7_isWord 0 h L) oO26 rfl rfl rfl rfl (fun r1 => ?_)
  refine g_if_eq (M := mX2_kindNamed) (pc := 9) 14 12 dX2_kindNamed_9 (by decide) rfl (fun _ => ?_) (fun _ => ?_)
  · refine g_aload_n (M := mX2_kindNamed) (pc := 14) 15 dX2_kindNamed_14 rfl rfl rfl ?_
    refine g_getR (M := mX2_kindNamed) (pc := 15) 18 dX2_kindNamed_15 rfl fX2_12 oR25_0 ?_
    refine g_ldcS (M := mX2_kindNamed) (pc := 18) (i := 1) 20 dX2_kindNamed_18 rfl rfl rfl ?_
    refine g_cV_I (M := mX2_kindNamed) (pc := 20) (M' := mX7_isWord) (rest := []) 23 dX2_kindNamed_20 rfl kX2_51 okX7_isWord (CX7_isWord 1 h L) oO26 rfl rfl rfl rfl (fun r2 => ?_)
    refine g_if_eq (M := mX2_kindNamed) (pc := 23) 28 26 dX2_kindNamed_23 (by decide) rfl (fun _ => ?_) (fun _ => ?_)
    · refine g_aload_n (M := mX2_kindNamed) (pc := 28) 29 dX2_kindNamed_28 rfl rfl rfl ?_
      refine g_getR (M := mX2_kindNamed) (pc := 29) 32 dX2_kindNamed_29 rfl fX2_12 oR25_0 ?_
      refine g_ldcS (M := mX2_kindNamed) (pc := 32) (i := 2) 34 dX2_kindNamed_32 rfl rfl rfl ?_
      refine g_cV_I (M := mX2_kindNamed) (pc := 34) (M' := mX7_isWord) (rest := []) 37 dX2_kindNamed_34 rfl kX2_51 okX7_isWord (CX7_isWord 2 h L) oO26 rfl rfl rfl rfl (fun r3 => ?_)
      refine g_if_eq (M := mX2_kindNamed) (pc := 37) 42 40 dX2_kindNamed_37 (by decide) rfl (fun _ => ?_) (fun _ => ?_)
      · refine g_aload_n (M := mX2_kindNamed) (pc := 42) 43 dX2_kindNamed_42 rfl rfl rfl ?_
        refine g_getR (M := mX2_kindNamed) (pc := 43) 46 dX2_kindNamed_43 rfl fX2_12 oR25_0 ?_
        refine g_ldcS (M := mX2_kindNamed) (pc := 46) (i := 3) 48 dX2_kindNamed_46 rfl rfl rfl ?_
        refine g_cV_I (M := mX2_kindNamed) (pc := 48) (M' := mX7_isWord) (rest := []) 51 dX2_kindNamed_48 rfl kX2_51 okX7_isWord (CX7_isWord 3 h L) oO26 rfl rfl rfl rfl (fun r4 => ?_)
        refine g_if_eq (M := mX2_kindNamed) (pc := 51) 56 54 dX2_kindNamed_51 (by decide) rfl (fun _ => ?_) (fun _ => ?_)
        · refine g_aload_n (M := mX2_kindNamed) (pc := 56) 57 dX2_kindNamed_56 rfl rfl rfl ?_
          refine g_getR (M := mX2_kindNamed) (pc := 57) 60 dX2_kindNamed_57 rfl fX2_12 oR25_0 ?_
          refine g_ldcS (M := mX2_kindNamed) (pc := 60) (i := 4) 62 dX2_kindNamed_60 rfl rfl rfl ?_
          refine g_cV_I (M := mX2_kindNamed) (pc := 62) (M' := mX7_isWord) (rest := []) 65 dX2_kindNamed_62 rfl kX2_51 okX7_isWord (CX7_isWord 4 h L) oO26 rfl rfl rfl rfl (fun r5 => ?_)
          refine g_if_eq (M := mX2_kindNamed) (pc := 65) 70 68 dX2_kindNamed_65 (by decide) rfl (fun _ => ?_) (fun _ => ?_)
          · refine g_aload_n (M := mX2_kindNamed) (pc := 70) 71 dX2_kindNamed_70 rfl rfl rfl ?_
            refine g_getR (M := mX2_kindNamed) (pc := 71) 74 dX2_kindNamed_71 rfl fX2_12 oR25_0 ?_
            refine g_ldcS (M := mX2_kindNamed) (pc := 74) (i := 5) 76 dX2_kindNamed_74 rfl rfl rfl ?_
            refine g_cV_I (M := mX2_kindNamed) (pc := 76) (M' := mX7_isWord) (rest := []) 79 dX2_kindNamed_76 rfl kX2_51 okX7_isWord (CX7_isWord 5 h L) oO26 rfl rfl rfl rfl (fun r6 => ?_)
            refine g_if_eq (M := mX2_kindNamed) (pc := 79) 86 82 dX2_kindNamed_79 (by decide) rfl (fun _ => ?_) (fun _ => ?_)
            · refine g_iconst (M := mX2_kindNamed) (pc := 86) (v := (-1)) 87 dX2_kindNamed_86 rfl icm1 ?_
              exact g_iret (M := mX2_kindNamed) (pc := 87) dX2_kindNamed_87 rfl rfl (fun z => z)
            · refine g_iconst (M := mX2_kindNamed) (pc := 82) (v := 5) 83 dX2_kindNamed_82 rfl ic5 ?_
              refine g_goto (M := mX2_kindNamed) (pc := 83) 87 dX2_kindNamed_83 (by decide) ?_
              exact g_iret (M := mX2_kindNamed) (pc := 87) dX2_kindNamed_87 rfl rfl (fun z => z)
          · refine g_iconst (M := mX2_kindNamed) (pc := 68) (v := 4) 69 dX2_kindNamed_68 rfl ic4 ?_
            exact g_iret (M := mX2_kindNamed) (pc := 69) dX2_kindNamed_69 rfl rfl (fun z => z)
        · refine g_iconst (M := mX2_kindNamed) (pc := 54) (v := 3) 55 dX2_kindNamed_54 rfl ic3 ?_
          exact g_iret (M := mX2_kindNamed) (pc := 55) dX2_kindNamed_55 rfl rfl (fun z => z)
      · refine g_iconst (M := mX2_kindNamed) (pc := 40) (v := 2) 41 dX2_kindNamed_40 rfl ic2 ?_
        exact g_iret (M := mX2_kindNamed) (pc := 41) dX2_kindNamed_41 rfl rfl (fun z => z)
    · refine g_iconst (M := mX2_kindNamed) (pc := 26) (v := 1) 27 dX2_kindNamed_26 rfl ic1 ?_
      exact g_iret (M := mX2_kindNamed) (pc := 27) dX2_kindNamed_27 rfl rfl (fun z => z)
  · refine g_iconst (M := mX2_kindNamed) (pc := 12) (v := 0) 13 dX2_kindNamed_12 rfl ic0 ?_
    exact g_iret (M := mX2_kindNamed) (pc := 13) dX2_kindNamed_13 rfl rfl (fun z => z)
def FX5_isFull (g : Nat) (h : HI) : Option (Int32) :=
  if (h g 1 6) < 12 then
    some 0
  else
    some 1
set_option maxRecDepth 100000 in
set_option maxHeartbeats 4000000 in
theorem CX5_isFull (g : Nat) (hg : g < 3) (h : HI) (L : HL) : CG mX5_isFull 0 [aR g 1] h L (lfI h L) (FX5_isFull g h) := by
  unfold FX5_isFull
  refine cg_of [some (aR g 1)] rfl (by decide) rfl rfl (fun T => ?_)
  refine g_aload_n (M := mX5_isFull) (pc := 0) 1 dX5_isFull_0 rfl rfl rfl ?_
  refine g_getI (M := mX5_isFull) (pc := 1) 4 dX5_isFull_1 rfl fX5_30 (oF1_6 hg) ?_
  refine g_bipush (M := mX5_isFull) (pc := 4) (v := 12) 6 dX5_isFull_4 rfl bp12 ?_
  refine g_icmp_lt (M := mX5_isFull) (pc := 6) 13 9 dX5_isFull_6 (by decide) rfl (fun _ => ?_) (fun _ => ?_)
  · refine g_iconst (M := mX5_isFull) (pc := 13) (v := 0) 14 dX5_isFull_13 rfl ic0 ?_
    exact g_iret (M := mX5_isFull) (pc := 14) dX5_isFull_14 rfl nz0 (fun z => z)
  · refine g_iconst (M := mX5_isFull) (pc := 9) (v := 1) 10 dX5_isFull_9 rfl ic1 ?_
    refine g_goto (M := mX5_isFull) (pc := 10) 14 dX5_isFull_10 (by decide) ?_
    exact g_iret (M := mX5_isFull) (pc := 14) dX5_isFull_14 rfl nz1 (fun z => z)
def FX9_within (a0 : Int32) (a1 : Int32) (a2 : Int32) : Option (Int32) :=
  if a0 < a1 then
    some 0
  else
    if a2 < a0 then
      some 0
    else
      some 1
set_option maxRecDepth 100000 in
set_option maxHeartbeats 4000000 in
theorem CX9_within (a0 : Int32) (a1 : Int32) (a2 : Int32) (h : HI) (L : HL) : CG mX9_within 0 [aI a0, aI a1, aI a2] h L (lfI h L) (FX9_within a0 a1 a2) := by
  unfold FX9_within
  refine cg_of [some (aI a0), some (aI a1), some (aI a2)] rfl (by decide) rfl rfl (fun T => ?_)
  refine g_iload_n (M := mX9_within) (pc := 0) 1 dX9_within_0 rfl rfl rfl ?_
  refine g_iload_n (M := mX9_within) (pc := 1) 2 dX9_within_1 rfl rfl rfl ?_
  refine g_icmp_lt (M := mX9_within) (pc := 2) 14 5 dX9_within_2 (by decide) rfl (fun _ => ?_) (fun _ => ?_)
  · refine g_iconst (M := mX9_within) (pc := 14) (v := 0) 15 dX9_within_14 rfl ic0 ?_
    exact g_iret (M := mX9_within) (pc := 15) dX9_within_15 rfl nz0 (fun z => z)
  · refine g_iload_n (M := mX9_within) (pc := 5) 6 dX9_within_5 rfl rfl rfl ?_
    refine g_iload_n (M := mX9_within) (pc := 6) 7 dX9_within_6 rfl rfl rfl ?_
    refine g_icmp_gt (M := mX9_within) (pc := 7) 14 10 dX9_within_7 (by decide) rfl (fun _ => ?_) (fun _ => ?_)
    · refine g_iconst (M := mX9_within) (pc := 14) (v := 0) 15 dX9_within_14 rfl ic0 ?_
      exact g_iret (M := mX9_within) (pc := 15) dX9_within_15 rfl nz0 (fun z => z)
    · refine g_iconst (M := mX9_within) (pc := 10) (v := 1) 11 dX9_within_10 rfl ic1 ?_
      refine g_goto (M := mX9_within) (pc := 11) 15 dX9_within_11 (by decide) ?_
      exact g_iret (M := mX9_within) (pc := 15) dX9_within_15 rfl nz1 (fun z => z)
def FX2_takeNumber (a1 : Int32) (a2 : Int32) (h : HI) : Option (Int32 × HI) :=
  if (h 5 26 2) = 2 then
    Option.bind (FX9_within (h 5 26 4) a1 a2) fun r1 =>
    if r1 = 0 then
      some ((-1), h)
    else
      nm (h 5 26 4) fun t2 =>
      Option.bind (FX7_advance h) fun h3 =>
      some (t2, h3)
  else
    some ((-1), h)
set_option maxRecDepth 100000 in
set_option maxHeartbeats 4000000 in
theorem CX2_takeNumber (a1 : Int32) (a2 : Int32) (h : HI) (L : HL) : CG mX2_takeNumber 2 [aR 5 25, aI a1, aI a2] h L (lfIH L) (FX2_takeNumber a1 a2 h) := by
  unfold FX2_takeNumber
  refine cg_of [some (aR 5 25), some (aI a1), some (aI a2), none] rfl (by decide) rfl rfl (fun T => ?_)
  refine g_aload_n (M := mX2_takeNumber) (pc := 0) 1 dX2_takeNumber_0 rfl rfl rfl ?_
  refine g_getR (M := mX2_takeNumber) (pc := 1) 4 dX2_takeNumber_1 rfl fX2_12 oR25_0 ?_
  refine g_getI (M := mX2_takeNumber) (pc := 4) 7 dX2_takeNumber_4 rfl fX2_25 oF26_2 ?_
  refine g_iconst (M := mX2_takeNumber) (pc := 7) (v := 2) 8 dX2_takeNumber_7 rfl ic2 ?_
  refine g_icmp_ne (M := mX2_takeNumber) (pc := 8) 26 11 dX2_takeNumber_8 (by decide) rfl (fun _ => ?_) (fun _ => ?_)
  · refine g_iconst (M := mX2_takeNumber) (pc := 26) (v := (-1)) 27 dX2_takeNumber_26 rfl icm1 ?_
    exact g_iret (M := mX2_takeNumber) (pc := 27) dX2_takeNumber_27 rfl rfl (fun z => z)
  · refine g_aload_n (M := mX2_takeNumber) (pc := 11) 12 dX2_takeNumber_11 rfl rfl rfl ?_
    refine g_getR (M := mX2_takeNumber) (pc := 12) 15 dX2_takeNumber_12 rfl fX2_12 oR25_0 ?_
    refine g_getI (M := mX2_takeNumber) (pc := 15) 18 dX2_takeNumber_15 rfl fX2_135 oF26_4 ?_
    refine g_iload_n (M := mX2_takeNumber) (pc := 18) 19 dX2_takeNumber_18 rfl rfl rfl ?_
    refine g_iload_n (M := mX2_takeNumber) (pc := 19) 20 dX2_takeNumber_19 rfl rfl rfl ?_
    refine g_cN_I (M := mX2_takeNumber) (pc := 20) (M' := mX9_within) (rest := []) 23 dX2_takeNumber_20 rfl nX2_146 okX9_within (CX9_within (h 5 26 4) a1 a2 h L) rfl rfl rfl rfl (fun r1 => ?_)
    refine g_if_ne (M := mX2_takeNumber) (pc := 23) 28 26 dX2_takeNumber_23 (by decide) rfl (fun _ => ?_) (fun _ => ?_)
    · refine g_aload_n (M := mX2_takeNumber) (pc := 28) 29 dX2_takeNumber_28 rfl rfl rfl ?_
      refine g_getR (M := mX2_takeNumber) (pc := 29) 32 dX2_takeNumber_29 rfl fX2_12 oR25_0 ?_
      refine g_getI (M := mX2_takeNumber) (pc := 32) 35 dX2_takeNumber_32 rfl fX2_135 oF26_4 ?_
      refine g_nmI (fun t2 => ?_)
      refine g_istore_n (M := mX2_takeNumber) (pc := 35) (ls' := [some (aR 5 25), some (aI a1), some (aI a2), some (aI t2)]) 36 dX2_takeNumber_35 rfl rfl rfl rfl ?_
      refine g_aload_n (M := mX2_takeNumber) (pc := 36) 37 dX2_takeNumber_36 rfl rfl rfl ?_
      refine g_getR (M := mX2_takeNumber) (pc := 37) 40 dX2_takeNumber_37 rfl fX2_12 oR25_0 ?_
      refine g_cV_VH (M := mX2_takeNumber) (pc := 40) (M' := mX7_advance) (rest := []) 43 dX2_takeNumber_40 rfl kX2_29 okX7_advance (CX7_advance h L) oO26 rfl rfl rfl rfl (fun h3 => ?_)
      refine g_iload_n (M := mX2_takeNumber) (pc := 43) 44 dX2_takeNumber_43 rfl rfl rfl ?_
      exact g_iret (M := mX2_takeNumber) (pc := 44) dX2_takeNumber_44 rfl rfl (fun z => z)
    · refine g_iconst (M := mX2_takeNumber) (pc := 26) (v := (-1)) 27 dX2_takeNumber_26 rfl icm1 ?_
      exact g_iret (M := mX2_takeNumber) (pc := 27) dX2_takeNumber_27 rfl rfl (fun z => z)
def FX2_takeWord (i1 : Nat) (h : HI) : Option (Int32 × HI) :=
  Option.bind (FX7_isWord i1 h) fun r1 =>
  if r1 = 0 then
    some (0, h)
  else
    Option.bind (FX7_advance h) fun h2 =>
    some (1, h2)
set_option maxRecDepth 100000 in
set_option maxHeartbeats 4000000 in
theorem CX2_takeWord (i1 : Nat) (h : HI) (L : HL) : CG mX2_takeWord 6 [aR 5 25, aR 10 i1] h L (lfIH L) (FX2_takeWord i1 h) := by
  unfold FX2_takeWord
  refine cg_of [some (aR 5 25), some (aR 10 i1)] rfl (by decide) rfl rfl (fun T => ?_)
  refine g_aload_n (M := mX2_takeWord) (pc := 0) 1 dX2_takeWord_0 rfl rfl rfl ?_
  refine g_getR (M := mX2_takeWord) (pc := 1) 4 dX2_takeWord_1 rfl fX2_12 oR25_0 ?_
  refine g_aload_n (M := mX2_takeWord) (pc := 4) 5 dX2_takeWord_4 rfl rfl rfl ?_
  refine g_cV_I (M := mX2_takeWord) (pc := 5) (M' := mX7_isWord) (rest := []) 8 dX2_takeWord_5 rfl kX2_51 okX7_isWord (CX7_isWord i1 h L) oO26 rfl rfl rfl rfl (fun r1 => ?_)
  refine g_if_ne (M := mX2_takeWord) (pc := 8) 13 11 dX2_takeWord_8 (by decide) rfl (fun _ => ?_) (fun _ => ?_)
  · refine g_aload_n (M := mX2_takeWord) (pc := 13) 14 dX2_takeWord_13 rfl rfl rfl ?_
    refine g_getR (M := mX2_takeWord) (pc := 14) 17 dX2_takeWord_14 rfl fX2_12 oR25_0 ?_
    refine g_cV_VH (M := mX2_takeWord) (pc := 17) (M' := mX7_advance) (rest := []) 20 dX2_takeWord_17 rfl kX2_29 okX7_advance (CX7_advance h L) oO26 rfl rfl rfl rfl (fun h2 => ?_)
    refine g_iconst (M := mX2_takeWord) (pc := 20) (v := 1) 21 dX2_takeWord_20 rfl ic1 ?_
    exact g_iret (M := mX2_takeWord) (pc := 21) dX2_takeWord_21 rfl nz1 (fun z => z)
  · refine g_iconst (M := mX2_takeWord) (pc := 11) (v := 0) 12 dX2_takeWord_11 rfl ic0 ?_
    exact g_iret (M := mX2_takeWord) (pc := 12) dX2_takeWord_12 rfl nz0 (fun z => z)
def FX5_add (g : Nat) (a1 : Int32) (a2 : Int32) (a3 : Int32) (a4 : Int32) (h : HI) : Option (Int32 × HI) :=
  gd (ixb (h g 1 6) 12) <|
  nm (hP1 h g 2 (nC (h g 1 6)) a1) fun h1 =>
  gd (ixb (h1 g 1 6) 12) <|
  nm (hP1 h1 g 3 (nC (h1 g 1 6)) a2) fun h2 =>
  gd (ixb (h2 g 1 6) 12) <|
  nm (hP1 h2 g 4 (nC (h2 g 1 6)) a3) fun h3 =>
  gd (ixb (h3 g 1 6) 12) <|
  nm (hP1 h3 g 5 (nC (h3 g 1 6)) a4) fun h4 =>
  gd (ixb (h4 g 1 6) 12) <|
  nm (hP1 h4 g 6 (nC (h4 g 1 6)) 0) fun h5 =>
  gd (ixb (h5 g 1 6) 12) <|
  nm (hP1 h5 g 7 (nC (h5 g 1 6)) 0) fun h6 =>
  nm (hP1 h6 g 1 6 ((h6 g 1 6) + 1)) fun h7 =>
  some (((h7 g 1 6) - 1), h7)
set_option maxRecDepth 100000 in
set_option maxHeartbeats 4000000 in
theorem CX5_add (g : Nat) (hg : g < 3) (a1 : Int32) (a2 : Int32) (a3 : Int32) (a4 : Int32) (h : HI) (L : HL) : CG mX5_add 0 [aR g 1, aI a1, aI a2, aI a3, aI a4] h L (lfIH L) (FX5_add g a1 a2 a3 a4 h) := by
  unfold FX5_add
  refine cg_of [some (aR g 1), some (aI a1), some (aI a2), some (aI a3), some (aI a4)] rfl (by decide) rfl rfl (fun T => ?_)
  refine g_aload_n (M := mX5_add) (pc := 0) 1 dX5_add_0 rfl rfl rfl ?_
  refine g_getR (M := mX5_add) (pc := 1) 4 dX5_add_1 rfl fX5_9 (oR1_0 hg) ?_
  refine g_aload_n (M := mX5_add) (pc := 4) 5 dX5_add_4 rfl rfl rfl ?_
  refine g_getI (M := mX5_add) (pc := 5) 8 dX5_add_5 rfl fX5_30 (oF1_6 hg) ?_
  refine g_iload_n (M := mX5_add) (pc := 8) 9 dX5_add_8 rfl rfl rfl ?_
  refine g_iast (M := mX5_add) (pc := 9) 10 dX5_add_9 rfl (oA2 hg) (fun h1 => ?_)
  refine g_aload_n (M := mX5_add) (pc := 10) 11 dX5_add_10 rfl rfl rfl ?_
  refine g_getR (M := mX5_add) (pc := 11) 14 dX5_add_11 rfl fX5_15 (oR1_1 hg) ?_
  refine g_aload_n (M := mX5_add) (pc := 14) 15 dX5_add_14 rfl rfl rfl ?_
  refine g_getI (M := mX5_add) (pc := 15) 18 dX5_add_15 rfl fX5_30 (oF1_6 hg) ?_
  refine g_iload_n (M := mX5_add) (pc := 18) 19 dX5_add_18 rfl rfl rfl ?_
  refine g_iast (M := mX5_add) (pc := 19) 20 dX5_add_19 rfl (oA3 hg) (fun h2 => ?_)
  refine g_aload_n (M := mX5_add) (pc := 20) 21 dX5_add_20 rfl rfl rfl ?_
  refine g_getR (M := mX5_add) (pc := 21) 24 dX5_add_21 rfl fX5_18 (oR1_2 hg) ?_
  refine g_aload_n (M := mX5_add) (pc := 24) 25 dX5_add_24 rfl rfl rfl ?_
  refine g_getI (M := mX5_add) (pc := 25) 28 dX5_add_25 rfl fX5_30 (oF1_6 hg) ?_
  refine g_iload_n (M := mX5_add) (pc := 28) 29 dX5_add_28 rfl rfl rfl ?_
  refine g_iast (M := mX5_add) (pc := 29) 30 dX5_add_29 rfl (oA4 hg) (fun h3 => ?_)
  refine g_aload_n (M := mX5_add) (pc := 30) 31 dX5_add_30 rfl rfl rfl ?_
  refine g_getR (M := mX5_add) (pc := 31) 34 dX5_add_31 rfl fX5_21 (oR1_3 hg) ?_
  refine g_aload_n (M := mX5_add) (pc := 34) 35 dX5_add_34 rfl rfl rfl ?_
  refine g_getI (M := mX5_add) (pc := 35) 38 dX5_add_35 rfl fX5_30 (oF1_6 hg) ?_
  refine g_iload (M := mX5_add) (pc := 38) 40 dX5_add_38 rfl rfl ?_
  refine g_iast (M := mX5_add) (pc := 40) 41 dX5_add_40 rfl (oA5 hg) (fun h4 => ?_)
  refine g_aload_n (M := mX5_add) (pc := 41) 42 dX5_add_41 rfl rfl rfl ?_
  refine g_getR (M := mX5_add) (pc := 42) 45 dX5_add_42 rfl fX5_24 (oR1_4 hg) ?_
  refine g_aload_n (M := mX5_add) (pc := 45) 46 dX5_add_45 rfl rfl rfl ?_
  refine g_getI (M := mX5_add) (pc := 46) 49 dX5_add_46 rfl fX5_30 (oF1_6 hg) ?_
  refine g_iconst (M := mX5_add) (pc := 49) (v := 0) 50 dX5_add_49 rfl ic0 ?_
  refine g_iast (M := mX5_add) (pc := 50) 51 dX5_add_50 rfl (oA6 hg) (fun h5 => ?_)
  refine g_aload_n (M := mX5_add) (pc := 51) 52 dX5_add_51 rfl rfl rfl ?_
  refine g_getR (M := mX5_add) (pc := 52) 55 dX5_add_52 rfl fX5_27 (oR1_5 hg) ?_
  refine g_aload_n (M := mX5_add) (pc := 55) 56 dX5_add_55 rfl rfl rfl ?_
  refine g_getI (M := mX5_add) (pc := 56) 59 dX5_add_56 rfl fX5_30 (oF1_6 hg) ?_
  refine g_iconst (M := mX5_add) (pc := 59) (v := 0) 60 dX5_add_59 rfl ic0 ?_
  refine g_iast (M := mX5_add) (pc := 60) 61 dX5_add_60 rfl (oA7 hg) (fun h6 => ?_)
  refine g_aload_n (M := mX5_add) (pc := 61) 62 dX5_add_61 rfl rfl rfl ?_
  refine g_dup (M := mX5_add) (pc := 62) 63 dX5_add_62 rfl rfl ?_
  refine g_getI (M := mX5_add) (pc := 63) 66 dX5_add_63 rfl fX5_30 (oF1_6 hg) ?_
  refine g_iconst (M := mX5_add) (pc := 66) (v := 1) 67 dX5_add_66 rfl ic1 ?_
  refine g_iadd (M := mX5_add) (pc := 67) 68 dX5_add_67 rfl ?_
  refine g_put (M := mX5_add) (pc := 68) 71 dX5_add_68 rfl pX5_30 (oF1_6 hg) rfl rfl (fun h7 => ?_)
  refine g_aload_n (M := mX5_add) (pc := 71) 72 dX5_add_71 rfl rfl rfl ?_
  refine g_getI (M := mX5_add) (pc := 72) 75 dX5_add_72 rfl fX5_30 (oF1_6 hg) ?_
  refine g_iconst (M := mX5_add) (pc := 75) (v := 1) 76 dX5_add_75 rfl ic1 ?_
  refine g_isub (M := mX5_add) (pc := 76) 77 dX5_add_76 rfl ?_
  exact g_iret (M := mX5_add) (pc := 77) dX5_add_77 rfl rfl (fun z => z)
def JX2_readPhrase_80 (g1 : Nat) (a2 : Int32) (a3 : Int32) (a4 : Int32) (s0 : Int32) (h : HI) : Option (Int32 × HI) :=
  if 0 ≤ s0 then
    Option.bind (FX5_add g1 a2 a3 a4 s0 h) fun (r9, h10) =>
    some (1, h10)
  else
    some (0, h)
def JX2_readPhrase_50 (g1 : Nat) (a2 : Int32) (a3 : Int32) (s0 : Int32) (h : HI) : Option (Int32 × HI) :=
  if 0 ≤ s0 then
    Option.bind (FX2_takeWord 7 h) fun (r7, h8) =>
    if r7 = 0 then
      JX2_readPhrase_80 g1 a2 a3 s0 7 h8
    else
      Option.bind (FX2_takeNumber 0 10 h8) fun (r11, h12) =>
      JX2_readPhrase_80 g1 a2 a3 s0 r11 h12
  else
    some (0, h)
def FX2_readPhrase (g1 : Nat) (a2 : Int32) (h : HI) : Option (Int32 × HI) :=
  Option.bind (FX5_isFull g1 h) fun r1 =>
  if r1 = 0 then
    Option.bind (FX7_advance h) fun h2 =>
    Option.bind (FX2_takeNumber 0 9 h2) fun (r3, h4) =>
    if 0 ≤ r3 then
      Option.bind (FX2_takeWord 6 h4) fun (r5, h6) =>
      if r5 = 0 then
        JX2_readPhrase_50 g1 a2 r3 5 h6
      else
        Option.bind (FX2_takeNumber 1 60 h6) fun (r13, h14) =>
        JX2_readPhrase_50 g1 a2 r3 r13 h14
    else
      some (0, h4)
  else
    some (0, h)
set_option maxRecDepth 100000 in
set_option maxHeartbeats 4000000 in
theorem JX2_readPhrase_80_ok (g1 : Nat) (hg1 : g1 < 3) (a2 : Int32) (a3 : Int32) (a4 : Int32) (s0 : Int32) (T : ZT) (h : HI) (L : HL) : VX mX2_readPhrase 7 T (fun r => Zl (lfIH L) r = T) 80 [none, some (aR g1 1), some (aI a2), some (aI a3), some (aI a4), none] [aI s0] h L (JX2_readPhrase_80 g1 a2 a3 a4 s0 h) := by
  unfold JX2_readPhrase_80
  refine g_istore (M := mX2_readPhrase) (pc := 80) (ls' := [none, some (aR g1 1), some (aI a2), some (aI a3), some (aI a4), some (aI s0)]) 82 dX2_readPhrase_80 rfl rfl rfl ?_
  refine g_iload (M := mX2_readPhrase) (pc := 82) 84 dX2_readPhrase_82 rfl rfl ?_
  refine g_if_ge (M := mX2_readPhrase) (pc := 84) 89 87 dX2_readPhrase_84 (by decide) rfl (fun _ => ?_) (fun _ => ?_)
  · refine g_aload_n (M := mX2_readPhrase) (pc := 89) 90 dX2_readPhrase_89 rfl rfl rfl ?_
    refine g_iload_n (M := mX2_readPhrase) (pc := 90) 91 dX2_readPhrase_90 rfl rfl rfl ?_
    refine g_iload_n (M := mX2_readPhrase) (pc := 91) 92 dX2_readPhrase_91 rfl rfl rfl ?_
    refine g_iload (M := mX2_readPhrase) (pc := 92) 94 dX2_readPhrase_92 rfl rfl ?_
    refine g_iload (M := mX2_readPhrase) (pc := 94) 96 dX2_readPhrase_94 rfl rfl ?_
    refine g_cV_IH (M := mX2_readPhrase) (pc := 96) (M' := mX5_add) (rest := []) 99 dX2_readPhrase_96 rfl kX2_102 okX5_add (CX5_add g1 hg1 a2 a3 a4 s0 h L) (oO1 hg1) rfl rfl rfl rfl (fun r9 h10 => ?_)
    refine g_pop (M := mX2_readPhrase) (pc := 99) 100 dX2_readPhrase_99 rfl rfl ?_
    refine g_iconst (M := mX2_readPhrase) (pc := 100) (v := 1) 101 dX2_readPhrase_100 rfl ic1 ?_
    exact g_iret (M := mX2_readPhrase) (pc := 101) dX2_readPhrase_101 rfl nz1 (fun z => z)
  · refine g_iconst (M := mX2_readPhrase) (pc := 87) (v := 0) 88 dX2_readPhrase_87 rfl ic0 ?_
    exact g_iret (M := mX2_readPhrase) (pc := 88) dX2_readPhrase_88 rfl nz0 (fun z => z)
set_option maxRecDepth 100000 in
set_option maxHeartbeats 4000000 in
theorem JX2_readPhrase_50_ok (g1 : Nat) (hg1 : g1 < 3) (a2 : Int32) (a3 : Int32) (s0 : Int32) (T : ZT) (h : HI) (L : HL) : VX mX2_readPhrase 7 T (fun r => Zl (lfIH L) r = T) 50 [some (aR 5 25), some (aR g1 1), some (aI a2), some (aI a3), none, none] [aI s0] h L (JX2_readPhrase_50 g1 a2 a3 s0 h) := by
  unfold JX2_readPhrase_50
  refine g_istore (M := mX2_readPhrase) (pc := 50) (ls' := [some (aR 5 25), some (aR g1 1), some (aI a2), some (aI a3), some (aI s0), none]) 52 dX2_readPhrase_50 rfl rfl rfl ?_
  refine g_iload (M := mX2_readPhrase) (pc := 52) 54 dX2_readPhrase_52 rfl rfl ?_
  refine g_if_ge (M := mX2_readPhrase) (pc := 54) 59 57 dX2_readPhrase_54 (by decide) rfl (fun _ => ?_) (fun _ => ?_)
  · refine g_aload_n (M := mX2_readPhrase) (pc := 59) 60 dX2_readPhrase_59 rfl rfl rfl ?_
    refine g_ldcS (M := mX2_readPhrase) (pc := 60) (i := 7) 62 dX2_readPhrase_60 rfl rfl rfl ?_
    refine g_cV_IH (M := mX2_readPhrase) (pc := 62) (M' := mX2_takeWord) (rest := []) 65 dX2_readPhrase_62 rfl kX2_97 okX2_takeWord (CX2_takeWord 7 h L) oO25 rfl rfl rfl rfl (fun r7 h8 => ?_)
    refine g_if_eq (M := mX2_readPhrase) (pc := 65) 78 68 dX2_readPhrase_65 (by decide) rfl (fun _ => ?_) (fun _ => ?_)
    · refine g_bipush (M := mX2_readPhrase) (pc := 78) (v := 7) 80 dX2_readPhrase_78 rfl bp7 ?_
      exact g_fgt [false, true, true, true, true, false] (JX2_readPhrase_80_ok g1 hg1 a2 a3 s0 7 T h8 L)
    · refine g_aload_n (M := mX2_readPhrase) (pc := 68) 69 dX2_readPhrase_68 rfl rfl rfl ?_
      refine g_iconst (M := mX2_readPhrase) (pc := 69) (v := 0) 70 dX2_readPhrase_69 rfl ic0 ?_
      refine g_bipush (M := mX2_readPhrase) (pc := 70) (v := 10) 72 dX2_readPhrase_70 rfl bp10 ?_
      refine g_cV_IH (M := mX2_readPhrase) (pc := 72) (M' := mX2_takeNumber) (rest := []) 75 dX2_readPhrase_72 rfl kX2_91 okX2_takeNumber (CX2_takeNumber 0 10 h8 L) oO25 rfl rfl rfl rfl (fun r11 h12 => ?_)
      refine g_goto (M := mX2_readPhrase) (pc := 75) 80 dX2_readPhrase_75 (by decide) ?_
      exact g_fgt [false, true, true, true, true, false] (JX2_readPhrase_80_ok g1 hg1 a2 a3 s0 r11 T h12 L)
  · refine g_iconst (M := mX2_readPhrase) (pc := 57) (v := 0) 58 dX2_readPhrase_57 rfl ic0 ?_
    exact g_iret (M := mX2_readPhrase) (pc := 58) dX2_readPhrase_58 rfl nz0 (fun z => z)
set_option maxRecDepth 100000 in
set_option maxHeartbeats 4000000 in
theorem CX2_readPhrase (g1 : Nat) (hg1 : g1 < 3) (a2 : Int32) (h : HI) (L : HL) : CG mX2_readPhrase 7 [aR 5 25, aR g1 1, aI a2] h L (lfIH L) (FX2_readPhrase g1 a2 h) := by
  unfold FX2_readPhrase
  refine cg_of [some (aR 5 25), some (aR g1 1), some (aI a2), none, none, none] rfl (by decide) rfl rfl (fun T => ?_)
  refine g_aload_n (M := mX2_readPhrase) (pc := 0) 1 dX2_readPhrase_0 rfl rfl rfl ?_
  refine g_cV_I (M := mX2_readPhrase) (pc := 1) (M' := mX5_isFull) (rest := []) 4 dX2_readPhrase_1 rfl kX2_87 okX5_isFull (CX5_isFull g1 hg1 h L) (oO1 hg1) rfl rfl rfl rfl (fun r1 => ?_)
  refine g_if_eq (M := mX2_readPhrase) (pc := 4) 9 7 dX2_readPhrase_4 (by decide) rfl (fun _ => ?_) (fun _ => ?_)
  · refine g_aload_n (M := mX2_readPhrase) (pc := 9) 10 dX2_readPhrase_9 rfl rfl rfl ?_
    refine g_getR (M := mX2_readPhrase) (pc := 10) 13 dX2_readPhrase_10 rfl fX2_12 oR25_0 ?_
    refine g_cV_VH (M := mX2_readPhrase) (pc := 13) (M' := mX7_advance) (rest := []) 16 dX2_readPhrase_13 rfl kX2_29 okX7_advance (CX7_advance h L) oO26 rfl rfl rfl rfl (fun h2 => ?_)
    refine g_aload_n (M := mX2_readPhrase) (pc := 16) 17 dX2_readPhrase_16 rfl rfl rfl ?_
    refine g_iconst (M := mX2_readPhrase) (pc := 17) (v := 0) 18 dX2_readPhrase_17 rfl ic0 ?_
    refine g_bipush (M := mX2_readPhrase) (pc := 18) (v := 9) 20 dX2_readPhrase_18 rfl bp9 ?_
    refine g_cV_IH (M := mX2_readPhrase) (pc := 20) (M' := mX2_takeNumber) (rest := []) 23 dX2_readPhrase_20 rfl kX2_91 okX2_takeNumber (CX2_takeNumber 0 9 h2 L) oO25 rfl rfl rfl rfl (fun r3 h4 => ?_)
    refine g_istore_n (M := mX2_readPhrase) (pc := 23) (ls' := [some (aR 5 25), some (aR g1 1), some (aI a2), some (aI r3), none, none]) 24 dX2_readPhrase_23 rfl rfl rfl rfl ?_
    refine g_iload_n (M := mX2_readPhrase) (pc := 24) 25 dX2_readPhrase_24 rfl rfl rfl ?_
    refine g_if_ge (M := mX2_readPhrase) (pc := 25) 30 28 dX2_readPhrase_25 (by decide) rfl (fun _ => ?_) (fun _ => ?_)
    · refine g_aload_n (M := mX2_readPhrase) (pc := 30) 31 dX2_readPhrase_30 rfl rfl rfl ?_
      refine g_ldcS (M := mX2_readPhrase) (pc := 31) (i := 6) 33 dX2_readPhrase_31 rfl rfl rfl ?_
      refine g_cV_IH (M := mX2_readPhrase) (pc := 33) (M' := mX2_takeWord) (rest := []) 36 dX2_readPhrase_33 rfl kX2_97 okX2_takeWord (CX2_takeWord 6 h4 L) oO25 rfl rfl rfl rfl (fun r5 h6 => ?_)
      refine g_if_eq (M := mX2_readPhrase) (pc := 36) 49 39 dX2_readPhrase_36 (by decide) rfl (fun _ => ?_) (fun _ => ?_)
      · refine g_iconst (M := mX2_readPhrase) (pc := 49) (v := 5) 50 dX2_readPhrase_49 rfl ic5 ?_
        exact g_fgt [true, true, true, true, false, false] (JX2_readPhrase_50_ok g1 hg1 a2 r3 5 T h6 L)
      · refine g_aload_n (M := mX2_readPhrase) (pc := 39) 40 dX2_readPhrase_39 rfl rfl rfl ?_
        refine g_iconst (M := mX2_readPhrase) (pc := 40) (v := 1) 41 dX2_readPhrase_40 rfl ic1 ?_
        refine g_bipush (M := mX2_readPhrase) (pc := 41) (v := 60) 43 dX2_readPhrase_41 rfl bp60 ?_
        refine g_cV_IH (M := mX2_readPhrase) (pc := 43) (M' := mX2_takeNumber) (rest := []) 46 dX2_readPhrase_43 rfl kX2_91 okX2_takeNumber (CX2_takeNumber 1 60 h6 L) oO25 rfl rfl rfl rfl (fun r13 h14 => ?_)
        refine g_goto (M := mX2_readPhrase) (pc := 46) 50 dX2_readPhrase_46 (by decide) ?_
        exact g_fgt [true, true, true, true, false, false] (JX2_readPhrase_50_ok g1 hg1 a2 r3 r13 T h14 L)
    · refine g_iconst (M := mX2_readPhrase) (pc := 28) (v := 0) 29 dX2_readPhrase_28 rfl ic0 ?_
      exact g_iret (M := mX2_readPhrase) (pc := 29) dX2_readPhrase_29 rfl nz0 (fun z => z)
  · refine g_iconst (M := mX2_readPhrase) (pc := 7) (v := 0) 8 dX2_readPhrase_7 rfl ic0 ?_
    exact g_iret (M := mX2_readPhrase) (pc := 8) dX2_readPhrase_8 rfl nz0 (fun z => z)
