-- functions of the methods and their contracts, by program (wip/whole/dec.py): X10_plan X10_feed X10_wipe X10_byteAt X10_isLetter X10_isDigit X10_token X10_needs X10_word X10_number X10_kindHere X10_perhaps X10_phraseItem X10_wantItem X10_orderOne X10_orderItem X10_item
def SX10_plan_108 (a1 : Int32) (a2 : Int32) (a3 : Int32) (a4 : Int32) (a5 : Int32) : (Int32 × Int32 × HI) → Option ((Int32 × Int32 × HI) ⊕ (HI))
  | (a6, a7, h) =>
    if (h 8 33 0) ≤ a7 then
      some (Sum.inr h)
    else
      Option.bind (FX10_has a1 a7) fun r13 =>
      if r13 = 0 then
        some (Sum.inl (a6, (a7 + 1), h))
      else
        gd (ixb a6 5) <|
        nm (hP1 h 8 37 (nC a6) a7) fun h14 =>
        some (Sum.inl ((a6 + 1), (a7 + 1), h14))
def SX10_plan_159 (a2 : Int32) (a3 : Int32) (a4 : Int32) (a5 : Int32) : HI → Option ((HI) ⊕ (HI))
  | h =>
    Option.bind (FX10_goesOn a5 h) fun (r18, h19) =>
    if r18 = 0 then
      some (Sum.inr h19)
    else
      Option.bind (FX10_triesRow a5 a2 a3 0 h19) fun h20 =>
      some (Sum.inl h20)
def FX10_plan (a1 : Int32) (a2 : Int32) (a3 : Int32) (a4 : Int32) (h : HI) : Option (Int32 × HI) :=
  Option.bind (FX10_isSet a1 h) fun r1 =>
  if r1 = 0 then
    Option.bind (FX10_finds (-1000000001) h) fun (r2, h3) =>
    some (r2, h3)
  else
    Option.bind (FX10_in (Int32.toInt64 a2) 0 600) fun r4 =>
    if r4 = 0 then
      Option.bind (FX10_finds (-1000000001) h) fun (r5, h6) =>
      some (r5, h6)
    else
      Option.bind (FX10_in (Int32.toInt64 a3) 1 60) fun r7 =>
      if r7 = 0 then
        Option.bind (FX10_finds (-1000000001) h) fun (r8, h9) =>
        some (r8, h9)
      else
        Option.bind (FX10_in (Int32.toInt64 a4) (-1) 4) fun r10 =>
        if r10 = 0 then
          Option.bind (FX10_finds (-1000000001) h) fun (r28, h29) =>
          some (r28, h29)
        else
          Option.bind (FX10_ones a1) fun r11 =>
          if r11 ≤ 5 then
            Option.bind (FX10_isTooLate a3 h) fun r12 =>
            if r12 = 0 then
              if a4 < r11 then
                Option.bind (loopN (SX10_plan_108 a1 a2 a3 a4 r11) FU (0, 0, h)) fun h15 =>
                  Option.bind (FX10_puts h15) fun h16 =>
                  Option.bind (FX10_triesRow r11 a2 a3 1 h16) fun h17 =>
                  Option.bind (loopN (SX10_plan_159 a2 a3 a4 r11) FU h17) fun h21 =>
                    if 0 ≤ a4 then
                      gd (ixb a4 5) <|
                      some ((h21 8 38 (nC a4)), h21)
                    else
                      some ((h21 8 32 10), h21)
              else
                Option.bind (FX10_finds (-1000000004) h) fun (r22, h23) =>
                some (r22, h23)
            else
              Option.bind (FX10_finds (-1000000005) h) fun (r24, h25) =>
              some (r24, h25)
          else
            Option.bind (FX10_finds (-1000000007) h) fun (r26, h27) =>
            some (r26, h27)
set_option maxRecDepth 100000 in
set_option maxHeartbeats 4000000 in
theorem SX10_plan_108_ok (a1 : Int32) (a2 : Int32) (a3 : Int32) (a4 : Int32) (a5 : Int32) (L : HL) (T : ZT) (a6 : Int32) (a7 : Int32) (h : HI) : VX mX10_plan 8 T (gS (fun s : Int32 × Int32 × HI => V mX10_plan 8 T 108 [some (aR 8 32), some (aI a1), some (aI a2), some (aI a3), some (aI a4), some (aI a5), some (aI (s.1)), some (aI (s.2.1))] [] (s.2.2) L) (fun s : HI => V mX10_plan 8 T 146 [some (aR 8 32), none, some (aI a2), some (aI a3), some (aI a4), some (aI a5), none, none] [] s L)) 108 [some (aR 8 32), some (aI a1), some (aI a2), some (aI a3), some (aI a4), some (aI a5), some (aI a6), some (aI a7)] [] h L (SX10_plan_108 a1 a2 a3 a4 a5 (a6, a7, h)) := by
  unfold SX10_plan_108
  refine g_iload (M := mX10_plan) (pc := 108) 110 dX10_plan_108 rfl rfl ?_
  refine g_aload_n (M := mX10_plan) (pc := 110) 111 dX10_plan_110 rfl rfl rfl ?_
  refine g_getR (M := mX10_plan) (pc := 111) 114 dX10_plan_111 rfl fX10_7 oR32_0 ?_
  refine g_iconst (M := mX10_plan) (pc := 114) (v := 0) 115 dX10_plan_114 rfl ic0 ?_
  refine g_ialdC (M := mX10_plan) (pc := 115) (j := 0) 116 dX10_plan_115 rfl oA33 rfl rfl ?_
  refine g_icmp_ge (M := mX10_plan) (pc := 116) 146 119 dX10_plan_116 (by decide) rfl (fun _ => ?_) (fun _ => ?_)
  · exact g_jmp (fun z => v_fgt [true, false, true, true, true, true, false, false] z)
  · refine g_iload_n (M := mX10_plan) (pc := 119) 120 dX10_plan_119 rfl rfl rfl ?_
    refine g_iload (M := mX10_plan) (pc := 120) 122 dX10_plan_120 rfl rfl ?_
    refine g_cS_I (M := mX10_plan) (pc := 122) (M' := mX10_has) (rest := []) 125 dX10_plan_122 rfl kX10_106 okX10_has (CX10_has a1 a7 h L) rfl rfl rfl rfl (fun r13 => ?_)
    refine g_if_eq (M := mX10_plan) (pc := 125) 140 128 dX10_plan_125 (by decide) rfl (fun _ => ?_) (fun _ => ?_)
    · refine g_iinc (M := mX10_plan) (pc := 140) (c := 1) (ls' := [some (aR 8 32), some (aI a1), some (aI a2), some (aI a3), some (aI a4), some (aI a5), some (aI a6), some (aI (a7 + 1))]) 143 dX10_plan_140 rfl ic1 rfl rfl rfl ?_
      refine g_goto (M := mX10_plan) (pc := 143) 108 dX10_plan_143 (by decide) ?_
      exact g_jmp (fun z => v_fgt [true, true, true, true, true, true, true, true] z)
    · refine g_aload_n (M := mX10_plan) (pc := 128) 129 dX10_plan_128 rfl rfl rfl ?_
      refine g_getR (M := mX10_plan) (pc := 129) 132 dX10_plan_129 rfl fX10_22 oR32_8 ?_
      refine g_iload (M := mX10_plan) (pc := 132) 134 dX10_plan_132 rfl rfl ?_
      refine g_iload (M := mX10_plan) (pc := 134) 136 dX10_plan_134 rfl rfl ?_
      refine g_iast (M := mX10_plan) (pc := 136) 137 dX10_plan_136 rfl oA37 (fun h14 => ?_)
      refine g_iinc (M := mX10_plan) (pc := 137) (c := 1) (ls' := [some (aR 8 32), some (aI a1), some (aI a2), some (aI a3), some (aI a4), some (aI a5), some (aI (a6 + 1)), some (aI a7)]) 140 dX10_plan_137 rfl ic1 rfl rfl rfl ?_
      refine g_iinc (M := mX10_plan) (pc := 140) (c := 1) (ls' := [some (aR 8 32), some (aI a1), some (aI a2), some (aI a3), some (aI a4), some (aI a5), some (aI (a6 + 1)), some (aI (a7 + 1))]) 143 dX10_plan_140 rfl ic1 rfl rfl rfl ?_
      refine g_goto (M := mX10_plan) (pc := 143) 108 dX10_plan_143 (by decide) ?_
      exact g_jmp (fun z => v_fgt [true, true, true, true, true, true, true, true] z)
set_option maxRecDepth 100000 in
set_option maxHeartbeats 4000000 in
theorem SX10_plan_159_ok (a2 : Int32) (a3 : Int32) (a4 : Int32) (a5 : Int32) (L : HL) (T : ZT) (h : HI) : VX mX10_plan 8 T (gS (fun s : HI => V mX10_plan 8 T 159 [some (aR 8 32), none, some (aI a2), some (aI a3), some (aI a4), some (aI a5), none, none] [] s L) (fun s : HI => V mX10_plan 8 T 180 [some (aR 8 32), none, none, none, some (aI a4), none, none, none] [] s L)) 159 [some (aR 8 32), none, some (aI a2), some (aI a3), some (aI a4), some (aI a5), none, none] [] h L (SX10_plan_159 a2 a3 a4 a5 h) := by
  unfold SX10_plan_159
  refine g_aload_n (M := mX10_plan) (pc := 159) 160 dX10_plan_159 rfl rfl rfl ?_
  refine g_iload (M := mX10_plan) (pc := 160) 162 dX10_plan_160 rfl rfl ?_
  refine g_cV_IH (M := mX10_plan) (pc := 162) (M' := mX10_goesOn) (rest := []) 165 dX10_plan_162 rfl kX10_216 okX10_goesOn (CX10_goesOn a5 h L) oO32 rfl rfl rfl rfl (fun r18 h19 => ?_)
  refine g_if_eq (M := mX10_plan) (pc := 165) 180 168 dX10_plan_165 (by decide) rfl (fun _ => ?_) (fun _ => ?_)
  · exact g_jmp (fun z => v_fgt [true, false, false, false, true, false, false, false] z)
  · refine g_aload_n (M := mX10_plan) (pc := 168) 169 dX10_plan_168 rfl rfl rfl ?_
    refine g_iload (M := mX10_plan) (pc := 169) 171 dX10_plan_169 rfl rfl ?_
    refine g_iload_n (M := mX10_plan) (pc := 171) 172 dX10_plan_171 rfl rfl rfl ?_
    refine g_iload_n (M := mX10_plan) (pc := 172) 173 dX10_plan_172 rfl rfl rfl ?_
    refine g_iconst (M := mX10_plan) (pc := 173) (v := 0) 174 dX10_plan_173 rfl ic0 ?_
    refine g_cV_VH (M := mX10_plan) (pc := 174) (M' := mX10_triesRow) (rest := []) 177 dX10_plan_174 rfl kX10_212 okX10_triesRow (CX10_triesRow a5 a2 a3 0 h19 L) oO32 rfl rfl rfl rfl (fun h20 => ?_)
    refine g_goto (M := mX10_plan) (pc := 177) 159 dX10_plan_177 (by decide) ?_
    exact g_jmp (fun z => v_fgt [true, false, true, true, true, true, false, false] z)
set_option maxRecDepth 100000 in
set_option maxHeartbeats 4000000 in
theorem CX10_plan (a1 : Int32) (a2 : Int32) (a3 : Int32) (a4 : Int32) (h : HI) (L : HL) : CG mX10_plan 8 [aR 8 32, aI a1, aI a2, aI a3, aI a4] h L (lfIH L) (FX10_plan a1 a2 a3 a4 h) := by
  unfold FX10_plan
  refine cg_of [some (aR 8 32), some (aI a1), some (aI a2), some (aI a3), some (aI a4), none, none, none] rfl (by decide) rfl rfl (fun T => ?_)
  refine g_aload_n (M := mX10_plan) (pc := 0) 1 dX10_plan_0 rfl rfl rfl ?_
  refine g_iload_n (M := mX10_plan) (pc := 1) 2 dX10_plan_1 rfl rfl rfl ?_
  refine g_cV_I (M := mX10_plan) (pc := 2) (M' := mX10_isSet) (rest := []) 5 dX10_plan_2 rfl kX10_109 okX10_isSet (CX10_isSet a1 h L) oO32 rfl rfl rfl rfl (fun r1 => ?_)
  refine g_if_eq (M := mX10_plan) (pc := 5) 47 8 dX10_plan_5 (by decide) rfl (fun _ => ?_) (fun _ => ?_)
  · refine g_aload_n (M := mX10_plan) (pc := 47) 48 dX10_plan_47 rfl rfl rfl ?_
    refine g_ldc (M := mX10_plan) (pc := 48) 50 dX10_plan_48 rfl cX10_44 ?_
    refine g_cV_IH (M := mX10_plan) (pc := 50) (M' := mX10_finds) (rest := []) 53 dX10_plan_50 rfl kX10_67 okX10_finds (CX10_finds (-1000000001) h L) oO32 rfl rfl rfl rfl (fun r2 h3 => ?_)
    exact g_iret (M := mX10_plan) (pc := 53) dX10_plan_53 rfl rfl (fun z => z)
  · refine g_iload_n (M := mX10_plan) (pc := 8) 9 dX10_plan_8 rfl rfl rfl ?_
    refine g_i2l (M := mX10_plan) (pc := 9) 10 dX10_plan_9 rfl ?_
    refine g_lconst (M := mX10_plan) (pc := 10) (v := 0) 11 dX10_plan_10 rfl rfl ?_
    refine g_ldc2 (M := mX10_plan) (pc := 11) 14 dX10_plan_11 rfl cX10_163 ?_
    refine g_cS_I (M := mX10_plan) (pc := 14) (M' := mX10_in) (rest := []) 17 dX10_plan_14 rfl kX10_45 okX10_in (CX10_in (Int32.toInt64 a2) 0 600 h L) rfl rfl rfl rfl (fun r4 => ?_)
    refine g_if_eq (M := mX10_plan) (pc := 17) 47 20 dX10_plan_17 (by decide) rfl (fun _ => ?_) (fun _ => ?_)
    · refine g_aload_n (M := mX10_plan) (pc := 47) 48 dX10_plan_47 rfl rfl rfl ?_
      refine g_ldc (M := mX10_plan) (pc := 48) 50 dX10_plan_48 rfl cX10_44 ?_
      refine g_cV_IH (M := mX10_plan) (pc := 50) (M' := mX10_finds) (rest := []) 53 dX10_plan_50 rfl kX10_67 okX10_finds (CX10_finds (-1000000001) h L) oO32 rfl rfl rfl rfl (fun r5 h6 => ?_)
      exact g_iret (M := mX10_plan) (pc := 53) dX10_plan_53 rfl rfl (fun z => z)
    · refine g_iload_n (M := mX10_plan) (pc := 20) 21 dX10_plan_20 rfl rfl rfl ?_
      refine g_i2l (M := mX10_plan) (pc := 21) 22 dX10_plan_21 rfl ?_
      refine g_lconst (M := mX10_plan) (pc := 22) (v := 1) 23 dX10_plan_22 rfl rfl ?_
      refine g_ldc2 (M := mX10_plan) (pc := 23) 26 dX10_plan_23 rfl cX10_57 ?_
      refine g_cS_I (M := mX10_plan) (pc := 26) (M' := mX10_in) (rest := []) 29 dX10_plan_26 rfl kX10_45 okX10_in (CX10_in (Int32.toInt64 a3) 1 60 h L) rfl rfl rfl rfl (fun r7 => ?_)
      refine g_if_eq (M := mX10_plan) (pc := 29) 47 32 dX10_plan_29 (by decide) rfl (fun _ => ?_) (fun _ => ?_)
      · refine g_aload_n (M := mX10_plan) (pc := 47) 48 dX10_plan_47 rfl rfl rfl ?_
        refine g_ldc (M := mX10_plan) (pc := 48) 50 dX10_plan_48 rfl cX10_44 ?_
        refine g_cV_IH (M := mX10_plan) (pc := 50) (M' := mX10_finds) (rest := []) 53 dX10_plan_50 rfl kX10_67 okX10_finds (CX10_finds (-1000000001) h L) oO32 rfl rfl rfl rfl (fun r8 h9 => ?_)
        exact g_iret (M := mX10_plan) (pc := 53) dX10_plan_53 rfl rfl (fun z => z)
      · refine g_iload (M := mX10_plan) (pc := 32) 34 dX10_plan_32 rfl rfl ?_
        refine g_i2l (M := mX10_plan) (pc := 34) 35 dX10_plan_34 rfl ?_
        refine g_ldc2 (M := mX10_plan) (pc := 35) 38 dX10_plan_35 rfl cX10_206 ?_
        refine g_ldc2 (M := mX10_plan) (pc := 38) 41 dX10_plan_38 rfl cX10_91 ?_
        refine g_cS_I (M := mX10_plan) (pc := 41) (M' := mX10_in) (rest := []) 44 dX10_plan_41 rfl kX10_45 okX10_in (CX10_in (Int32.toInt64 a4) (-1) 4 h L) rfl rfl rfl rfl (fun r10 => ?_)
        refine g_if_ne (M := mX10_plan) (pc := 44) 54 47 dX10_plan_44 (by decide) rfl (fun _ => ?_) (fun _ => ?_)
        · refine g_iload_n (M := mX10_plan) (pc := 54) 55 dX10_plan_54 rfl rfl rfl ?_
          refine g_cS_I (M := mX10_plan) (pc := 55) (M' := mX10_ones) (rest := []) 58 dX10_plan_55 rfl kX10_208 okX10_ones (CX10_ones a1 h L) rfl rfl rfl rfl (fun r11 => ?_)
          refine g_istore (M := mX10_plan) (pc := 58) (ls' := [some (aR 8 32), some (aI a1), some (aI a2), some (aI a3), some (aI a4), some (aI r11), none, none]) 60 dX10_plan_58 rfl rfl rfl ?_
          refine g_iload (M := mX10_plan) (pc := 60) 62 dX10_plan_60 rfl rfl ?_
          refine g_iconst (M := mX10_plan) (pc := 62) (v := 5) 63 dX10_plan_62 rfl ic5 ?_
          refine g_icmp_le (M := mX10_plan) (pc := 63) 73 66 dX10_plan_63 (by decide) rfl (fun _ => ?_) (fun _ => ?_)
          · refine g_aload_n (M := mX10_plan) (pc := 73) 74 dX10_plan_73 rfl rfl rfl ?_
            refine g_iload_n (M := mX10_plan) (pc := 74) 75 dX10_plan_74 rfl rfl rfl ?_
            refine g_cV_I (M := mX10_plan) (pc := 75) (M' := mX10_isTooLate) (rest := []) 78 dX10_plan_75 rfl kX10_181 okX10_isTooLate (CX10_isTooLate a3 h L) oO32 rfl rfl rfl rfl (fun r12 => ?_)
            refine g_if_eq (M := mX10_plan) (pc := 78) 88 81 dX10_plan_78 (by decide) rfl (fun _ => ?_) (fun _ => ?_)
            · refine g_iload (M := mX10_plan) (pc := 88) 90 dX10_plan_88 rfl rfl ?_
              refine g_iload (M := mX10_plan) (pc := 90) 92 dX10_plan_90 rfl rfl ?_
              refine g_icmp_lt (M := mX10_plan) (pc := 92) 102 95 dX10_plan_92 (by decide) rfl (fun _ => ?_) (fun _ => ?_)
              · refine g_iconst (M := mX10_plan) (pc := 102) (v := 0) 103 dX10_plan_102 rfl ic0 ?_
                refine g_istore (M := mX10_plan) (pc := 103) (ls' := [some (aR 8 32), some (aI a1), some (aI a2), some (aI a3), some (aI a4), some (aI r11), some (aI 0), none]) 105 dX10_plan_103 rfl rfl rfl ?_
                refine g_iconst (M := mX10_plan) (pc := 105) (v := 0) 106 dX10_plan_105 rfl ic0 ?_
                refine g_istore (M := mX10_plan) (pc := 106) (ls' := [some (aR 8 32), some (aI a1), some (aI a2), some (aI a3), some (aI a4), some (aI r11), some (aI 0), some (aI 0)]) 108 dX10_plan_106 rfl rfl rfl ?_
                refine g_loop (fun s => SX10_plan_108_ok a1 a2 a3 a4 r11 L T s.1 s.2.1 s.2.2) ?_ (fun z => v_fgt [true, true, true, true, true, true, true, true] z)
                intro h15
                show VX mX10_plan 8 T _ 146 [some (aR 8 32), none, some (aI a2), some (aI a3), some (aI a4), some (aI r11), none, none] [] h15 L _
                refine g_aload_n (M := mX10_plan) (pc := 146) 147 dX10_plan_146 rfl rfl rfl ?_
                refine g_cV_VH (M := mX10_plan) (pc := 147) (M' := mX10_puts) (rest := []) 150 dX10_plan_147 rfl kX10_188 okX10_puts (CX10_puts h15 L) oO32 rfl rfl rfl rfl (fun h16 => ?_)
                refine g_aload_n (M := mX10_plan) (pc := 150) 151 dX10_plan_150 rfl rfl rfl ?_
                refine g_iload (M := mX10_plan) (pc := 151) 153 dX10_plan_151 rfl rfl ?_
                refine g_iload_n (M := mX10_plan) (pc := 153) 154 dX10_plan_153 rfl rfl rfl ?_
                refine g_iload_n (M := mX10_plan) (pc := 154) 155 dX10_plan_154 rfl rfl rfl ?_
                refine g_iconst (M := mX10_plan) (pc := 155) (v := 1) 156 dX10_plan_155 rfl ic1 ?_
                refine g_cV_VH (M := mX10_plan) (pc := 156) (M' := mX10_triesRow) (rest := []) 159 dX10_plan_156 rfl kX10_212 okX10_triesRow (CX10_triesRow r11 a2 a3 1 h16 L) oO32 rfl rfl rfl rfl (fun h17 => ?_)
                refine g_loop (fun s => SX10_plan_159_ok a2 a3 a4 r11 L T s) ?_ (fun z => v_fgt [true, false, true, true, true, true, false, false] z)
                intro h21
                show VX mX10_plan 8 T _ 180 [some (aR 8 32), none, none, none, some (aI a4), none, none, none] [] h21 L _
                refine g_iload (M := mX10_plan) (pc := 180) 182 dX10_plan_180 rfl rfl ?_
                refine g_if_ge (M := mX10_plan) (pc := 182) 192 185 dX10_plan_182 (by decide) rfl (fun _ => ?_) (fun _ => ?_)
                · refine g_aload_n (M := mX10_plan) (pc := 192) 193 dX10_plan_192 rfl rfl rfl ?_
                  refine g_getR (M := mX10_plan) (pc := 193) 196 dX10_plan_193 rfl fX10_25 oR32_9 ?_
                  refine g_iload (M := mX10_plan) (pc := 196) 198 dX10_plan_196 rfl rfl ?_
                  refine g_iald (M := mX10_plan) (pc := 198) 199 dX10_plan_198 rfl oA38 ?_
                  exact g_iret (M := mX10_plan) (pc := 199) dX10_plan_199 rfl rfl (fun z => z)
                · refine g_aload_n (M := mX10_plan) (pc := 185) 186 dX10_plan_185 rfl rfl rfl ?_
                  refine g_getI (M := mX10_plan) (pc := 186) 189 dX10_plan_186 rfl fX10_203 oF32_10 ?_
                  refine g_goto (M := mX10_plan) (pc := 189) 199 dX10_plan_189 (by decide) ?_
                  exact g_iret (M := mX10_plan) (pc := 199) dX10_plan_199 rfl rfl (fun z => z)
              · refine g_aload_n (M := mX10_plan) (pc := 95) 96 dX10_plan_95 rfl rfl rfl ?_
                refine g_ldc (M := mX10_plan) (pc := 96) 98 dX10_plan_96 rfl cX10_132 ?_
                refine g_cV_IH (M := mX10_plan) (pc := 98) (M' := mX10_finds) (rest := []) 101 dX10_plan_98 rfl kX10_67 okX10_finds (CX10_finds (-1000000004) h L) oO32 rfl rfl rfl rfl (fun r22 h23 => ?_)
                exact g_iret (M := mX10_plan) (pc := 101) dX10_plan_101 rfl rfl (fun z => z)
            · refine g_aload_n (M := mX10_plan) (pc := 81) 82 dX10_plan_81 rfl rfl rfl ?_
              refine g_ldc (M := mX10_plan) (pc := 82) 84 dX10_plan_82 rfl cX10_184 ?_
              refine g_cV_IH (M := mX10_plan) (pc := 84) (M' := mX10_finds) (rest := []) 87 dX10_plan_84 rfl kX10_67 okX10_finds (CX10_finds (-1000000005) h L) oO32 rfl rfl rfl rfl (fun r24 h25 => ?_)
              exact g_iret (M := mX10_plan) (pc := 87) dX10_plan_87 rfl rfl (fun z => z)
          · refine g_aload_n (M := mX10_plan) (pc := 66) 67 dX10_plan_66 rfl rfl rfl ?_
            refine g_ldc (M := mX10_plan) (pc := 67) 69 dX10_plan_67 rfl cX10_211 ?_
            refine g_cV_IH (M := mX10_plan) (pc := 69) (M' := mX10_finds) (rest := []) 72 dX10_plan_69 rfl kX10_67 okX10_finds (CX10_finds (-1000000007) h L) oO32 rfl rfl rfl rfl (fun r26 h27 => ?_)
            exact g_iret (M := mX10_plan) (pc := 72) dX10_plan_72 rfl rfl (fun z => z)
        · refine g_aload_n (M := mX10_plan) (pc := 47) 48 dX10_plan_47 rfl rfl rfl ?_
          refine g_ldc (M := mX10_plan) (pc := 48) 50 dX10_plan_48 rfl cX10_44 ?_
          refine g_cV_IH (M := mX10_plan) (pc := 50) (M' := mX10_finds) (rest := []) 53 dX10_plan_50 rfl kX10_67 okX10_finds (CX10_finds (-1000000001) h L) oO32 rfl rfl rfl rfl (fun r28 h29 => ?_)
          exact g_iret (M := mX10_plan) (pc := 53) dX10_plan_53 rfl rfl (fun z => z)
def SX10_feed_41 (a1 : Int32) : (Int32 × HI) → Option ((Int32 × HI) ⊕ (HI))
  | (a3, h) =>
    if a3 < 0 then
      some (Sum.inr h)
    else
      gd (ixb (h 8 32 12) 120) <|
      nm (hP1 h 8 39 (nC (h 8 32 12)) ((a1 >>> ((8 * a3) &&& 31)) &&& 255)) fun h3 =>
      nm (hP1 h3 8 32 12 ((h3 8 32 12) + 1)) fun h4 =>
      some (Sum.inl ((a3 + (-1)), h4))
def FX10_feed (a1 : Int32) (a2 : Int32) (h : HI) : Option (Int32 × HI) :=
  Option.bind (FX10_in (Int32.toInt64 a2) 1 4) fun r1 =>
  if r1 = 0 then
    Option.bind (FX10_finds (-1000000001) h) fun (r8, h9) =>
    some (r8, h9)
  else
    if ((h 8 32 12) + a2) ≤ 120 then
      nm (a2 - 1) fun t2 =>
      Option.bind (loopN (SX10_feed_41 a1) FU (t2, h)) fun h5 =>
        some ((h5 8 32 12), h5)
    else
      Option.bind (FX10_finds (-1000000002) h) fun (r6, h7) =>
      some (r6, h7)
set_option maxRecDepth 100000 in
set_option maxHeartbeats 4000000 in
theorem SX10_feed_41_ok (a1 : Int32) (L : HL) (T : ZT) (a3 : Int32) (h : HI) : VX mX10_feed 1 T (gS (fun s : Int32 × HI => V mX10_feed 1 T 41 [some (aR 8 32), some (aI a1), none, some (aI (s.1))] [] (s.2) L) (fun s : HI => V mX10_feed 1 T 80 [some (aR 8 32), none, none, none] [] s L)) 41 [some (aR 8 32), some (aI a1), none, some (aI a3)] [] h L (SX10_feed_41 a1 (a3, h)) := by
  unfold SX10_feed_41
  refine g_iload_n (M := mX10_feed) (pc := 41) 42 dX10_feed_41 rfl rfl rfl ?_
  refine g_if_lt (M := mX10_feed) (pc := 42) 80 45 dX10_feed_42 (by decide) rfl (fun _ => ?_) (fun _ => ?_)
  · exact g_jmp (fun z => v_fgt [true, false, false, false] z)
  · refine g_aload_n (M := mX10_feed) (pc := 45) 46 dX10_feed_45 rfl rfl rfl ?_
    refine g_getR (M := mX10_feed) (pc := 46) 49 dX10_feed_46 rfl fX10_28 oR32_11 ?_
    refine g_aload_n (M := mX10_feed) (pc := 49) 50 dX10_feed_49 rfl rfl rfl ?_
    refine g_getI (M := mX10_feed) (pc := 50) 53 dX10_feed_50 rfl fX10_219 oF32_12 ?_
    refine g_iload_n (M := mX10_feed) (pc := 53) 54 dX10_feed_53 rfl rfl rfl ?_
    refine g_bipush (M := mX10_feed) (pc := 54) (v := 8) 56 dX10_feed_54 rfl bp8 ?_
    refine g_iload_n (M := mX10_feed) (pc := 56) 57 dX10_feed_56 rfl rfl rfl ?_
    refine g_imul (M := mX10_feed) (pc := 57) 58 dX10_feed_57 rfl ?_
    refine g_ishr (M := mX10_feed) (pc := 58) 59 dX10_feed_58 rfl ?_
    refine g_sipush (M := mX10_feed) (pc := 59) (v := 255) 62 dX10_feed_59 rfl sp255 ?_
    refine g_iand (M := mX10_feed) (pc := 62) 63 dX10_feed_62 rfl ?_
    refine g_iast (M := mX10_feed) (pc := 63) 64 dX10_feed_63 rfl oA39 (fun h3 => ?_)
    refine g_aload_n (M := mX10_feed) (pc := 64) 65 dX10_feed_64 rfl rfl rfl ?_
    refine g_dup (M := mX10_feed) (pc := 65) 66 dX10_feed_65 rfl rfl ?_
    refine g_getI (M := mX10_feed) (pc := 66) 69 dX10_feed_66 rfl fX10_219 oF32_12 ?_
    refine g_iconst (M := mX10_feed) (pc := 69) (v := 1) 70 dX10_feed_69 rfl ic1 ?_
    refine g_iadd (M := mX10_feed) (pc := 70) 71 dX10_feed_70 rfl ?_
    refine g_put (M := mX10_feed) (pc := 71) 74 dX10_feed_71 rfl pX10_219 oF32_12 rfl rfl (fun h4 => ?_)
    refine g_iinc (M := mX10_feed) (pc := 74) (c := (-1)) (ls' := [some (aR 8 32), some (aI a1), none, some (aI (a3 + (-1)))]) 77 dX10_feed_74 rfl icm1 rfl rfl rfl ?_
    refine g_goto (M := mX10_feed) (pc := 77) 41 dX10_feed_77 (by decide) ?_
    exact g_jmp (fun z => v_fgt [true, true, false, true] z)
set_option maxRecDepth 100000 in
set_option maxHeartbeats 4000000 in
theorem CX10_feed (a1 : Int32) (a2 : Int32) (h : HI) (L : HL) : CG mX10_feed 1 [aR 8 32, aI a1, aI a2] h L (lfIH L) (FX10_feed a1 a2 h) := by
  unfold FX10_feed
  refine cg_of [some (aR 8 32), some (aI a1), some (aI a2), none] rfl (by decide) rfl rfl (fun T => ?_)
  refine g_iload_n (M := mX10_feed) (pc := 0) 1 dX10_feed_0 rfl rfl rfl ?_
  refine g_i2l (M := mX10_feed) (pc := 1) 2 dX10_feed_1 rfl ?_
  refine g_lconst (M := mX10_feed) (pc := 2) (v := 1) 3 dX10_feed_2 rfl rfl ?_
  refine g_ldc2 (M := mX10_feed) (pc := 3) 6 dX10_feed_3 rfl cX10_91 ?_
  refine g_cS_I (M := mX10_feed) (pc := 6) (M' := mX10_in) (rest := []) 9 dX10_feed_6 rfl kX10_45 okX10_in (CX10_in (Int32.toInt64 a2) 1 4 h L) rfl rfl rfl rfl (fun r1 => ?_)
  refine g_if_ne (M := mX10_feed) (pc := 9) 19 12 dX10_feed_9 (by decide) rfl (fun _ => ?_) (fun _ => ?_)
  · refine g_aload_n (M := mX10_feed) (pc := 19) 20 dX10_feed_19 rfl rfl rfl ?_
    refine g_getI (M := mX10_feed) (pc := 20) 23 dX10_feed_20 rfl fX10_219 oF32_12 ?_
    refine g_iload_n (M := mX10_feed) (pc := 23) 24 dX10_feed_23 rfl rfl rfl ?_
    refine g_iadd (M := mX10_feed) (pc := 24) 25 dX10_feed_24 rfl ?_
    refine g_bipush (M := mX10_feed) (pc := 25) (v := 120) 27 dX10_feed_25 rfl bp120 ?_
    refine g_icmp_le (M := mX10_feed) (pc := 27) 37 30 dX10_feed_27 (by decide) rfl (fun _ => ?_) (fun _ => ?_)
    · refine g_iload_n (M := mX10_feed) (pc := 37) 38 dX10_feed_37 rfl rfl rfl ?_
      refine g_iconst (M := mX10_feed) (pc := 38) (v := 1) 39 dX10_feed_38 rfl ic1 ?_
      refine g_isub (M := mX10_feed) (pc := 39) 40 dX10_feed_39 rfl ?_
      refine g_nmI (fun t2 => ?_)
      refine g_istore_n (M := mX10_feed) (pc := 40) (ls' := [some (aR 8 32), some (aI a1), some (aI a2), some (aI t2)]) 41 dX10_feed_40 rfl rfl rfl rfl ?_
      refine g_loop (fun s => SX10_feed_41_ok a1 L T s.1 s.2) ?_ (fun z => v_fgt [true, true, false, true] z)
      intro h5
      show VX mX10_feed 1 T _ 80 [some (aR 8 32), none, none, none] [] h5 L _
      refine g_aload_n (M := mX10_feed) (pc := 80) 81 dX10_feed_80 rfl rfl rfl ?_
      refine g_getI (M := mX10_feed) (pc := 81) 84 dX10_feed_81 rfl fX10_219 oF32_12 ?_
      exact g_iret (M := mX10_feed) (pc := 84) dX10_feed_84 rfl rfl (fun z => z)
    · refine g_aload_n (M := mX10_feed) (pc := 30) 31 dX10_feed_30 rfl rfl rfl ?_
      refine g_ldc (M := mX10_feed) (pc := 31) 33 dX10_feed_31 rfl cX10_71 ?_
      refine g_cV_IH (M := mX10_feed) (pc := 33) (M' := mX10_finds) (rest := []) 36 dX10_feed_33 rfl kX10_67 okX10_finds (CX10_finds (-1000000002) h L) oO32 rfl rfl rfl rfl (fun r6 h7 => ?_)
      exact g_iret (M := mX10_feed) (pc := 36) dX10_feed_36 rfl rfl (fun z => z)
  · refine g_aload_n (M := mX10_feed) (pc := 12) 13 dX10_feed_12 rfl rfl rfl ?_
    refine g_ldc (M := mX10_feed) (pc := 13) 15 dX10_feed_13 rfl cX10_44 ?_
    refine g_cV_IH (M := mX10_feed) (pc := 15) (M' := mX10_finds) (rest := []) 18 dX10_feed_15 rfl kX10_67 okX10_finds (CX10_finds (-1000000001) h L) oO32 rfl rfl rfl rfl (fun r8 h9 => ?_)
    exact g_iret (M := mX10_feed) (pc := 18) dX10_feed_18 rfl rfl (fun z => z)
def FX10_wipe (h : HI) : Option (Int32 × HI) :=
  nm (h 8 32 12) fun t1 =>
  nm (hP1 h 8 32 12 0) fun h2 =>
  some (t1, h2)
set_option maxRecDepth 100000 in
set_option maxHeartbeats 4000000 in
theorem CX10_wipe (h : HI) (L : HL) : CG mX10_wipe 0 [aR 8 32] h L (lfIH L) (FX10_wipe h) := by
  unfold FX10_wipe
  refine cg_of [some (aR 8 32), none] rfl (by decide) rfl rfl (fun T => ?_)
  refine g_aload_n (M := mX10_wipe) (pc := 0) 1 dX10_wipe_0 rfl rfl rfl ?_
  refine g_getI (M := mX10_wipe) (pc := 1) 4 dX10_wipe_1 rfl fX10_219 oF32_12 ?_
  refine g_nmI (fun t1 => ?_)
  refine g_istore_n (M := mX10_wipe) (pc := 4) (ls' := [some (aR 8 32), some (aI t1)]) 5 dX10_wipe_4 rfl rfl rfl rfl ?_
  refine g_aload_n (M := mX10_wipe) (pc := 5) 6 dX10_wipe_5 rfl rfl rfl ?_
  refine g_iconst (M := mX10_wipe) (pc := 6) (v := 0) 7 dX10_wipe_6 rfl ic0 ?_
  refine g_put (M := mX10_wipe) (pc := 7) 10 dX10_wipe_7 rfl pX10_219 oF32_12 rfl rfl (fun h2 => ?_)
  refine g_iload_n (M := mX10_wipe) (pc := 10) 11 dX10_wipe_10 rfl rfl rfl ?_
  exact g_iret (M := mX10_wipe) (pc := 11) dX10_wipe_11 rfl rfl (fun z => z)
def FX10_byteAt (a1 : Int32) (h : HI) : Option (Int32) :=
  if (h 8 32 12) ≤ a1 then
    some (-1)
  else
    gd (ixb a1 120) <|
    some (h 8 39 (nC a1))
set_option maxRecDepth 100000 in
set_option maxHeartbeats 4000000 in
theorem CX10_byteAt (a1 : Int32) (h : HI) (L : HL) : CG mX10_byteAt 0 [aR 8 32, aI a1] h L (lfI h L) (FX10_byteAt a1 h) := by
  unfold FX10_byteAt
  refine cg_of [some (aR 8 32), some (aI a1)] rfl (by decide) rfl rfl (fun T => ?_)
  refine g_iload_n (M := mX10_byteAt) (pc := 0) 1 dX10_byteAt_0 rfl rfl rfl ?_
  refine g_aload_n (M := mX10_byteAt) (pc := 1) 2 dX10_byteAt_1 rfl rfl rfl ?_
  refine g_getI (M := mX10_byteAt) (pc := 2) 5 dX10_byteAt_2 rfl fX10_219 oF32_12 ?_
  refine g_icmp_ge (M := mX10_byteAt) (pc := 5) 17 8 dX10_byteAt_5 (by decide) rfl (fun _ => ?_) (fun _ => ?_)
  · refine g_iconst (M := mX10_byteAt) (pc := 17) (v := (-1)) 18 dX10_byteAt_17 rfl icm1 ?_
    exact g_iret (M := mX10_byteAt) (pc := 18) dX10_byteAt_18 rfl rfl (fun z => z)
  · refine g_aload_n (M := mX10_byteAt) (pc := 8) 9 dX10_byteAt_8 rfl rfl rfl ?_
    refine g_getR (M := mX10_byteAt) (pc := 9) 12 dX10_byteAt_9 rfl fX10_28 oR32_11 ?_
    refine g_iload_n (M := mX10_byteAt) (pc := 12) 13 dX10_byteAt_12 rfl rfl rfl ?_
    refine g_iald (M := mX10_byteAt) (pc := 13) 14 dX10_byteAt_13 rfl oA39 ?_
    refine g_goto (M := mX10_byteAt) (pc := 14) 18 dX10_byteAt_14 (by decide) ?_
    exact g_iret (M := mX10_byteAt) (pc := 18) dX10_byteAt_18 rfl rfl (fun z => z)
def FX10_isLetter (a0 : Int32) : Option (Int32) :=
  Option.bind (FX10_in (Int32.toInt64 a0) 97 122) fun r1 =>
  gd (isB r1) (some r1)
set_option maxRecDepth 100000 in
set_option maxHeartbeats 4000000 in
theorem CX10_isLetter (a0 : Int32) (h : HI) (L : HL) : CG mX10_isLetter 1 [aI a0] h L (lfI h L) (FX10_isLetter a0) := by
  unfold FX10_isLetter
  refine cg_of [some (aI a0)] rfl (by decide) rfl rfl (fun T => ?_)
  refine g_iload_n (M := mX10_isLetter) (pc := 0) 1 dX10_isLetter_0 rfl rfl rfl ?_
  refine g_i2l (M := mX10_isLetter) (pc := 1) 2 dX10_isLetter_1 rfl ?_
  refine g_ldc2 (M := mX10_isLetter) (pc := 2) 5 dX10_isLetter_2 rfl cX10_222 ?_
  refine g_ldc2 (M := mX10_isLetter) (pc := 5) 8 dX10_isLetter_5 rfl cX10_224 ?_
  refine g_cS_I (M := mX10_isLetter) (pc := 8) (M' := mX10_in) (rest := []) 11 dX10_isLetter_8 rfl kX10_45 okX10_in (CX10_in (Int32.toInt64 a0) 97 122 h L) rfl rfl rfl rfl (fun r1 => ?_)
  exact g_zret (M := mX10_isLetter) (pc := 11) dX10_isLetter_11 rfl (fun z => z)
def FX10_isDigit (a0 : Int32) : Option (Int32) :=
  Option.bind (FX10_in (Int32.toInt64 a0) 48 57) fun r1 =>
  gd (isB r1) (some r1)
set_option maxRecDepth 100000 in
set_option maxHeartbeats 4000000 in
theorem CX10_isDigit (a0 : Int32) (h : HI) (L : HL) : CG mX10_isDigit 1 [aI a0] h L (lfI h L) (FX10_isDigit a0) := by
  unfold FX10_isDigit
  refine cg_of [some (aI a0)] rfl (by decide) rfl rfl (fun T => ?_)
  refine g_iload_n (M := mX10_isDigit) (pc := 0) 1 dX10_isDigit_0 rfl rfl rfl ?_
  refine g_i2l (M := mX10_isDigit) (pc := 1) 2 dX10_isDigit_1 rfl ?_
  refine g_ldc2 (M := mX10_isDigit) (pc := 2) 5 dX10_isDigit_2 rfl cX10_226 ?_
  refine g_ldc2 (M := mX10_isDigit) (pc := 5) 8 dX10_isDigit_5 rfl cX10_228 ?_
  refine g_cS_I (M := mX10_isDigit) (pc := 8) (M' := mX10_in) (rest := []) 11 dX10_isDigit_8 rfl kX10_45 okX10_in (CX10_in (Int32.toInt64 a0) 48 57 h L) rfl rfl rfl rfl (fun r1 => ?_)
  exact g_zret (M := mX10_isDigit) (pc := 11) dX10_isDigit_11 rfl (fun z => z)
def SX10_token_8 : HI → Option ((HI) ⊕ (HI))
  | h =>
    Option.bind (FX10_byteAt (h 8 32 13) h) fun r2 =>
    if r2 = 32 then
      nm (hP1 h 8 32 13 ((h 8 32 13) + 1)) fun h3 =>
      some (Sum.inl h3)
    else
      some (Sum.inr h)
def JX10_token_104 (a1 : Int32) (a2 : Int32) (h : HI) : Option ((HI) ⊕ (HI)) :=
  if a2 = 0 then
    some (Sum.inr h)
  else
    Option.bind (FX10_byteAt (h 8 32 14) h) fun r10 =>
    Option.bind (FX10_isDigit r10) fun r11 =>
    if r11 = 0 then
      some (Sum.inr h)
    else
      nm (hP1 h 8 32 14 ((h 8 32 14) + 1)) fun h12 =>
      some (Sum.inl h12)
def SX10_token_86 (a1 : Int32) (a2 : Int32) : HI → Option ((HI) ⊕ (HI))
  | h =>
    if a1 = 0 then
      JX10_token_104 a1 a2 h
    else
      Option.bind (FX10_byteAt (h 8 32 14) h) fun r13 =>
      Option.bind (FX10_isLetter r13) fun r14 =>
      if r14 = 0 then
        JX10_token_104 a1 a2 h
      else
        nm (hP1 h 8 32 14 ((h 8 32 14) + 1)) fun h15 =>
        some (Sum.inl h15)
def FX10_token (h : HI) : Option (HI) :=
  nm (hP1 h 8 32 13 (h 8 32 14)) fun h1 =>
  Option.bind (loopN (SX10_token_8) FU h1) fun h4 =>
    Option.bind (FX10_byteAt (h4 8 32 13) h4) fun r5 =>
    Option.bind (FX10_isLetter r5) fun r6 =>
    Option.bind (FX10_byteAt (h4 8 32 13) h4) fun r7 =>
    Option.bind (FX10_isDigit r7) fun r8 =>
    if (h4 8 32 12) ≤ (h4 8 32 13) then
      nm (hP1 h4 8 32 14 (h4 8 32 13)) fun h9 =>
      Option.bind (loopN (SX10_token_86 r6 r8) FU h9) fun h16 =>
        some h16
    else
      nm (hP1 h4 8 32 14 ((h4 8 32 13) + 1)) fun h17 =>
      Option.bind (loopN (SX10_token_86 r6 r8) FU h17) fun h18 =>
        some h18
set_option maxRecDepth 100000 in
set_option maxHeartbeats 4000000 in
theorem SX10_token_8_ok (L : HL) (T : ZT) (h : HI) : VX mX10_token 2 T (gS (fun s : HI => V mX10_token 2 T 8 [some (aR 8 32), none, none] [] s L) (fun s : HI => V mX10_token 2 T 34 [some (aR 8 32), none, none] [] s L)) 8 [some (aR 8 32), none, none] [] h L (SX10_token_8 h) := by
  unfold SX10_token_8
  refine g_aload_n (M := mX10_token) (pc := 8) 9 dX10_token_8 rfl rfl rfl ?_
  refine g_aload_n (M := mX10_token) (pc := 9) 10 dX10_token_9 rfl rfl rfl ?_
  refine g_getI (M := mX10_token) (pc := 10) 13 dX10_token_10 rfl fX10_233 oF32_13 ?_
  refine g_cV_I (M := mX10_token) (pc := 13) (M' := mX10_byteAt) (rest := []) 16 dX10_token_13 rfl kX10_236 okX10_byteAt (CX10_byteAt (h 8 32 13) h L) oO32 rfl rfl rfl rfl (fun r2 => ?_)
  refine g_bipush (M := mX10_token) (pc := 16) (v := 32) 18 dX10_token_16 rfl bp32 ?_
  refine g_icmp_ne (M := mX10_token) (pc := 18) 34 21 dX10_token_18 (by decide) rfl (fun _ => ?_) (fun _ => ?_)
  · exact g_jmp (fun z => v_fgt [true, false, false] z)
  · refine g_aload_n (M := mX10_token) (pc := 21) 22 dX10_token_21 rfl rfl rfl ?_
    refine g_dup (M := mX10_token) (pc := 22) 23 dX10_token_22 rfl rfl ?_
    refine g_getI (M := mX10_token) (pc := 23) 26 dX10_token_23 rfl fX10_233 oF32_13 ?_
    refine g_iconst (M := mX10_token) (pc := 26) (v := 1) 27 dX10_token_26 rfl ic1 ?_
    refine g_iadd (M := mX10_token) (pc := 27) 28 dX10_token_27 rfl ?_
    refine g_put (M := mX10_token) (pc := 28) 31 dX10_token_28 rfl pX10_233 oF32_13 rfl rfl (fun h3 => ?_)
    refine g_goto (M := mX10_token) (pc := 31) 8 dX10_token_31 (by decide) ?_
    exact g_jmp (fun z => v_fgt [true, false, false] z)
set_option maxRecDepth 100000 in
set_option maxHeartbeats 4000000 in
theorem JX10_token_104_ok (a1 : Int32) (a2 : Int32) (T : ZT) (h : HI) (L : HL) : VX mX10_token 2 T (gS (fun s : HI => V mX10_token 2 T 86 [some (aR 8 32), some (aI a1), some (aI a2)] [] s L) (fun s : HI => V mX10_token 2 T 135 [none, none, none] [] s L)) 104 [some (aR 8 32), some (aI a1), some (aI a2)] [] h L (JX10_token_104 a1 a2 h) := by
  unfold JX10_token_104
  refine g_iload_n (M := mX10_token) (pc := 104) 105 dX10_token_104 rfl rfl rfl ?_
  refine g_if_eq (M := mX10_token) (pc := 105) 135 108 dX10_token_105 (by decide) rfl (fun _ => ?_) (fun _ => ?_)
  · exact g_jmp (fun z => v_fgt [false, false, false] z)
  · refine g_aload_n (M := mX10_token) (pc := 108) 109 dX10_token_108 rfl rfl rfl ?_
    refine g_aload_n (M := mX10_token) (pc := 109) 110 dX10_token_109 rfl rfl rfl ?_
    refine g_getI (M := mX10_token) (pc := 110) 113 dX10_token_110 rfl fX10_230 oF32_14 ?_
    refine g_cV_I (M := mX10_token) (pc := 113) (M' := mX10_byteAt) (rest := []) 116 dX10_token_113 rfl kX10_236 okX10_byteAt (CX10_byteAt (h 8 32 14) h L) oO32 rfl rfl rfl rfl (fun r10 => ?_)
    refine g_cS_I (M := mX10_token) (pc := 116) (M' := mX10_isDigit) (rest := []) 119 dX10_token_116 rfl kX10_242 okX10_isDigit (CX10_isDigit r10 h L) rfl rfl rfl rfl (fun r11 => ?_)
    refine g_if_eq (M := mX10_token) (pc := 119) 135 122 dX10_token_119 (by decide) rfl (fun _ => ?_) (fun _ => ?_)
    · exact g_jmp (fun z => v_fgt [false, false, false] z)
    · refine g_aload_n (M := mX10_token) (pc := 122) 123 dX10_token_122 rfl rfl rfl ?_
      refine g_dup (M := mX10_token) (pc := 123) 124 dX10_token_123 rfl rfl ?_
      refine g_getI (M := mX10_token) (pc := 124) 127 dX10_token_124 rfl fX10_230 oF32_14 ?_
      refine g_iconst (M := mX10_token) (pc := 127) (v := 1) 128 dX10_token_127 rfl ic1 ?_
      refine g_iadd (M := mX10_token) (pc := 128) 129 dX10_token_128 rfl ?_
      refine g_put (M := mX10_token) (pc := 129) 132 dX10_token_129 rfl pX10_230 oF32_14 rfl rfl (fun h12 => ?_)
      refine g_goto (M := mX10_token) (pc := 132) 86 dX10_token_132 (by decide) ?_
      exact g_jmp (fun z => v_fgt [true, true, true] z)
set_option maxRecDepth 100000 in
set_option maxHeartbeats 4000000 in
theorem SX10_token_86_ok (a1 : Int32) (a2 : Int32) (L : HL) (T : ZT) (h : HI) : VX mX10_token 2 T (gS (fun s : HI => V mX10_token 2 T 86 [some (aR 8 32), some (aI a1), some (aI a2)] [] s L) (fun s : HI => V mX10_token 2 T 135 [none, none, none] [] s L)) 86 [some (aR 8 32), some (aI a1), some (aI a2)] [] h L (SX10_token_86 a1 a2 h) := by
  unfold SX10_token_86
  refine g_iload_n (M := mX10_token) (pc := 86) 87 dX10_token_86 rfl rfl rfl ?_
  refine g_if_eq (M := mX10_token) (pc := 87) 104 90 dX10_token_87 (by decide) rfl (fun _ => ?_) (fun _ => ?_)
  · exact g_fgt [true, true, true] (JX10_token_104_ok a1 a2 T h L)
  · refine g_aload_n (M := mX10_token) (pc := 90) 91 dX10_token_90 rfl rfl rfl ?_
    refine g_aload_n (M := mX10_token) (pc := 91) 92 dX10_token_91 rfl rfl rfl ?_
    refine g_getI (M := mX10_token) (pc := 92) 95 dX10_token_92 rfl fX10_230 oF32_14 ?_
    refine g_cV_I (M := mX10_token) (pc := 95) (M' := mX10_byteAt) (rest := []) 98 dX10_token_95 rfl kX10_236 okX10_byteAt (CX10_byteAt (h 8 32 14) h L) oO32 rfl rfl rfl rfl (fun r13 => ?_)
    refine g_cS_I (M := mX10_token) (pc := 98) (M' := mX10_isLetter) (rest := []) 101 dX10_token_98 rfl kX10_239 okX10_isLetter (CX10_isLetter r13 h L) rfl rfl rfl rfl (fun r14 => ?_)
    refine g_if_ne (M := mX10_token) (pc := 101) 122 104 dX10_token_101 (by decide) rfl (fun _ => ?_) (fun _ => ?_)
    · refine g_aload_n (M := mX10_token) (pc := 122) 123 dX10_token_122 rfl rfl rfl ?_
      refine g_dup (M := mX10_token) (pc := 123) 124 dX10_token_123 rfl rfl ?_
      refine g_getI (M := mX10_token) (pc := 124) 127 dX10_token_124 rfl fX10_230 oF32_14 ?_
      refine g_iconst (M := mX10_token) (pc := 127) (v := 1) 128 dX10_token_127 rfl ic1 ?_
      refine g_iadd (M := mX10_token) (pc := 128) 129 dX10_token_128 rfl ?_
      refine g_put (M := mX10_token) (pc := 129) 132 dX10_token_129 rfl pX10_230 oF32_14 rfl rfl (fun h15 => ?_)
      refine g_goto (M := mX10_token) (pc := 132) 86 dX10_token_132 (by decide) ?_
      exact g_jmp (fun z => v_fgt [true, true, true] z)
    · exact g_fgt [true, true, true] (JX10_token_104_ok a1 a2 T h L)
set_option maxRecDepth 100000 in
set_option maxHeartbeats 4000000 in
theorem CX10_token (h : HI) (L : HL) : CG mX10_token 2 [aR 8 32] h L (lfVH L) (FX10_token h) := by
  unfold FX10_token
  refine cg_of [some (aR 8 32), none, none] rfl (by decide) rfl rfl (fun T => ?_)
  refine g_aload_n (M := mX10_token) (pc := 0) 1 dX10_token_0 rfl rfl rfl ?_
  refine g_aload_n (M := mX10_token) (pc := 1) 2 dX10_token_1 rfl rfl rfl ?_
  refine g_getI (M := mX10_token) (pc := 2) 5 dX10_token_2 rfl fX10_230 oF32_14 ?_
  refine g_put (M := mX10_token) (pc := 5) 8 dX10_token_5 rfl pX10_233 oF32_13 rfl rfl (fun h1 => ?_)
  refine g_loop (fun s => SX10_token_8_ok L T s) ?_ (fun z => v_fgt [true, false, false] z)
  intro h4
  show VX mX10_token 2 T _ 34 [some (aR 8 32), none, none] [] h4 L _
  refine g_aload_n (M := mX10_token) (pc := 34) 35 dX10_token_34 rfl rfl rfl ?_
  refine g_aload_n (M := mX10_token) (pc := 35) 36 dX10_token_35 rfl rfl rfl ?_
  refine g_getI (M := mX10_token) (pc := 36) 39 dX10_token_36 rfl fX10_233 oF32_13 ?_
  refine g_cV_I (M := mX10_token) (pc := 39) (M' := mX10_byteAt) (rest := []) 42 dX10_token_39 rfl kX10_236 okX10_byteAt (CX10_byteAt (h4 8 32 13) h4 L) oO32 rfl rfl rfl rfl (fun r5 => ?_)
  refine g_cS_I (M := mX10_token) (pc := 42) (M' := mX10_isLetter) (rest := []) 45 dX10_token_42 rfl kX10_239 okX10_isLetter (CX10_isLetter r5 h4 L) rfl rfl rfl rfl (fun r6 => ?_)
  refine g_istore_n (M := mX10_token) (pc := 45) (ls' := [some (aR 8 32), some (aI r6), none]) 46 dX10_token_45 rfl rfl rfl rfl ?_
  refine g_aload_n (M := mX10_token) (pc := 46) 47 dX10_token_46 rfl rfl rfl ?_
  refine g_aload_n (M := mX10_token) (pc := 47) 48 dX10_token_47 rfl rfl rfl ?_
  refine g_getI (M := mX10_token) (pc := 48) 51 dX10_token_48 rfl fX10_233 oF32_13 ?_
  refine g_cV_I (M := mX10_token) (pc := 51) (M' := mX10_byteAt) (rest := []) 54 dX10_token_51 rfl kX10_236 okX10_byteAt (CX10_byteAt (h4 8 32 13) h4 L) oO32 rfl rfl rfl rfl (fun r7 => ?_)
  refine g_cS_I (M := mX10_token) (pc := 54) (M' := mX10_isDigit) (rest := []) 57 dX10_token_54 rfl kX10_242 okX10_isDigit (CX10_isDigit r7 h4 L) rfl rfl rfl rfl (fun r8 => ?_)
  refine g_istore_n (M := mX10_token) (pc := 57) (ls' := [some (aR 8 32), some (aI r6), some (aI r8)]) 58 dX10_token_57 rfl rfl rfl rfl ?_
  refine g_aload_n (M := mX10_token) (pc := 58) 59 dX10_token_58 rfl rfl rfl ?_
  refine g_aload_n (M := mX10_token) (pc := 59) 60 dX10_token_59 rfl rfl rfl ?_
  refine g_getI (M := mX10_token) (pc := 60) 63 dX10_token_60 rfl fX10_233 oF32_13 ?_
  refine g_aload_n (M := mX10_token) (pc := 63) 64 dX10_token_63 rfl rfl rfl ?_
  refine g_getI (M := mX10_token) (pc := 64) 67 dX10_token_64 rfl fX10_219 oF32_12 ?_
  refine g_icmp_ge (M := mX10_token) (pc := 67) 79 70 dX10_token_67 (by decide) rfl (fun _ => ?_) (fun _ => ?_)
  · refine g_aload_n (M := mX10_token) (pc := 79) 80 dX10_token_79 rfl rfl rfl ?_
    refine g_getI (M := mX10_token) (pc := 80) 83 dX10_token_80 rfl fX10_233 oF32_13 ?_
    refine g_put (M := mX10_token) (pc := 83) 86 dX10_token_83 rfl pX10_230 oF32_14 rfl rfl (fun h9 => ?_)
    refine g_loop (fun s => SX10_token_86_ok r6 r8 L T s) ?_ (fun z => v_fgt [true, true, true] z)
    intro h16
    show VX mX10_token 2 T _ 135 [none, none, none] [] h16 L _
    exact g_vret (M := mX10_token) (pc := 135) dX10_token_135 rfl (fun z => z)
  · refine g_aload_n (M := mX10_token) (pc := 70) 71 dX10_token_70 rfl rfl rfl ?_
    refine g_getI (M := mX10_token) (pc := 71) 74 dX10_token_71 rfl fX10_233 oF32_13 ?_
    refine g_iconst (M := mX10_token) (pc := 74) (v := 1) 75 dX10_token_74 rfl ic1 ?_
    refine g_iadd (M := mX10_token) (pc := 75) 76 dX10_token_75 rfl ?_
    refine g_goto (M := mX10_token) (pc := 76) 83 dX10_token_76 (by decide) ?_
    refine g_put (M := mX10_token) (pc := 83) 86 dX10_token_83 rfl pX10_230 oF32_14 rfl rfl (fun h17 => ?_)
    refine g_loop (fun s => SX10_token_86_ok r6 r8 L T s) ?_ (fun z => v_fgt [true, true, true] z)
    intro h18
    show VX mX10_token 2 T _ 135 [none, none, none] [] h18 L _
    exact g_vret (M := mX10_token) (pc := 135) dX10_token_135 rfl (fun z => z)
def JX10_needs_17 (s1 : Int32) (h : HI) : Option (HI) :=
  gd (isB s1) <|
  nm (hP1 h 8 32 16 s1) fun h1 =>
  if (h1 8 32 16) = 0 then
    Option.bind (FX10_token h1) fun h2 =>
    some h2
  else
    some h1
def JX10_needs_12 (h : HI) : Option (HI) :=
  JX10_needs_17 1 h
def FX10_needs (a1 : Int32) (h : HI) : Option (HI) :=
  if (h 8 32 16) = 0 then
    if a1 = 0 then
      JX10_needs_12 h
    else
      JX10_needs_17 0 h
  else
    JX10_needs_12 h
set_option maxRecDepth 100000 in
set_option maxHeartbeats 4000000 in
theorem JX10_needs_17_ok (s1 : Int32) (T : ZT) (h : HI) (L : HL) : VX mX10_needs 3 T (fun r => Zl (lfVH L) r = T) 17 [some (aR 8 32), none] [aI s1, aR 8 32] h L (JX10_needs_17 s1 h) := by
  unfold JX10_needs_17
  refine g_putZ (M := mX10_needs) (pc := 17) 20 dX10_needs_17 rfl pX10_245 oF32_16 (fun h1 => ?_)
  refine g_aload_n (M := mX10_needs) (pc := 20) 21 dX10_needs_20 rfl rfl rfl ?_
  refine g_getI (M := mX10_needs) (pc := 21) 24 dX10_needs_21 rfl fX10_245 oF32_16 ?_
  refine g_if_ne (M := mX10_needs) (pc := 24) 31 27 dX10_needs_24 (by decide) rfl (fun _ => ?_) (fun _ => ?_)
  · exact g_vret (M := mX10_needs) (pc := 31) dX10_needs_31 rfl (fun z => z)
  · refine g_aload_n (M := mX10_needs) (pc := 27) 28 dX10_needs_27 rfl rfl rfl ?_
    refine g_cV_VH (M := mX10_needs) (pc := 28) (M' := mX10_token) (rest := []) 31 dX10_needs_28 rfl kX10_249 okX10_token (CX10_token h1 L) oO32 rfl rfl rfl rfl (fun h2 => ?_)
    exact g_vret (M := mX10_needs) (pc := 31) dX10_needs_31 rfl (fun z => z)
set_option maxRecDepth 100000 in
set_option maxHeartbeats 4000000 in
theorem JX10_needs_12_ok (T : ZT) (h : HI) (L : HL) : VX mX10_needs 3 T (fun r => Zl (lfVH L) r = T) 12 [some (aR 8 32), none] [aR 8 32] h L (JX10_needs_12 h) := by
  unfold JX10_needs_12
  refine g_iconst (M := mX10_needs) (pc := 12) (v := 1) 13 dX10_needs_12 rfl ic1 ?_
  refine g_goto (M := mX10_needs) (pc := 13) 17 dX10_needs_13 (by decide) ?_
  exact g_fgt [true, false] (JX10_needs_17_ok 1 T h L)
set_option maxRecDepth 100000 in
set_option maxHeartbeats 4000000 in
theorem CX10_needs (a1 : Int32) (h : HI) (L : HL) : CG mX10_needs 3 [aR 8 32, aI a1] h L (lfVH L) (FX10_needs a1 h) := by
  unfold FX10_needs
  refine cg_of [some (aR 8 32), some (aI a1)] rfl (by decide) rfl rfl (fun T => ?_)
  refine g_aload_n (M := mX10_needs) (pc := 0) 1 dX10_needs_0 rfl rfl rfl ?_
  refine g_aload_n (M := mX10_needs) (pc := 1) 2 dX10_needs_1 rfl rfl rfl ?_
  refine g_getI (M := mX10_needs) (pc := 2) 5 dX10_needs_2 rfl fX10_245 oF32_16 ?_
  refine g_if_ne (M := mX10_needs) (pc := 5) 12 8 dX10_needs_5 (by decide) rfl (fun _ => ?_) (fun _ => ?_)
  · exact g_fgt [true, false] (JX10_needs_12_ok T h L)
  · refine g_iload_n (M := mX10_needs) (pc := 8) 9 dX10_needs_8 rfl rfl rfl ?_
    refine g_if_ne (M := mX10_needs) (pc := 9) 16 12 dX10_needs_9 (by decide) rfl (fun _ => ?_) (fun _ => ?_)
    · refine g_iconst (M := mX10_needs) (pc := 16) (v := 0) 17 dX10_needs_16 rfl ic0 ?_
      exact g_fgt [true, false] (JX10_needs_17_ok 0 T h L)
    · exact g_fgt [true, false] (JX10_needs_12_ok T h L)
def SX10_word_7 (h : HI) : (Int64 × Int32) → Option ((Int64 × Int32) ⊕ (Int64))
  | (a1, a3) =>
    if (h 8 32 14) ≤ a3 then
      some (Sum.inr a1)
    else
      if (lg_cmp a1 36028797018963967) ≤ 0 then
        gd (ixb a3 120) <|
        nm ((32 * a1) + (Int32.toInt64 ((h 8 39 (nC a3)) - 96))) fun t2 =>
        some (Sum.inl (t2, (a3 + 1)))
      else
        some (Sum.inl (a1, (a3 + 1)))
def FX10_word (h : HI) : Option (Int64) :=
  nm (h 8 32 13) fun t1 =>
  Option.bind (loopN (SX10_word_7 h) FU (0, t1)) fun e3 =>
    if (h 8 32 16) = 0 then
      Option.bind (FX10_byteAt (h 8 32 13) h) fun r4 =>
      Option.bind (FX10_isLetter r4) fun r5 =>
      if r5 = 0 then
        some 0
      else
        some e3
    else
      some 0
set_option maxRecDepth 100000 in
set_option maxHeartbeats 4000000 in
theorem SX10_word_7_ok (h : HI) (L : HL) (T : ZT) (a1 : Int64) (a3 : Int32) : VX mX10_word 2 T (gS (fun s : Int64 × Int32 => V mX10_word 2 T 7 [some (aR 8 32), some (aL (s.1)), none, some (aI (s.2))] [] h L) (fun s : Int64 => V mX10_word 2 T 50 [some (aR 8 32), some (aL s), none, none] [] h L)) 7 [some (aR 8 32), some (aL a1), none, some (aI a3)] [] h L (SX10_word_7 h (a1, a3)) := by
  unfold SX10_word_7
  refine g_iload_n (M := mX10_word) (pc := 7) 8 dX10_word_7 rfl rfl rfl ?_
  refine g_aload_n (M := mX10_word) (pc := 8) 9 dX10_word_8 rfl rfl rfl ?_
  refine g_getI (M := mX10_word) (pc := 9) 12 dX10_word_9 rfl fX10_230 oF32_14 ?_
  refine g_icmp_ge (M := mX10_word) (pc := 12) 50 15 dX10_word_12 (by decide) rfl (fun _ => ?_) (fun _ => ?_)
  · exact g_jmp (fun z => v_fgt [true, true, false, false] z)
  · refine g_lload_n (M := mX10_word) (pc := 15) 16 dX10_word_15 rfl rfl rfl ?_
    refine g_ldc2 (M := mX10_word) (pc := 16) 19 dX10_word_16 rfl cX10_252 ?_
    refine g_lcmp (M := mX10_word) (pc := 19) 20 dX10_word_19 rfl ?_
    refine g_if_le (M := mX10_word) (pc := 20) 27 23 dX10_word_20 (by decide) rfl (fun _ => ?_) (fun _ => ?_)
    · refine g_ldc2 (M := mX10_word) (pc := 27) 30 dX10_word_27 rfl cX10_254 ?_
      refine g_lload_n (M := mX10_word) (pc := 30) 31 dX10_word_30 rfl rfl rfl ?_
      refine g_lmul (M := mX10_word) (pc := 31) 32 dX10_word_31 rfl ?_
      refine g_aload_n (M := mX10_word) (pc := 32) 33 dX10_word_32 rfl rfl rfl ?_
      refine g_getR (M := mX10_word) (pc := 33) 36 dX10_word_33 rfl fX10_28 oR32_11 ?_
      refine g_iload_n (M := mX10_word) (pc := 36) 37 dX10_word_36 rfl rfl rfl ?_
      refine g_iald (M := mX10_word) (pc := 37) 38 dX10_word_37 rfl oA39 ?_
      refine g_bipush (M := mX10_word) (pc := 38) (v := 96) 40 dX10_word_38 rfl bp96 ?_
      refine g_isub (M := mX10_word) (pc := 40) 41 dX10_word_40 rfl ?_
      refine g_i2l (M := mX10_word) (pc := 41) 42 dX10_word_41 rfl ?_
      refine g_ladd (M := mX10_word) (pc := 42) 43 dX10_word_42 rfl ?_
      refine g_nmJ (fun t2 => ?_)
      refine g_lstore_n (M := mX10_word) (pc := 43) (ls' := [some (aR 8 32), some (aL t2), none, some (aI a3)]) 44 dX10_word_43 rfl rfl rfl rfl ?_
      refine g_iinc (M := mX10_word) (pc := 44) (c := 1) (ls' := [some (aR 8 32), some (aL t2), none, some (aI (a3 + 1))]) 47 dX10_word_44 rfl ic1 rfl rfl rfl ?_
      refine g_goto (M := mX10_word) (pc := 47) 7 dX10_word_47 (by decide) ?_
      exact g_jmp (fun z => v_fgt [true, true, false, true] z)
    · refine g_lload_n (M := mX10_word) (pc := 23) 24 dX10_word_23 rfl rfl rfl ?_
      refine g_goto (M := mX10_word) (pc := 24) 43 dX10_word_24 (by decide) ?_
      refine g_lstore_n (M := mX10_word) (pc := 43) (ls' := [some (aR 8 32), some (aL a1), none, some (aI a3)]) 44 dX10_word_43 rfl rfl rfl rfl ?_
      refine g_iinc (M := mX10_word) (pc := 44) (c := 1) (ls' := [some (aR 8 32), some (aL a1), none, some (aI (a3 + 1))]) 47 dX10_word_44 rfl ic1 rfl rfl rfl ?_
      refine g_goto (M := mX10_word) (pc := 47) 7 dX10_word_47 (by decide) ?_
      exact g_jmp (fun z => v_fgt [true, true, false, true] z)
set_option maxRecDepth 100000 in
set_option maxHeartbeats 4000000 in
theorem CX10_word (h : HI) (L : HL) : CG mX10_word 2 [aR 8 32] h L (lfJ h L) (FX10_word h) := by
  unfold FX10_word
  refine cg_of [some (aR 8 32), none, none, none] rfl (by decide) rfl rfl (fun T => ?_)
  refine g_lconst (M := mX10_word) (pc := 0) (v := 0) 1 dX10_word_0 rfl rfl ?_
  refine g_lstore_n (M := mX10_word) (pc := 1) (ls' := [some (aR 8 32), some (aL 0), none, none]) 2 dX10_word_1 rfl rfl rfl rfl ?_
  refine g_aload_n (M := mX10_word) (pc := 2) 3 dX10_word_2 rfl rfl rfl ?_
  refine g_getI (M := mX10_word) (pc := 3) 6 dX10_word_3 rfl fX10_233 oF32_13 ?_
  refine g_nmI (fun t1 => ?_)
  refine g_istore_n (M := mX10_word) (pc := 6) (ls' := [some (aR 8 32), some (aL 0), none, some (aI t1)]) 7 dX10_word_6 rfl rfl rfl rfl ?_
  refine g_loop (fun s => SX10_word_7_ok h L T s.1 s.2) ?_ (fun z => v_fgt [true, true, false, true] z)
  intro e3
  show VX mX10_word 2 T _ 50 [some (aR 8 32), some (aL e3), none, none] [] h L _
  refine g_aload_n (M := mX10_word) (pc := 50) 51 dX10_word_50 rfl rfl rfl ?_
  refine g_getI (M := mX10_word) (pc := 51) 54 dX10_word_51 rfl fX10_245 oF32_16 ?_
  refine g_if_ne (M := mX10_word) (pc := 54) 71 57 dX10_word_54 (by decide) rfl (fun _ => ?_) (fun _ => ?_)
  · refine g_lconst (M := mX10_word) (pc := 71) (v := 0) 72 dX10_word_71 rfl rfl ?_
    refine g_goto (M := mX10_word) (pc := 72) 76 dX10_word_72 (by decide) ?_
    exact g_lret (M := mX10_word) (pc := 76) dX10_word_76 rfl (fun z => z)
  · refine g_aload_n (M := mX10_word) (pc := 57) 58 dX10_word_57 rfl rfl rfl ?_
    refine g_aload_n (M := mX10_word) (pc := 58) 59 dX10_word_58 rfl rfl rfl ?_
    refine g_getI (M := mX10_word) (pc := 59) 62 dX10_word_59 rfl fX10_233 oF32_13 ?_
    refine g_cV_I (M := mX10_word) (pc := 62) (M' := mX10_byteAt) (rest := []) 65 dX10_word_62 rfl kX10_236 okX10_byteAt (CX10_byteAt (h 8 32 13) h L) oO32 rfl rfl rfl rfl (fun r4 => ?_)
    refine g_cS_I (M := mX10_word) (pc := 65) (M' := mX10_isLetter) (rest := []) 68 dX10_word_65 rfl kX10_239 okX10_isLetter (CX10_isLetter r4 h L) rfl rfl rfl rfl (fun r5 => ?_)
    refine g_if_ne (M := mX10_word) (pc := 68) 75 71 dX10_word_68 (by decide) rfl (fun _ => ?_) (fun _ => ?_)
    · refine g_lload_n (M := mX10_word) (pc := 75) 76 dX10_word_75 rfl rfl rfl ?_
      exact g_lret (M := mX10_word) (pc := 76) dX10_word_76 rfl (fun z => z)
    · refine g_lconst (M := mX10_word) (pc := 71) (v := 0) 72 dX10_word_71 rfl rfl ?_
      refine g_goto (M := mX10_word) (pc := 72) 76 dX10_word_72 (by decide) ?_
      exact g_lret (M := mX10_word) (pc := 76) dX10_word_76 rfl (fun z => z)
def SX10_number_29 (a1 : Int32) (a2 : Int32) (a3 : Int32) (h : HI) : (Int32 × Int32) → Option ((Int32 × Int32) ⊕ (Int32))
  | (a4, a5) =>
    if (h 8 32 14) ≤ a5 then
      some (Sum.inr a4)
    else
      if a3 = 0 then
        some (Sum.inr a4)
      else
        if a4 ≤ 999 then
          gd (ixb a5 120) <|
          nm (((10 * a4) + (h 8 39 (nC a5))) - 48) fun t4 =>
          some (Sum.inl (t4, (a5 + 1)))
        else
          some (Sum.inl (a4, (a5 + 1)))
def JX10_number_79 (a1 : Int32) (a2 : Int32) (a3 : Int32) (a4 : Int32) (h : HI) : Option (HI) :=
  nm (hP1 h 8 32 15 a4) fun h6 =>
  if a3 = 0 then
    Option.bind (FX10_needs 0 h6) fun h7 =>
    some h7
  else
    Option.bind (FX10_in (Int32.toInt64 a4) (Int32.toInt64 a1) (Int32.toInt64 a2)) fun r8 =>
    if r8 = 0 then
      Option.bind (FX10_needs 0 h6) fun h9 =>
      some h9
    else
      Option.bind (FX10_needs 1 h6) fun h10 =>
      some h10
def FX10_number (a1 : Int32) (a2 : Int32) (h : HI) : Option (HI) :=
  if (h 8 32 16) = 0 then
    Option.bind (FX10_byteAt (h 8 32 13) h) fun r1 =>
    Option.bind (FX10_isDigit r1) fun r2 =>
    nm (h 8 32 13) fun t3 =>
    Option.bind (loopN (SX10_number_29 a1 a2 r2 h) FU (0, t3)) fun e5 =>
      JX10_number_79 a1 a2 r2 e5 h
  else
    some h
set_option maxRecDepth 100000 in
set_option maxHeartbeats 4000000 in
theorem SX10_number_29_ok (a1 : Int32) (a2 : Int32) (a3 : Int32) (h : HI) (L : HL) (T : ZT) (a4 : Int32) (a5 : Int32) : VX mX10_number 4 T (gS (fun s : Int32 × Int32 => V mX10_number 4 T 29 [some (aR 8 32), some (aI a1), some (aI a2), some (aI a3), some (aI (s.1)), some (aI (s.2))] [] h L) (fun s : Int32 => V mX10_number 4 T 79 [some (aR 8 32), some (aI a1), some (aI a2), some (aI a3), some (aI s), none] [] h L)) 29 [some (aR 8 32), some (aI a1), some (aI a2), some (aI a3), some (aI a4), some (aI a5)] [] h L (SX10_number_29 a1 a2 a3 h (a4, a5)) := by
  unfold SX10_number_29
  refine g_iload (M := mX10_number) (pc := 29) 31 dX10_number_29 rfl rfl ?_
  refine g_aload_n (M := mX10_number) (pc := 31) 32 dX10_number_31 rfl rfl rfl ?_
  refine g_getI (M := mX10_number) (pc := 32) 35 dX10_number_32 rfl fX10_230 oF32_14 ?_
  refine g_icmp_ge (M := mX10_number) (pc := 35) 79 38 dX10_number_35 (by decide) rfl (fun _ => ?_) (fun _ => ?_)
  · exact g_jmp (fun z => v_fgt [true, true, true, true, true, false] z)
  · refine g_iload_n (M := mX10_number) (pc := 38) 39 dX10_number_38 rfl rfl rfl ?_
    refine g_if_eq (M := mX10_number) (pc := 39) 79 42 dX10_number_39 (by decide) rfl (fun _ => ?_) (fun _ => ?_)
    · exact g_jmp (fun z => v_fgt [true, true, true, true, true, false] z)
    · refine g_iload (M := mX10_number) (pc := 42) 44 dX10_number_42 rfl rfl ?_
      refine g_sipush (M := mX10_number) (pc := 44) (v := 999) 47 dX10_number_44 rfl sp999 ?_
      refine g_icmp_le (M := mX10_number) (pc := 47) 55 50 dX10_number_47 (by decide) rfl (fun _ => ?_) (fun _ => ?_)
      · refine g_bipush (M := mX10_number) (pc := 55) (v := 10) 57 dX10_number_55 rfl bp10 ?_
        refine g_iload (M := mX10_number) (pc := 57) 59 dX10_number_57 rfl rfl ?_
        refine g_imul (M := mX10_number) (pc := 59) 60 dX10_number_59 rfl ?_
        refine g_aload_n (M := mX10_number) (pc := 60) 61 dX10_number_60 rfl rfl rfl ?_
        refine g_getR (M := mX10_number) (pc := 61) 64 dX10_number_61 rfl fX10_28 oR32_11 ?_
        refine g_iload (M := mX10_number) (pc := 64) 66 dX10_number_64 rfl rfl ?_
        refine g_iald (M := mX10_number) (pc := 66) 67 dX10_number_66 rfl oA39 ?_
        refine g_iadd (M := mX10_number) (pc := 67) 68 dX10_number_67 rfl ?_
        refine g_bipush (M := mX10_number) (pc := 68) (v := 48) 70 dX10_number_68 rfl bp48 ?_
        refine g_isub (M := mX10_number) (pc := 70) 71 dX10_number_70 rfl ?_
        refine g_nmI (fun t4 => ?_)
        refine g_istore (M := mX10_number) (pc := 71) (ls' := [some (aR 8 32), some (aI a1), some (aI a2), some (aI a3), some (aI t4), some (aI a5)]) 73 dX10_number_71 rfl rfl rfl ?_
        refine g_iinc (M := mX10_number) (pc := 73) (c := 1) (ls' := [some (aR 8 32), some (aI a1), some (aI a2), some (aI a3), some (aI t4), some (aI (a5 + 1))]) 76 dX10_number_73 rfl ic1 rfl rfl rfl ?_
        refine g_goto (M := mX10_number) (pc := 76) 29 dX10_number_76 (by decide) ?_
        exact g_jmp (fun z => v_fgt [true, true, true, true, true, true] z)
      · refine g_iload (M := mX10_number) (pc := 50) 52 dX10_number_50 rfl rfl ?_
        refine g_goto (M := mX10_number) (pc := 52) 71 dX10_number_52 (by decide) ?_
        refine g_istore (M := mX10_number) (pc := 71) (ls' := [some (aR 8 32), some (aI a1), some (aI a2), some (aI a3), some (aI a4), some (aI a5)]) 73 dX10_number_71 rfl rfl rfl ?_
        refine g_iinc (M := mX10_number) (pc := 73) (c := 1) (ls' := [some (aR 8 32), some (aI a1), some (aI a2), some (aI a3), some (aI a4), some (aI (a5 + 1))]) 76 dX10_number_73 rfl ic1 rfl rfl rfl ?_
        refine g_goto (M := mX10_number) (pc := 76) 29 dX10_number_76 (by decide) ?_
        exact g_jmp (fun z => v_fgt [true, true, true, true, true, true] z)
set_option maxRecDepth 100000 in
set_option maxHeartbeats 4000000 in
theorem JX10_number_79_ok (a1 : Int32) (a2 : Int32) (a3 : Int32) (a4 : Int32) (T : ZT) (h : HI) (L : HL) : VX mX10_number 4 T (fun r => Zl (lfVH L) r = T) 79 [some (aR 8 32), some (aI a1), some (aI a2), some (aI a3), some (aI a4), none] [] h L (JX10_number_79 a1 a2 a3 a4 h) := by
  unfold JX10_number_79
  refine g_aload_n (M := mX10_number) (pc := 79) 80 dX10_number_79 rfl rfl rfl ?_
  refine g_iload (M := mX10_number) (pc := 80) 82 dX10_number_80 rfl rfl ?_
  refine g_put (M := mX10_number) (pc := 82) 85 dX10_number_82 rfl pX10_256 oF32_15 rfl rfl (fun h6 => ?_)
  refine g_aload_n (M := mX10_number) (pc := 85) 86 dX10_number_85 rfl rfl rfl ?_
  refine g_iload_n (M := mX10_number) (pc := 86) 87 dX10_number_86 rfl rfl rfl ?_
  refine g_if_eq (M := mX10_number) (pc := 87) 107 90 dX10_number_87 (by decide) rfl (fun _ => ?_) (fun _ => ?_)
  · refine g_iconst (M := mX10_number) (pc := 107) (v := 0) 108 dX10_number_107 rfl ic0 ?_
    refine g_cV_VH (M := mX10_number) (pc := 108) (M' := mX10_needs) (rest := []) 111 dX10_number_108 rfl kX10_259 okX10_needs (CX10_needs 0 h6 L) oO32 rfl rfl rfl rfl (fun h7 => ?_)
    exact g_vret (M := mX10_number) (pc := 111) dX10_number_111 rfl (fun z => z)
  · refine g_iload (M := mX10_number) (pc := 90) 92 dX10_number_90 rfl rfl ?_
    refine g_i2l (M := mX10_number) (pc := 92) 93 dX10_number_92 rfl ?_
    refine g_iload_n (M := mX10_number) (pc := 93) 94 dX10_number_93 rfl rfl rfl ?_
    refine g_i2l (M := mX10_number) (pc := 94) 95 dX10_number_94 rfl ?_
    refine g_iload_n (M := mX10_number) (pc := 95) 96 dX10_number_95 rfl rfl rfl ?_
    refine g_i2l (M := mX10_number) (pc := 96) 97 dX10_number_96 rfl ?_
    refine g_cS_I (M := mX10_number) (pc := 97) (M' := mX10_in) (rest := [aR 8 32]) 100 dX10_number_97 rfl kX10_45 okX10_in (CX10_in (Int32.toInt64 a4) (Int32.toInt64 a1) (Int32.toInt64 a2) h6 L) rfl rfl rfl rfl (fun r8 => ?_)
    refine g_if_eq (M := mX10_number) (pc := 100) 107 103 dX10_number_100 (by decide) rfl (fun _ => ?_) (fun _ => ?_)
    · refine g_iconst (M := mX10_number) (pc := 107) (v := 0) 108 dX10_number_107 rfl ic0 ?_
      refine g_cV_VH (M := mX10_number) (pc := 108) (M' := mX10_needs) (rest := []) 111 dX10_number_108 rfl kX10_259 okX10_needs (CX10_needs 0 h6 L) oO32 rfl rfl rfl rfl (fun h9 => ?_)
      exact g_vret (M := mX10_number) (pc := 111) dX10_number_111 rfl (fun z => z)
    · refine g_iconst (M := mX10_number) (pc := 103) (v := 1) 104 dX10_number_103 rfl ic1 ?_
      refine g_goto (M := mX10_number) (pc := 104) 108 dX10_number_104 (by decide) ?_
      refine g_cV_VH (M := mX10_number) (pc := 108) (M' := mX10_needs) (rest := []) 111 dX10_number_108 rfl kX10_259 okX10_needs (CX10_needs 1 h6 L) oO32 rfl rfl rfl rfl (fun h10 => ?_)
      exact g_vret (M := mX10_number) (pc := 111) dX10_number_111 rfl (fun z => z)
set_option maxRecDepth 100000 in
set_option maxHeartbeats 4000000 in
theorem CX10_number (a1 : Int32) (a2 : Int32) (h : HI) (L : HL) : CG mX10_number 4 [aR 8 32, aI a1, aI a2] h L (lfVH L) (FX10_number a1 a2 h) := by
  unfold FX10_number
  refine cg_of [some (aR 8 32), some (aI a1), some (aI a2), none, none, none] rfl (by decide) rfl rfl (fun T => ?_)
  refine g_aload_n (M := mX10_number) (pc := 0) 1 dX10_number_0 rfl rfl rfl ?_
  refine g_getI (M := mX10_number) (pc := 1) 4 dX10_number_1 rfl fX10_245 oF32_16 ?_
  refine g_if_eq (M := mX10_number) (pc := 4) 8 7 dX10_number_4 (by decide) rfl (fun _ => ?_) (fun _ => ?_)
  · refine g_aload_n (M := mX10_number) (pc := 8) 9 dX10_number_8 rfl rfl rfl ?_
    refine g_aload_n (M := mX10_number) (pc := 9) 10 dX10_number_9 rfl rfl rfl ?_
    refine g_getI (M := mX10_number) (pc := 10) 13 dX10_number_10 rfl fX10_233 oF32_13 ?_
    refine g_cV_I (M := mX10_number) (pc := 13) (M' := mX10_byteAt) (rest := []) 16 dX10_number_13 rfl kX10_236 okX10_byteAt (CX10_byteAt (h 8 32 13) h L) oO32 rfl rfl rfl rfl (fun r1 => ?_)
    refine g_cS_I (M := mX10_number) (pc := 16) (M' := mX10_isDigit) (rest := []) 19 dX10_number_16 rfl kX10_242 okX10_isDigit (CX10_isDigit r1 h L) rfl rfl rfl rfl (fun r2 => ?_)
    refine g_istore_n (M := mX10_number) (pc := 19) (ls' := [some (aR 8 32), some (aI a1), some (aI a2), some (aI r2), none, none]) 20 dX10_number_19 rfl rfl rfl rfl ?_
    refine g_iconst (M := mX10_number) (pc := 20) (v := 0) 21 dX10_number_20 rfl ic0 ?_
    refine g_istore (M := mX10_number) (pc := 21) (ls' := [some (aR 8 32), some (aI a1), some (aI a2), some (aI r2), some (aI 0), none]) 23 dX10_number_21 rfl rfl rfl ?_
    refine g_aload_n (M := mX10_number) (pc := 23) 24 dX10_number_23 rfl rfl rfl ?_
    refine g_getI (M := mX10_number) (pc := 24) 27 dX10_number_24 rfl fX10_233 oF32_13 ?_
    refine g_nmI (fun t3 => ?_)
    refine g_istore (M := mX10_number) (pc := 27) (ls' := [some (aR 8 32), some (aI a1), some (aI a2), some (aI r2), some (aI 0), some (aI t3)]) 29 dX10_number_27 rfl rfl rfl ?_
    refine g_loop (fun s => SX10_number_29_ok a1 a2 r2 h L T s.1 s.2) ?_ (fun z => v_fgt [true, true, true, true, true, true] z)
    intro e5
    show VX mX10_number 4 T _ 79 [some (aR 8 32), some (aI a1), some (aI a2), some (aI r2), some (aI e5), none] [] h L _
    exact g_fgt [true, true, true, true, true, false] (JX10_number_79_ok a1 a2 r2 e5 T h L)
  · exact g_vret (M := mX10_number) (pc := 7) dX10_number_7 rfl (fun z => z)
def FX10_kindHere (h : HI) : Option (Int32) :=
  Option.bind (FX10_word h) fun r1 =>
  if (lg_cmp r1 545850981) = 0 then
    some 0
  else
    if (lg_cmp r1 21243335) = 0 then
      some 1
    else
      if (lg_cmp r1 605701) = 0 then
        some 2
      else
        if (lg_cmp r1 492210354) = 0 then
          some 3
        else
          if (lg_cmp r1 14141236679) = 0 then
            some 4
          else
            if (lg_cmp r1 723752404) = 0 then
              some 5
            else
              some (-1)
set_option maxRecDepth 100000 in
set_option maxHeartbeats 4000000 in
theorem CX10_kindHere (h : HI) (L : HL) : CG mX10_kindHere 3 [aR 8 32] h L (lfI h L) (FX10_kindHere h) := by
  unfold FX10_kindHere
  refine cg_of [some (aR 8 32), none, none] rfl (by decide) rfl rfl (fun T => ?_)
  refine g_aload_n (M := mX10_kindHere) (pc := 0) 1 dX10_kindHere_0 rfl rfl rfl ?_
  refine g_cV_J (M := mX10_kindHere) (pc := 1) (M' := mX10_word) (rest := []) 4 dX10_kindHere_1 rfl kX10_263 okX10_word (CX10_word h L) oO32 rfl rfl rfl rfl (fun r1 => ?_)
  refine g_lstore_n (M := mX10_kindHere) (pc := 4) (ls' := [some (aR 8 32), some (aL r1), none]) 5 dX10_kindHere_4 rfl rfl rfl rfl ?_
  refine g_lload_n (M := mX10_kindHere) (pc := 5) 6 dX10_kindHere_5 rfl rfl rfl ?_
  refine g_ldc2 (M := mX10_kindHere) (pc := 6) 9 dX10_kindHere_6 rfl cX10_267 ?_
  refine g_lcmp (M := mX10_kindHere) (pc := 9) 10 dX10_kindHere_9 rfl ?_
  refine g_if_ne (M := mX10_kindHere) (pc := 10) 17 13 dX10_kindHere_10 (by decide) rfl (fun _ => ?_) (fun _ => ?_)
  · refine g_lload_n (M := mX10_kindHere) (pc := 17) 18 dX10_kindHere_17 rfl rfl rfl ?_
    refine g_ldc2 (M := mX10_kindHere) (pc := 18) 21 dX10_kindHere_18 rfl cX10_269 ?_
    refine g_lcmp (M := mX10_kindHere) (pc := 21) 22 dX10_kindHere_21 rfl ?_
    refine g_if_ne (M := mX10_kindHere) (pc := 22) 29 25 dX10_kindHere_22 (by decide) rfl (fun _ => ?_) (fun _ => ?_)
    · refine g_lload_n (M := mX10_kindHere) (pc := 29) 30 dX10_kindHere_29 rfl rfl rfl ?_
      refine g_ldc2 (M := mX10_kindHere) (pc := 30) 33 dX10_kindHere_30 rfl cX10_271 ?_
      refine g_lcmp (M := mX10_kindHere) (pc := 33) 34 dX10_kindHere_33 rfl ?_
      refine g_if_ne (M := mX10_kindHere) (pc := 34) 41 37 dX10_kindHere_34 (by decide) rfl (fun _ => ?_) (fun _ => ?_)
      · refine g_lload_n (M := mX10_kindHere) (pc := 41) 42 dX10_kindHere_41 rfl rfl rfl ?_
        refine g_ldc2 (M := mX10_kindHere) (pc := 42) 45 dX10_kindHere_42 rfl cX10_273 ?_
        refine g_lcmp (M := mX10_kindHere) (pc := 45) 46 dX10_kindHere_45 rfl ?_
        refine g_if_ne (M := mX10_kindHere) (pc := 46) 53 49 dX10_kindHere_46 (by decide) rfl (fun _ => ?_) (fun _ => ?_)
        · refine g_lload_n (M := mX10_kindHere) (pc := 53) 54 dX10_kindHere_53 rfl rfl rfl ?_
          refine g_ldc2 (M := mX10_kindHere) (pc := 54) 57 dX10_kindHere_54 rfl cX10_275 ?_
          refine g_lcmp (M := mX10_kindHere) (pc := 57) 58 dX10_kindHere_57 rfl ?_
          refine g_if_ne (M := mX10_kindHere) (pc := 58) 65 61 dX10_kindHere_58 (by decide) rfl (fun _ => ?_) (fun _ => ?_)
          · refine g_lload_n (M := mX10_kindHere) (pc := 65) 66 dX10_kindHere_65 rfl rfl rfl ?_
            refine g_ldc2 (M := mX10_kindHere) (pc := 66) 69 dX10_kindHere_66 rfl cX10_277 ?_
            refine g_lcmp (M := mX10_kindHere) (pc := 69) 70 dX10_kindHere_69 rfl ?_
            refine g_if_ne (M := mX10_kindHere) (pc := 70) 77 73 dX10_kindHere_70 (by decide) rfl (fun _ => ?_) (fun _ => ?_)
            · refine g_iconst (M := mX10_kindHere) (pc := 77) (v := (-1)) 78 dX10_kindHere_77 rfl icm1 ?_
              exact g_iret (M := mX10_kindHere) (pc := 78) dX10_kindHere_78 rfl rfl (fun z => z)
            · refine g_iconst (M := mX10_kindHere) (pc := 73) (v := 5) 74 dX10_kindHere_73 rfl ic5 ?_
              refine g_goto (M := mX10_kindHere) (pc := 74) 78 dX10_kindHere_74 (by decide) ?_
              exact g_iret (M := mX10_kindHere) (pc := 78) dX10_kindHere_78 rfl rfl (fun z => z)
          · refine g_iconst (M := mX10_kindHere) (pc := 61) (v := 4) 62 dX10_kindHere_61 rfl ic4 ?_
            refine g_goto (M := mX10_kindHere) (pc := 62) 78 dX10_kindHere_62 (by decide) ?_
            exact g_iret (M := mX10_kindHere) (pc := 78) dX10_kindHere_78 rfl rfl (fun z => z)
        · refine g_iconst (M := mX10_kindHere) (pc := 49) (v := 3) 50 dX10_kindHere_49 rfl ic3 ?_
          refine g_goto (M := mX10_kindHere) (pc := 50) 78 dX10_kindHere_50 (by decide) ?_
          exact g_iret (M := mX10_kindHere) (pc := 78) dX10_kindHere_78 rfl rfl (fun z => z)
      · refine g_iconst (M := mX10_kindHere) (pc := 37) (v := 2) 38 dX10_kindHere_37 rfl ic2 ?_
        refine g_goto (M := mX10_kindHere) (pc := 38) 78 dX10_kindHere_38 (by decide) ?_
        exact g_iret (M := mX10_kindHere) (pc := 78) dX10_kindHere_78 rfl rfl (fun z => z)
    · refine g_iconst (M := mX10_kindHere) (pc := 25) (v := 1) 26 dX10_kindHere_25 rfl ic1 ?_
      refine g_goto (M := mX10_kindHere) (pc := 26) 78 dX10_kindHere_26 (by decide) ?_
      exact g_iret (M := mX10_kindHere) (pc := 78) dX10_kindHere_78 rfl rfl (fun z => z)
  · refine g_iconst (M := mX10_kindHere) (pc := 13) (v := 0) 14 dX10_kindHere_13 rfl ic0 ?_
    refine g_goto (M := mX10_kindHere) (pc := 14) 78 dX10_kindHere_14 (by decide) ?_
    exact g_iret (M := mX10_kindHere) (pc := 78) dX10_kindHere_78 rfl rfl (fun z => z)
def FX10_perhaps (a1 : Int32) (a2 : Int32) (a3 : Int32) (a4 : Int32) (h : HI) : Option (Int32 × HI) :=
  if a1 = 0 then
    some (a4, h)
  else
    Option.bind (FX10_needs 1 h) fun h1 =>
    Option.bind (FX10_number a2 a3 h1) fun h2 =>
    some ((h2 8 32 15), h2)
set_option maxRecDepth 100000 in
set_option maxHeartbeats 4000000 in
theorem CX10_perhaps (a1 : Int32) (a2 : Int32) (a3 : Int32) (a4 : Int32) (h : HI) (L : HL) : CG mX10_perhaps 5 [aR 8 32, aI a1, aI a2, aI a3, aI a4] h L (lfIH L) (FX10_perhaps a1 a2 a3 a4 h) := by
  unfold FX10_perhaps
  refine cg_of [some (aR 8 32), some (aI a1), some (aI a2), some (aI a3), some (aI a4)] rfl (by decide) rfl rfl (fun T => ?_)
  refine g_iload_n (M := mX10_perhaps) (pc := 0) 1 dX10_perhaps_0 rfl rfl rfl ?_
  refine g_if_ne (M := mX10_perhaps) (pc := 1) 7 4 dX10_perhaps_1 (by decide) rfl (fun _ => ?_) (fun _ => ?_)
  · refine g_aload_n (M := mX10_perhaps) (pc := 7) 8 dX10_perhaps_7 rfl rfl rfl ?_
    refine g_iconst (M := mX10_perhaps) (pc := 8) (v := 1) 9 dX10_perhaps_8 rfl ic1 ?_
    refine g_cV_VH (M := mX10_perhaps) (pc := 9) (M' := mX10_needs) (rest := []) 12 dX10_perhaps_9 rfl kX10_259 okX10_needs (CX10_needs 1 h L) oO32 rfl rfl rfl rfl (fun h1 => ?_)
    refine g_aload_n (M := mX10_perhaps) (pc := 12) 13 dX10_perhaps_12 rfl rfl rfl ?_
    refine g_iload_n (M := mX10_perhaps) (pc := 13) 14 dX10_perhaps_13 rfl rfl rfl ?_
    refine g_iload_n (M := mX10_perhaps) (pc := 14) 15 dX10_perhaps_14 rfl rfl rfl ?_
    refine g_cV_VH (M := mX10_perhaps) (pc := 15) (M' := mX10_number) (rest := []) 18 dX10_perhaps_15 rfl kX10_279 okX10_number (CX10_number a2 a3 h1 L) oO32 rfl rfl rfl rfl (fun h2 => ?_)
    refine g_aload_n (M := mX10_perhaps) (pc := 18) 19 dX10_perhaps_18 rfl rfl rfl ?_
    refine g_getI (M := mX10_perhaps) (pc := 19) 22 dX10_perhaps_19 rfl fX10_256 oF32_15 ?_
    exact g_iret (M := mX10_perhaps) (pc := 22) dX10_perhaps_22 rfl rfl (fun z => z)
  · refine g_iload (M := mX10_perhaps) (pc := 4) 6 dX10_perhaps_4 rfl rfl ?_
    exact g_iret (M := mX10_perhaps) (pc := 6) dX10_perhaps_6 rfl rfl (fun z => z)
def JX10_phraseItem_74 (a1 : Int32) (a2 : Int32) (a3 : Int32) (s1 : Int32) (h : HI) : Option (HI) :=
  Option.bind (FX10_perhaps s1 0 10 7 h) fun (r8, h9) =>
  if (h9 8 32 16) = 0 then
    Option.bind (FX10_newPhrase a1 a2 a3 r8 h9) fun (r10, h11) =>
    some h11
  else
    some h9
def JX10_phraseItem_49 (a1 : Int32) (a2 : Int32) (s1 : Int32) (h : HI) : Option (HI) :=
  Option.bind (FX10_perhaps s1 1 60 5 h) fun (r5, h6) =>
  Option.bind (FX10_word h6) fun r7 =>
  if (lg_cmp r7 20436420) = 0 then
    JX10_phraseItem_74 a1 a2 r5 1 h6
  else
    JX10_phraseItem_74 a1 a2 r5 0 h6
def JX10_phraseItem_17 (a1 : Int32) (s1 : Int32) (h : HI) : Option (HI) :=
  Option.bind (FX10_needs s1 h) fun h1 =>
  Option.bind (FX10_number 0 9 h1) fun h2 =>
  nm (h2 8 32 15) fun t3 =>
  Option.bind (FX10_word h2) fun r4 =>
  if (lg_cmp r4 14276022451) = 0 then
    JX10_phraseItem_49 a1 t3 1 h2
  else
    JX10_phraseItem_49 a1 t3 0 h2
def FX10_phraseItem (a1 : Int32) (h : HI) : Option (HI) :=
  if 12 ≤ (h 8 33 0) then
    JX10_phraseItem_17 a1 0 h
  else
    JX10_phraseItem_17 a1 1 h
set_option maxRecDepth 100000 in
set_option maxHeartbeats 4000000 in
theorem JX10_phraseItem_74_ok (a1 : Int32) (a2 : Int32) (a3 : Int32) (s1 : Int32) (T : ZT) (h : HI) (L : HL) : VX mX10_phraseItem 6 T (fun r => Zl (lfVH L) r = T) 74 [some (aR 8 32), some (aI a1), some (aI a2), some (aI a3), none, none] [aI s1, aR 8 32] h L (JX10_phraseItem_74 a1 a2 a3 s1 h) := by
  unfold JX10_phraseItem_74
  refine g_iconst (M := mX10_phraseItem) (pc := 74) (v := 0) 75 dX10_phraseItem_74 rfl ic0 ?_
  refine g_bipush (M := mX10_phraseItem) (pc := 75) (v := 10) 77 dX10_phraseItem_75 rfl bp10 ?_
  refine g_bipush (M := mX10_phraseItem) (pc := 77) (v := 7) 79 dX10_phraseItem_77 rfl bp7 ?_
  refine g_cV_IH (M := mX10_phraseItem) (pc := 79) (M' := mX10_perhaps) (rest := []) 82 dX10_phraseItem_79 rfl kX10_283 okX10_perhaps (CX10_perhaps s1 0 10 7 h L) oO32 rfl rfl rfl rfl (fun r8 h9 => ?_)
  refine g_istore (M := mX10_phraseItem) (pc := 82) (ls' := [some (aR 8 32), some (aI a1), some (aI a2), some (aI a3), some (aI r8), none]) 84 dX10_phraseItem_82 rfl rfl rfl ?_
  refine g_aload_n (M := mX10_phraseItem) (pc := 84) 85 dX10_phraseItem_84 rfl rfl rfl ?_
  refine g_getI (M := mX10_phraseItem) (pc := 85) 88 dX10_phraseItem_85 rfl fX10_245 oF32_16 ?_
  refine g_if_ne (M := mX10_phraseItem) (pc := 88) 102 91 dX10_phraseItem_88 (by decide) rfl (fun _ => ?_) (fun _ => ?_)
  · exact g_vret (M := mX10_phraseItem) (pc := 102) dX10_phraseItem_102 rfl (fun z => z)
  · refine g_aload_n (M := mX10_phraseItem) (pc := 91) 92 dX10_phraseItem_91 rfl rfl rfl ?_
    refine g_iload_n (M := mX10_phraseItem) (pc := 92) 93 dX10_phraseItem_92 rfl rfl rfl ?_
    refine g_iload_n (M := mX10_phraseItem) (pc := 93) 94 dX10_phraseItem_93 rfl rfl rfl ?_
    refine g_iload_n (M := mX10_phraseItem) (pc := 94) 95 dX10_phraseItem_94 rfl rfl rfl ?_
    refine g_iload (M := mX10_phraseItem) (pc := 95) 97 dX10_phraseItem_95 rfl rfl ?_
    refine g_cV_IH (M := mX10_phraseItem) (pc := 97) (M' := mX10_newPhrase) (rest := []) 100 dX10_phraseItem_97 rfl kX10_72 okX10_newPhrase (CX10_newPhrase a1 a2 a3 r8 h9 L) oO32 rfl rfl rfl rfl (fun r10 h11 => ?_)
    refine g_istore (M := mX10_phraseItem) (pc := 100) (ls' := [some (aR 8 32), some (aI a1), some (aI a2), some (aI a3), some (aI r8), some (aI r10)]) 102 dX10_phraseItem_100 rfl rfl rfl ?_
    exact g_vret (M := mX10_phraseItem) (pc := 102) dX10_phraseItem_102 rfl (fun z => z)
set_option maxRecDepth 100000 in
set_option maxHeartbeats 4000000 in
theorem JX10_phraseItem_49_ok (a1 : Int32) (a2 : Int32) (s1 : Int32) (T : ZT) (h : HI) (L : HL) : VX mX10_phraseItem 6 T (fun r => Zl (lfVH L) r = T) 49 [some (aR 8 32), some (aI a1), some (aI a2), none, none, none] [aI s1, aR 8 32] h L (JX10_phraseItem_49 a1 a2 s1 h) := by
  unfold JX10_phraseItem_49
  refine g_iconst (M := mX10_phraseItem) (pc := 49) (v := 1) 50 dX10_phraseItem_49 rfl ic1 ?_
  refine g_bipush (M := mX10_phraseItem) (pc := 50) (v := 60) 52 dX10_phraseItem_50 rfl bp60 ?_
  refine g_iconst (M := mX10_phraseItem) (pc := 52) (v := 5) 53 dX10_phraseItem_52 rfl ic5 ?_
  refine g_cV_IH (M := mX10_phraseItem) (pc := 53) (M' := mX10_perhaps) (rest := []) 56 dX10_phraseItem_53 rfl kX10_283 okX10_perhaps (CX10_perhaps s1 1 60 5 h L) oO32 rfl rfl rfl rfl (fun r5 h6 => ?_)
  refine g_istore_n (M := mX10_phraseItem) (pc := 56) (ls' := [some (aR 8 32), some (aI a1), some (aI a2), some (aI r5), none, none]) 57 dX10_phraseItem_56 rfl rfl rfl rfl ?_
  refine g_aload_n (M := mX10_phraseItem) (pc := 57) 58 dX10_phraseItem_57 rfl rfl rfl ?_
  refine g_aload_n (M := mX10_phraseItem) (pc := 58) 59 dX10_phraseItem_58 rfl rfl rfl ?_
  refine g_cV_J (M := mX10_phraseItem) (pc := 59) (M' := mX10_word) (rest := [aR 8 32]) 62 dX10_phraseItem_59 rfl kX10_263 okX10_word (CX10_word h6 L) oO32 rfl rfl rfl rfl (fun r7 => ?_)
  refine g_ldc2 (M := mX10_phraseItem) (pc := 62) 65 dX10_phraseItem_62 rfl cX10_287 ?_
  refine g_lcmp (M := mX10_phraseItem) (pc := 65) 66 dX10_phraseItem_65 rfl ?_
  refine g_if_ne (M := mX10_phraseItem) (pc := 66) 73 69 dX10_phraseItem_66 (by decide) rfl (fun _ => ?_) (fun _ => ?_)
  · refine g_iconst (M := mX10_phraseItem) (pc := 73) (v := 0) 74 dX10_phraseItem_73 rfl ic0 ?_
    exact g_fgt [true, true, true, true, false, false] (JX10_phraseItem_74_ok a1 a2 r5 0 T h6 L)
  · refine g_iconst (M := mX10_phraseItem) (pc := 69) (v := 1) 70 dX10_phraseItem_69 rfl ic1 ?_
    refine g_goto (M := mX10_phraseItem) (pc := 70) 74 dX10_phraseItem_70 (by decide) ?_
    exact g_fgt [true, true, true, true, false, false] (JX10_phraseItem_74_ok a1 a2 r5 1 T h6 L)
set_option maxRecDepth 100000 in
set_option maxHeartbeats 4000000 in
theorem JX10_phraseItem_17_ok (a1 : Int32) (s1 : Int32) (T : ZT) (h : HI) (L : HL) : VX mX10_phraseItem 6 T (fun r => Zl (lfVH L) r = T) 17 [some (aR 8 32), some (aI a1), none, none, none, none] [aI s1, aR 8 32] h L (JX10_phraseItem_17 a1 s1 h) := by
  unfold JX10_phraseItem_17
  refine g_cV_VH (M := mX10_phraseItem) (pc := 17) (M' := mX10_needs) (rest := []) 20 dX10_phraseItem_17 rfl kX10_259 okX10_needs (CX10_needs s1 h L) oO32 rfl rfl rfl rfl (fun h1 => ?_)
  refine g_aload_n (M := mX10_phraseItem) (pc := 20) 21 dX10_phraseItem_20 rfl rfl rfl ?_
  refine g_iconst (M := mX10_phraseItem) (pc := 21) (v := 0) 22 dX10_phraseItem_21 rfl ic0 ?_
  refine g_bipush (M := mX10_phraseItem) (pc := 22) (v := 9) 24 dX10_phraseItem_22 rfl bp9 ?_
  refine g_cV_VH (M := mX10_phraseItem) (pc := 24) (M' := mX10_number) (rest := []) 27 dX10_phraseItem_24 rfl kX10_279 okX10_number (CX10_number 0 9 h1 L) oO32 rfl rfl rfl rfl (fun h2 => ?_)
  refine g_aload_n (M := mX10_phraseItem) (pc := 27) 28 dX10_phraseItem_27 rfl rfl rfl ?_
  refine g_getI (M := mX10_phraseItem) (pc := 28) 31 dX10_phraseItem_28 rfl fX10_256 oF32_15 ?_
  refine g_nmI (fun t3 => ?_)
  refine g_istore_n (M := mX10_phraseItem) (pc := 31) (ls' := [some (aR 8 32), some (aI a1), some (aI t3), none, none, none]) 32 dX10_phraseItem_31 rfl rfl rfl rfl ?_
  refine g_aload_n (M := mX10_phraseItem) (pc := 32) 33 dX10_phraseItem_32 rfl rfl rfl ?_
  refine g_aload_n (M := mX10_phraseItem) (pc := 33) 34 dX10_phraseItem_33 rfl rfl rfl ?_
  refine g_cV_J (M := mX10_phraseItem) (pc := 34) (M' := mX10_word) (rest := [aR 8 32]) 37 dX10_phraseItem_34 rfl kX10_263 okX10_word (CX10_word h2 L) oO32 rfl rfl rfl rfl (fun r4 => ?_)
  refine g_ldc2 (M := mX10_phraseItem) (pc := 37) 40 dX10_phraseItem_37 rfl cX10_281 ?_
  refine g_lcmp (M := mX10_phraseItem) (pc := 40) 41 dX10_phraseItem_40 rfl ?_
  refine g_if_ne (M := mX10_phraseItem) (pc := 41) 48 44 dX10_phraseItem_41 (by decide) rfl (fun _ => ?_) (fun _ => ?_)
  · refine g_iconst (M := mX10_phraseItem) (pc := 48) (v := 0) 49 dX10_phraseItem_48 rfl ic0 ?_
    exact g_fgt [true, true, true, false, false, false] (JX10_phraseItem_49_ok a1 t3 0 T h2 L)
  · refine g_iconst (M := mX10_phraseItem) (pc := 44) (v := 1) 45 dX10_phraseItem_44 rfl ic1 ?_
    refine g_goto (M := mX10_phraseItem) (pc := 45) 49 dX10_phraseItem_45 (by decide) ?_
    exact g_fgt [true, true, true, false, false, false] (JX10_phraseItem_49_ok a1 t3 1 T h2 L)
set_option maxRecDepth 100000 in
set_option maxHeartbeats 4000000 in
theorem CX10_phraseItem (a1 : Int32) (h : HI) (L : HL) : CG mX10_phraseItem 6 [aR 8 32, aI a1] h L (lfVH L) (FX10_phraseItem a1 h) := by
  unfold FX10_phraseItem
  refine cg_of [some (aR 8 32), some (aI a1), none, none, none, none] rfl (by decide) rfl rfl (fun T => ?_)
  refine g_aload_n (M := mX10_phraseItem) (pc := 0) 1 dX10_phraseItem_0 rfl rfl rfl ?_
  refine g_aload_n (M := mX10_phraseItem) (pc := 1) 2 dX10_phraseItem_1 rfl rfl rfl ?_
  refine g_getR (M := mX10_phraseItem) (pc := 2) 5 dX10_phraseItem_2 rfl fX10_7 oR32_0 ?_
  refine g_iconst (M := mX10_phraseItem) (pc := 5) (v := 0) 6 dX10_phraseItem_5 rfl ic0 ?_
  refine g_ialdC (M := mX10_phraseItem) (pc := 6) (j := 0) 7 dX10_phraseItem_6 rfl oA33 rfl rfl ?_
  refine g_bipush (M := mX10_phraseItem) (pc := 7) (v := 12) 9 dX10_phraseItem_7 rfl bp12 ?_
  refine g_icmp_ge (M := mX10_phraseItem) (pc := 9) 16 12 dX10_phraseItem_9 (by decide) rfl (fun _ => ?_) (fun _ => ?_)
  · refine g_iconst (M := mX10_phraseItem) (pc := 16) (v := 0) 17 dX10_phraseItem_16 rfl ic0 ?_
    exact g_fgt [true, true, false, false, false, false] (JX10_phraseItem_17_ok a1 0 T h L)
  · refine g_iconst (M := mX10_phraseItem) (pc := 12) (v := 1) 13 dX10_phraseItem_12 rfl ic1 ?_
    refine g_goto (M := mX10_phraseItem) (pc := 13) 17 dX10_phraseItem_13 (by decide) ?_
    exact g_fgt [true, true, false, false, false, false] (JX10_phraseItem_17_ok a1 1 T h L)
def JX10_wantItem_191 (a5 : Int32) (a6 : Int32) (s1 : Int32) (s2 : Int32) (h : HI) : Option (HI) :=
  gd (ixb s1 150) <|
  nm (hP1 h 8 33 (nC s1) s2) fun h16 =>
  if a5 = 0 then
    gd (ixb ((78 + (5 * a6)) + 4) 150) <|
    nm (hP1 h16 8 33 (nC ((78 + (5 * a6)) + 4)) 0) fun h17 =>
    some h17
  else
    gd (ixb ((78 + (5 * a6)) + 4) 150) <|
    nm (hP1 h16 8 33 (nC ((78 + (5 * a6)) + 4)) 1) fun h18 =>
    some h18
def JX10_wantItem_152 (a1 : Int32) (a2 : Int32) (a3 : Int32) (a4 : Int32) (a5 : Int32) (h : HI) : Option (HI) :=
  if (h 8 32 16) = 0 then
    Option.bind (FX10_newWant a1 a2 a3 h) fun (r14, h15) =>
    if a4 = 0 then
      JX10_wantItem_191 a5 r14 ((78 + (5 * r14)) + 3) 0 h15
    else
      JX10_wantItem_191 a5 r14 ((78 + (5 * r14)) + 3) 1 h15
  else
    some h
def JX10_wantItem_140 (a1 : Int32) (a2 : Int32) (a3 : Int32) (a4 : Int32) (s0 : Int32) (h : HI) : Option (HI) :=
  if s0 = 0 then
    JX10_wantItem_152 a1 a2 a3 a4 s0 h
  else
    Option.bind (FX10_needs 1 h) fun h19 =>
    JX10_wantItem_152 a1 a2 a3 a4 s0 h19
def JX10_wantItem_124 (a1 : Int32) (a2 : Int32) (a3 : Int32) (a4 : Int32) (h : HI) : Option (HI) :=
  Option.bind (FX10_word h) fun r13 =>
  if (lg_cmp r13 3659220) = 0 then
    JX10_wantItem_140 a1 a2 a3 a4 1 h
  else
    JX10_wantItem_140 a1 a2 a3 a4 0 h
def JX10_wantItem_112 (a1 : Int32) (a2 : Int32) (a3 : Int32) (s0 : Int32) (h : HI) : Option (HI) :=
  if s0 = 0 then
    JX10_wantItem_124 a1 a2 a3 s0 h
  else
    Option.bind (FX10_needs 1 h) fun h20 =>
    JX10_wantItem_124 a1 a2 a3 s0 h20
def JX10_wantItem_81 (a1 : Int32) (a2 : Int32) (s1 : Int32) (h : HI) : Option (HI) :=
  Option.bind (FX10_needs s1 h) fun h9 =>
  Option.bind (FX10_number 0 99 h9) fun h10 =>
  nm (h10 8 32 15) fun t11 =>
  Option.bind (FX10_word h10) fun r12 =>
  if (lg_cmp r12 9095769) = 0 then
    JX10_wantItem_112 a1 a2 t11 1 h10
  else
    JX10_wantItem_112 a1 a2 t11 0 h10
def JX10_wantItem_49 (a1 : Int32) (s1 : Int32) (h : HI) : Option (HI) :=
  Option.bind (FX10_needs s1 h) fun h5 =>
  Option.bind (FX10_number 0 99 h5) fun h6 =>
  nm (h6 8 32 15) fun t7 =>
  Option.bind (FX10_word h6) fun r8 =>
  if (lg_cmp r8 4153) = 0 then
    JX10_wantItem_81 a1 t7 1 h6
  else
    JX10_wantItem_81 a1 t7 0 h6
def JX10_wantItem_17 (s1 : Int32) (h : HI) : Option (HI) :=
  Option.bind (FX10_needs s1 h) fun h1 =>
  Option.bind (FX10_number 0 9 h1) fun h2 =>
  nm (h2 8 32 15) fun t3 =>
  Option.bind (FX10_word h2) fun r4 =>
  if (lg_cmp r4 24627848) = 0 then
    JX10_wantItem_49 t3 1 h2
  else
    JX10_wantItem_49 t3 0 h2
def FX10_wantItem (h : HI) : Option (HI) :=
  if 12 ≤ (h 8 33 1) then
    JX10_wantItem_17 0 h
  else
    JX10_wantItem_17 1 h
set_option maxRecDepth 100000 in
set_option maxHeartbeats 4000000 in
theorem JX10_wantItem_191_ok (a5 : Int32) (a6 : Int32) (s1 : Int32) (s2 : Int32) (T : ZT) (h : HI) (L : HL) : VX mX10_wantItem 5 T (fun r => Zl (lfVH L) r = T) 191 [some (aR 8 32), none, none, none, none, some (aI a5), some (aI a6)] [aI s2, aI s1, aR 8 33] h L (JX10_wantItem_191 a5 a6 s1 s2 h) := by
  unfold JX10_wantItem_191
  refine g_iast (M := mX10_wantItem) (pc := 191) 192 dX10_wantItem_191 rfl oA33 (fun h16 => ?_)
  refine g_aload_n (M := mX10_wantItem) (pc := 192) 193 dX10_wantItem_192 rfl rfl rfl ?_
  refine g_getR (M := mX10_wantItem) (pc := 193) 196 dX10_wantItem_193 rfl fX10_7 oR32_0 ?_
  refine g_bipush (M := mX10_wantItem) (pc := 196) (v := 78) 198 dX10_wantItem_196 rfl bp78 ?_
  refine g_iconst (M := mX10_wantItem) (pc := 198) (v := 5) 199 dX10_wantItem_198 rfl ic5 ?_
  refine g_iload (M := mX10_wantItem) (pc := 199) 201 dX10_wantItem_199 rfl rfl ?_
  refine g_imul (M := mX10_wantItem) (pc := 201) 202 dX10_wantItem_201 rfl ?_
  refine g_iadd (M := mX10_wantItem) (pc := 202) 203 dX10_wantItem_202 rfl ?_
  refine g_iconst (M := mX10_wantItem) (pc := 203) (v := 4) 204 dX10_wantItem_203 rfl ic4 ?_
  refine g_iadd (M := mX10_wantItem) (pc := 204) 205 dX10_wantItem_204 rfl ?_
  refine g_iload (M := mX10_wantItem) (pc := 205) 207 dX10_wantItem_205 rfl rfl ?_
  refine g_if_eq (M := mX10_wantItem) (pc := 207) 214 210 dX10_wantItem_207 (by decide) rfl (fun _ => ?_) (fun _ => ?_)
  · refine g_iconst (M := mX10_wantItem) (pc := 214) (v := 0) 215 dX10_wantItem_214 rfl ic0 ?_
    refine g_iast (M := mX10_wantItem) (pc := 215) 216 dX10_wantItem_215 rfl oA33 (fun h17 => ?_)
    exact g_vret (M := mX10_wantItem) (pc := 216) dX10_wantItem_216 rfl (fun z => z)
  · refine g_iconst (M := mX10_wantItem) (pc := 210) (v := 1) 211 dX10_wantItem_210 rfl ic1 ?_
    refine g_goto (M := mX10_wantItem) (pc := 211) 215 dX10_wantItem_211 (by decide) ?_
    refine g_iast (M := mX10_wantItem) (pc := 215) 216 dX10_wantItem_215 rfl oA33 (fun h18 => ?_)
    exact g_vret (M := mX10_wantItem) (pc := 216) dX10_wantItem_216 rfl (fun z => z)
set_option maxRecDepth 100000 in
set_option maxHeartbeats 4000000 in
theorem JX10_wantItem_152_ok (a1 : Int32) (a2 : Int32) (a3 : Int32) (a4 : Int32) (a5 : Int32) (T : ZT) (h : HI) (L : HL) : VX mX10_wantItem 5 T (fun r => Zl (lfVH L) r = T) 152 [some (aR 8 32), some (aI a1), some (aI a2), some (aI a3), some (aI a4), some (aI a5), none] [] h L (JX10_wantItem_152 a1 a2 a3 a4 a5 h) := by
  unfold JX10_wantItem_152
  refine g_aload_n (M := mX10_wantItem) (pc := 152) 153 dX10_wantItem_152 rfl rfl rfl ?_
  refine g_getI (M := mX10_wantItem) (pc := 153) 156 dX10_wantItem_153 rfl fX10_245 oF32_16 ?_
  refine g_if_ne (M := mX10_wantItem) (pc := 156) 216 159 dX10_wantItem_156 (by decide) rfl (fun _ => ?_) (fun _ => ?_)
  · exact g_vret (M := mX10_wantItem) (pc := 216) dX10_wantItem_216 rfl (fun z => z)
  · refine g_aload_n (M := mX10_wantItem) (pc := 159) 160 dX10_wantItem_159 rfl rfl rfl ?_
    refine g_iload_n (M := mX10_wantItem) (pc := 160) 161 dX10_wantItem_160 rfl rfl rfl ?_
    refine g_iload_n (M := mX10_wantItem) (pc := 161) 162 dX10_wantItem_161 rfl rfl rfl ?_
    refine g_iload_n (M := mX10_wantItem) (pc := 162) 163 dX10_wantItem_162 rfl rfl rfl ?_
    refine g_cV_IH (M := mX10_wantItem) (pc := 163) (M' := mX10_newWant) (rest := []) 166 dX10_wantItem_163 rfl kX10_96 okX10_newWant (CX10_newWant a1 a2 a3 h L) oO32 rfl rfl rfl rfl (fun r14 h15 => ?_)
    refine g_istore (M := mX10_wantItem) (pc := 166) (ls' := [some (aR 8 32), some (aI a1), some (aI a2), some (aI a3), some (aI a4), some (aI a5), some (aI r14)]) 168 dX10_wantItem_166 rfl rfl rfl ?_
    refine g_aload_n (M := mX10_wantItem) (pc := 168) 169 dX10_wantItem_168 rfl rfl rfl ?_
    refine g_getR (M := mX10_wantItem) (pc := 169) 172 dX10_wantItem_169 rfl fX10_7 oR32_0 ?_
    refine g_bipush (M := mX10_wantItem) (pc := 172) (v := 78) 174 dX10_wantItem_172 rfl bp78 ?_
    refine g_iconst (M := mX10_wantItem) (pc := 174) (v := 5) 175 dX10_wantItem_174 rfl ic5 ?_
    refine g_iload (M := mX10_wantItem) (pc := 175) 177 dX10_wantItem_175 rfl rfl ?_
    refine g_imul (M := mX10_wantItem) (pc := 177) 178 dX10_wantItem_177 rfl ?_
    refine g_iadd (M := mX10_wantItem) (pc := 178) 179 dX10_wantItem_178 rfl ?_
    refine g_iconst (M := mX10_wantItem) (pc := 179) (v := 3) 180 dX10_wantItem_179 rfl ic3 ?_
    refine g_iadd (M := mX10_wantItem) (pc := 180) 181 dX10_wantItem_180 rfl ?_
    refine g_iload (M := mX10_wantItem) (pc := 181) 183 dX10_wantItem_181 rfl rfl ?_
    refine g_if_eq (M := mX10_wantItem) (pc := 183) 190 186 dX10_wantItem_183 (by decide) rfl (fun _ => ?_) (fun _ => ?_)
    · refine g_iconst (M := mX10_wantItem) (pc := 190) (v := 0) 191 dX10_wantItem_190 rfl ic0 ?_
      exact g_fgt [true, false, false, false, false, true, true] (JX10_wantItem_191_ok a5 r14 ((78 + (5 * r14)) + 3) 0 T h15 L)
    · refine g_iconst (M := mX10_wantItem) (pc := 186) (v := 1) 187 dX10_wantItem_186 rfl ic1 ?_
      refine g_goto (M := mX10_wantItem) (pc := 187) 191 dX10_wantItem_187 (by decide) ?_
      exact g_fgt [true, false, false, false, false, true, true] (JX10_wantItem_191_ok a5 r14 ((78 + (5 * r14)) + 3) 1 T h15 L)
set_option maxRecDepth 100000 in
set_option maxHeartbeats 4000000 in
theorem JX10_wantItem_140_ok (a1 : Int32) (a2 : Int32) (a3 : Int32) (a4 : Int32) (s0 : Int32) (T : ZT) (h : HI) (L : HL) : VX mX10_wantItem 5 T (fun r => Zl (lfVH L) r = T) 140 [some (aR 8 32), some (aI a1), some (aI a2), some (aI a3), some (aI a4), none, none] [aI s0] h L (JX10_wantItem_140 a1 a2 a3 a4 s0 h) := by
  unfold JX10_wantItem_140
  refine g_istore (M := mX10_wantItem) (pc := 140) (ls' := [some (aR 8 32), some (aI a1), some (aI a2), some (aI a3), some (aI a4), some (aI s0), none]) 142 dX10_wantItem_140 rfl rfl rfl ?_
  refine g_iload (M := mX10_wantItem) (pc := 142) 144 dX10_wantItem_142 rfl rfl ?_
  refine g_if_eq (M := mX10_wantItem) (pc := 144) 152 147 dX10_wantItem_144 (by decide) rfl (fun _ => ?_) (fun _ => ?_)
  · exact g_fgt [true, true, true, true, true, true, false] (JX10_wantItem_152_ok a1 a2 a3 a4 s0 T h L)
  · refine g_aload_n (M := mX10_wantItem) (pc := 147) 148 dX10_wantItem_147 rfl rfl rfl ?_
    refine g_iconst (M := mX10_wantItem) (pc := 148) (v := 1) 149 dX10_wantItem_148 rfl ic1 ?_
    refine g_cV_VH (M := mX10_wantItem) (pc := 149) (M' := mX10_needs) (rest := []) 152 dX10_wantItem_149 rfl kX10_259 okX10_needs (CX10_needs 1 h L) oO32 rfl rfl rfl rfl (fun h19 => ?_)
    exact g_fgt [true, true, true, true, true, true, false] (JX10_wantItem_152_ok a1 a2 a3 a4 s0 T h19 L)
set_option maxRecDepth 100000 in
set_option maxHeartbeats 4000000 in
theorem JX10_wantItem_124_ok (a1 : Int32) (a2 : Int32) (a3 : Int32) (a4 : Int32) (T : ZT) (h : HI) (L : HL) : VX mX10_wantItem 5 T (fun r => Zl (lfVH L) r = T) 124 [some (aR 8 32), some (aI a1), some (aI a2), some (aI a3), some (aI a4), none, none] [] h L (JX10_wantItem_124 a1 a2 a3 a4 h) := by
  unfold JX10_wantItem_124
  refine g_aload_n (M := mX10_wantItem) (pc := 124) 125 dX10_wantItem_124 rfl rfl rfl ?_
  refine g_cV_J (M := mX10_wantItem) (pc := 125) (M' := mX10_word) (rest := []) 128 dX10_wantItem_125 rfl kX10_263 okX10_word (CX10_word h L) oO32 rfl rfl rfl rfl (fun r13 => ?_)
  refine g_ldc2 (M := mX10_wantItem) (pc := 128) 131 dX10_wantItem_128 rfl cX10_295 ?_
  refine g_lcmp (M := mX10_wantItem) (pc := 131) 132 dX10_wantItem_131 rfl ?_
  refine g_if_ne (M := mX10_wantItem) (pc := 132) 139 135 dX10_wantItem_132 (by decide) rfl (fun _ => ?_) (fun _ => ?_)
  · refine g_iconst (M := mX10_wantItem) (pc := 139) (v := 0) 140 dX10_wantItem_139 rfl ic0 ?_
    exact g_fgt [true, true, true, true, true, false, false] (JX10_wantItem_140_ok a1 a2 a3 a4 0 T h L)
  · refine g_iconst (M := mX10_wantItem) (pc := 135) (v := 1) 136 dX10_wantItem_135 rfl ic1 ?_
    refine g_goto (M := mX10_wantItem) (pc := 136) 140 dX10_wantItem_136 (by decide) ?_
    exact g_fgt [true, true, true, true, true, false, false] (JX10_wantItem_140_ok a1 a2 a3 a4 1 T h L)
set_option maxRecDepth 100000 in
set_option maxHeartbeats 4000000 in
theorem JX10_wantItem_112_ok (a1 : Int32) (a2 : Int32) (a3 : Int32) (s0 : Int32) (T : ZT) (h : HI) (L : HL) : VX mX10_wantItem 5 T (fun r => Zl (lfVH L) r = T) 112 [some (aR 8 32), some (aI a1), some (aI a2), some (aI a3), none, none, none] [aI s0] h L (JX10_wantItem_112 a1 a2 a3 s0 h) := by
  unfold JX10_wantItem_112
  refine g_istore (M := mX10_wantItem) (pc := 112) (ls' := [some (aR 8 32), some (aI a1), some (aI a2), some (aI a3), some (aI s0), none, none]) 114 dX10_wantItem_112 rfl rfl rfl ?_
  refine g_iload (M := mX10_wantItem) (pc := 114) 116 dX10_wantItem_114 rfl rfl ?_
  refine g_if_eq (M := mX10_wantItem) (pc := 116) 124 119 dX10_wantItem_116 (by decide) rfl (fun _ => ?_) (fun _ => ?_)
  · exact g_fgt [true, true, true, true, true, false, false] (JX10_wantItem_124_ok a1 a2 a3 s0 T h L)
  · refine g_aload_n (M := mX10_wantItem) (pc := 119) 120 dX10_wantItem_119 rfl rfl rfl ?_
    refine g_iconst (M := mX10_wantItem) (pc := 120) (v := 1) 121 dX10_wantItem_120 rfl ic1 ?_
    refine g_cV_VH (M := mX10_wantItem) (pc := 121) (M' := mX10_needs) (rest := []) 124 dX10_wantItem_121 rfl kX10_259 okX10_needs (CX10_needs 1 h L) oO32 rfl rfl rfl rfl (fun h20 => ?_)
    exact g_fgt [true, true, true, true, true, false, false] (JX10_wantItem_124_ok a1 a2 a3 s0 T h20 L)
set_option maxRecDepth 100000 in
set_option maxHeartbeats 4000000 in
theorem JX10_wantItem_81_ok (a1 : Int32) (a2 : Int32) (s1 : Int32) (T : ZT) (h : HI) (L : HL) : VX mX10_wantItem 5 T (fun r => Zl (lfVH L) r = T) 81 [some (aR 8 32), some (aI a1), some (aI a2), none, none, none, none] [aI s1, aR 8 32] h L (JX10_wantItem_81 a1 a2 s1 h) := by
  unfold JX10_wantItem_81
  refine g_cV_VH (M := mX10_wantItem) (pc := 81) (M' := mX10_needs) (rest := []) 84 dX10_wantItem_81 rfl kX10_259 okX10_needs (CX10_needs s1 h L) oO32 rfl rfl rfl rfl (fun h9 => ?_)
  refine g_aload_n (M := mX10_wantItem) (pc := 84) 85 dX10_wantItem_84 rfl rfl rfl ?_
  refine g_iconst (M := mX10_wantItem) (pc := 85) (v := 0) 86 dX10_wantItem_85 rfl ic0 ?_
  refine g_bipush (M := mX10_wantItem) (pc := 86) (v := 99) 88 dX10_wantItem_86 rfl bp99 ?_
  refine g_cV_VH (M := mX10_wantItem) (pc := 88) (M' := mX10_number) (rest := []) 91 dX10_wantItem_88 rfl kX10_279 okX10_number (CX10_number 0 99 h9 L) oO32 rfl rfl rfl rfl (fun h10 => ?_)
  refine g_aload_n (M := mX10_wantItem) (pc := 91) 92 dX10_wantItem_91 rfl rfl rfl ?_
  refine g_getI (M := mX10_wantItem) (pc := 92) 95 dX10_wantItem_92 rfl fX10_256 oF32_15 ?_
  refine g_nmI (fun t11 => ?_)
  refine g_istore_n (M := mX10_wantItem) (pc := 95) (ls' := [some (aR 8 32), some (aI a1), some (aI a2), some (aI t11), none, none, none]) 96 dX10_wantItem_95 rfl rfl rfl rfl ?_
  refine g_aload_n (M := mX10_wantItem) (pc := 96) 97 dX10_wantItem_96 rfl rfl rfl ?_
  refine g_cV_J (M := mX10_wantItem) (pc := 97) (M' := mX10_word) (rest := []) 100 dX10_wantItem_97 rfl kX10_263 okX10_word (CX10_word h10 L) oO32 rfl rfl rfl rfl (fun r12 => ?_)
  refine g_ldc2 (M := mX10_wantItem) (pc := 100) 103 dX10_wantItem_100 rfl cX10_293 ?_
  refine g_lcmp (M := mX10_wantItem) (pc := 103) 104 dX10_wantItem_103 rfl ?_
  refine g_if_ne (M := mX10_wantItem) (pc := 104) 111 107 dX10_wantItem_104 (by decide) rfl (fun _ => ?_) (fun _ => ?_)
  · refine g_iconst (M := mX10_wantItem) (pc := 111) (v := 0) 112 dX10_wantItem_111 rfl ic0 ?_
    exact g_fgt [true, true, true, true, false, false, false] (JX10_wantItem_112_ok a1 a2 t11 0 T h10 L)
  · refine g_iconst (M := mX10_wantItem) (pc := 107) (v := 1) 108 dX10_wantItem_107 rfl ic1 ?_
    refine g_goto (M := mX10_wantItem) (pc := 108) 112 dX10_wantItem_108 (by decide) ?_
    exact g_fgt [true, true, true, true, false, false, false] (JX10_wantItem_112_ok a1 a2 t11 1 T h10 L)
set_option maxRecDepth 100000 in
set_option maxHeartbeats 4000000 in
theorem JX10_wantItem_49_ok (a1 : Int32) (s1 : Int32) (T : ZT) (h : HI) (L : HL) : VX mX10_wantItem 5 T (fun r => Zl (lfVH L) r = T) 49 [some (aR 8 32), some (aI a1), none, none, none, none, none] [aI s1, aR 8 32] h L (JX10_wantItem_49 a1 s1 h) := by
  unfold JX10_wantItem_49
  refine g_cV_VH (M := mX10_wantItem) (pc := 49) (M' := mX10_needs) (rest := []) 52 dX10_wantItem_49 rfl kX10_259 okX10_needs (CX10_needs s1 h L) oO32 rfl rfl rfl rfl (fun h5 => ?_)
  refine g_aload_n (M := mX10_wantItem) (pc := 52) 53 dX10_wantItem_52 rfl rfl rfl ?_
  refine g_iconst (M := mX10_wantItem) (pc := 53) (v := 0) 54 dX10_wantItem_53 rfl ic0 ?_
  refine g_bipush (M := mX10_wantItem) (pc := 54) (v := 99) 56 dX10_wantItem_54 rfl bp99 ?_
  refine g_cV_VH (M := mX10_wantItem) (pc := 56) (M' := mX10_number) (rest := []) 59 dX10_wantItem_56 rfl kX10_279 okX10_number (CX10_number 0 99 h5 L) oO32 rfl rfl rfl rfl (fun h6 => ?_)
  refine g_aload_n (M := mX10_wantItem) (pc := 59) 60 dX10_wantItem_59 rfl rfl rfl ?_
  refine g_getI (M := mX10_wantItem) (pc := 60) 63 dX10_wantItem_60 rfl fX10_256 oF32_15 ?_
  refine g_nmI (fun t7 => ?_)
  refine g_istore_n (M := mX10_wantItem) (pc := 63) (ls' := [some (aR 8 32), some (aI a1), some (aI t7), none, none, none, none]) 64 dX10_wantItem_63 rfl rfl rfl rfl ?_
  refine g_aload_n (M := mX10_wantItem) (pc := 64) 65 dX10_wantItem_64 rfl rfl rfl ?_
  refine g_aload_n (M := mX10_wantItem) (pc := 65) 66 dX10_wantItem_65 rfl rfl rfl ?_
  refine g_cV_J (M := mX10_wantItem) (pc := 66) (M' := mX10_word) (rest := [aR 8 32]) 69 dX10_wantItem_66 rfl kX10_263 okX10_word (CX10_word h6 L) oO32 rfl rfl rfl rfl (fun r8 => ?_)
  refine g_ldc2 (M := mX10_wantItem) (pc := 69) 72 dX10_wantItem_69 rfl cX10_291 ?_
  refine g_lcmp (M := mX10_wantItem) (pc := 72) 73 dX10_wantItem_72 rfl ?_
  refine g_if_ne (M := mX10_wantItem) (pc := 73) 80 76 dX10_wantItem_73 (by decide) rfl (fun _ => ?_) (fun _ => ?_)
  · refine g_iconst (M := mX10_wantItem) (pc := 80) (v := 0) 81 dX10_wantItem_80 rfl ic0 ?_
    exact g_fgt [true, true, true, false, false, false, false] (JX10_wantItem_81_ok a1 t7 0 T h6 L)
  · refine g_iconst (M := mX10_wantItem) (pc := 76) (v := 1) 77 dX10_wantItem_76 rfl ic1 ?_
    refine g_goto (M := mX10_wantItem) (pc := 77) 81 dX10_wantItem_77 (by decide) ?_
    exact g_fgt [true, true, true, false, false, false, false] (JX10_wantItem_81_ok a1 t7 1 T h6 L)
set_option maxRecDepth 100000 in
set_option maxHeartbeats 4000000 in
theorem JX10_wantItem_17_ok (s1 : Int32) (T : ZT) (h : HI) (L : HL) : VX mX10_wantItem 5 T (fun r => Zl (lfVH L) r = T) 17 [some (aR 8 32), none, none, none, none, none, none] [aI s1, aR 8 32] h L (JX10_wantItem_17 s1 h) := by
  unfold JX10_wantItem_17
  refine g_cV_VH (M := mX10_wantItem) (pc := 17) (M' := mX10_needs) (rest := []) 20 dX10_wantItem_17 rfl kX10_259 okX10_needs (CX10_needs s1 h L) oO32 rfl rfl rfl rfl (fun h1 => ?_)
  refine g_aload_n (M := mX10_wantItem) (pc := 20) 21 dX10_wantItem_20 rfl rfl rfl ?_
  refine g_iconst (M := mX10_wantItem) (pc := 21) (v := 0) 22 dX10_wantItem_21 rfl ic0 ?_
  refine g_bipush (M := mX10_wantItem) (pc := 22) (v := 9) 24 dX10_wantItem_22 rfl bp9 ?_
  refine g_cV_VH (M := mX10_wantItem) (pc := 24) (M' := mX10_number) (rest := []) 27 dX10_wantItem_24 rfl kX10_279 okX10_number (CX10_number 0 9 h1 L) oO32 rfl rfl rfl rfl (fun h2 => ?_)
  refine g_aload_n (M := mX10_wantItem) (pc := 27) 28 dX10_wantItem_27 rfl rfl rfl ?_
  refine g_getI (M := mX10_wantItem) (pc := 28) 31 dX10_wantItem_28 rfl fX10_256 oF32_15 ?_
  refine g_nmI (fun t3 => ?_)
  refine g_istore_n (M := mX10_wantItem) (pc := 31) (ls' := [some (aR 8 32), some (aI t3), none, none, none, none, none]) 32 dX10_wantItem_31 rfl rfl rfl rfl ?_
  refine g_aload_n (M := mX10_wantItem) (pc := 32) 33 dX10_wantItem_32 rfl rfl rfl ?_
  refine g_aload_n (M := mX10_wantItem) (pc := 33) 34 dX10_wantItem_33 rfl rfl rfl ?_
  refine g_cV_J (M := mX10_wantItem) (pc := 34) (M' := mX10_word) (rest := [aR 8 32]) 37 dX10_wantItem_34 rfl kX10_263 okX10_word (CX10_word h2 L) oO32 rfl rfl rfl rfl (fun r4 => ?_)
  refine g_ldc2 (M := mX10_wantItem) (pc := 37) 40 dX10_wantItem_37 rfl cX10_289 ?_
  refine g_lcmp (M := mX10_wantItem) (pc := 40) 41 dX10_wantItem_40 rfl ?_
  refine g_if_ne (M := mX10_wantItem) (pc := 41) 48 44 dX10_wantItem_41 (by decide) rfl (fun _ => ?_) (fun _ => ?_)
  · refine g_iconst (M := mX10_wantItem) (pc := 48) (v := 0) 49 dX10_wantItem_48 rfl ic0 ?_
    exact g_fgt [true, true, false, false, false, false, false] (JX10_wantItem_49_ok t3 0 T h2 L)
  · refine g_iconst (M := mX10_wantItem) (pc := 44) (v := 1) 45 dX10_wantItem_44 rfl ic1 ?_
    refine g_goto (M := mX10_wantItem) (pc := 45) 49 dX10_wantItem_45 (by decide) ?_
    exact g_fgt [true, true, false, false, false, false, false] (JX10_wantItem_49_ok t3 1 T h2 L)
set_option maxRecDepth 100000 in
set_option maxHeartbeats 4000000 in
theorem CX10_wantItem (h : HI) (L : HL) : CG mX10_wantItem 5 [aR 8 32] h L (lfVH L) (FX10_wantItem h) := by
  unfold FX10_wantItem
  refine cg_of [some (aR 8 32), none, none, none, none, none, none] rfl (by decide) rfl rfl (fun T => ?_)
  refine g_aload_n (M := mX10_wantItem) (pc := 0) 1 dX10_wantItem_0 rfl rfl rfl ?_
  refine g_aload_n (M := mX10_wantItem) (pc := 1) 2 dX10_wantItem_1 rfl rfl rfl ?_
  refine g_getR (M := mX10_wantItem) (pc := 2) 5 dX10_wantItem_2 rfl fX10_7 oR32_0 ?_
  refine g_iconst (M := mX10_wantItem) (pc := 5) (v := 1) 6 dX10_wantItem_5 rfl ic1 ?_
  refine g_ialdC (M := mX10_wantItem) (pc := 6) (j := 1) 7 dX10_wantItem_6 rfl oA33 rfl rfl ?_
  refine g_bipush (M := mX10_wantItem) (pc := 7) (v := 12) 9 dX10_wantItem_7 rfl bp12 ?_
  refine g_icmp_ge (M := mX10_wantItem) (pc := 9) 16 12 dX10_wantItem_9 (by decide) rfl (fun _ => ?_) (fun _ => ?_)
  · refine g_iconst (M := mX10_wantItem) (pc := 16) (v := 0) 17 dX10_wantItem_16 rfl ic0 ?_
    exact g_fgt [true, false, false, false, false, false, false] (JX10_wantItem_17_ok 0 T h L)
  · refine g_iconst (M := mX10_wantItem) (pc := 12) (v := 1) 13 dX10_wantItem_12 rfl ic1 ?_
    refine g_goto (M := mX10_wantItem) (pc := 13) 17 dX10_wantItem_13 (by decide) ?_
    exact g_fgt [true, false, false, false, false, false, false] (JX10_wantItem_17_ok 1 T h L)
def SX10_orderOne_7 (h : HI) : (Int32 × Int32) → Option ((Int32 × Int32) ⊕ (Int32))
  | (a1, a2) =>
    if (h 8 32 14) ≤ a2 then
      some (Sum.inr a1)
    else
      Option.bind (FX10_byteAt (h 8 32 13) h) fun r2 =>
      Option.bind (FX10_isDigit r2) fun r3 =>
      if r3 = 0 then
        some (Sum.inr a1)
      else
        if a1 ≤ 999 then
          gd (ixb a2 120) <|
          nm (((10 * a1) + (h 8 39 (nC a2))) - 48) fun t4 =>
          some (Sum.inl (t4, (a2 + 1)))
        else
          some (Sum.inl (a1, (a2 + 1)))
def JX10_orderOne_97 (a1 : Int32) (s1 : Int32) (h : HI) : Option (HI) :=
  Option.bind (FX10_needs s1 h) fun h8 =>
  if (h8 8 32 16) = 0 then
    gd (ixb (138 + (h8 8 33 5)) 150) <|
    nm (hP1 h8 8 33 (nC (138 + (h8 8 33 5))) a1) fun h9 =>
    nm (hP1 h9 8 33 5 ((h9 8 33 5) + 1)) fun h10 =>
    some h10
  else
    some h8
def JX10_orderOne_96 (a1 : Int32) (h : HI) : Option (HI) :=
  JX10_orderOne_97 a1 0 h
def JX10_orderOne_61 (a1 : Int32) (h : HI) : Option (HI) :=
  Option.bind (FX10_byteAt (h 8 32 13) h) fun r6 =>
  Option.bind (FX10_isDigit r6) fun r7 =>
  if r7 = 0 then
    JX10_orderOne_96 a1 h
  else
    Option.bind (FX10_isPhrase a1 h) fun r11 =>
    if r11 = 0 then
      JX10_orderOne_96 a1 h
    else
      Option.bind (FX10_placeOf a1 h) fun r12 =>
      if 0 ≤ r12 then
        JX10_orderOne_96 a1 h
      else
        JX10_orderOne_97 a1 1 h
def FX10_orderOne (h : HI) : Option (HI) :=
  nm (h 8 32 13) fun t1 =>
  Option.bind (loopN (SX10_orderOne_7 h) FU (0, t1)) fun e5 =>
    JX10_orderOne_61 e5 h
set_option maxRecDepth 100000 in
set_option maxHeartbeats 4000000 in
theorem SX10_orderOne_7_ok (h : HI) (L : HL) (T : ZT) (a1 : Int32) (a2 : Int32) : VX mX10_orderOne 4 T (gS (fun s : Int32 × Int32 => V mX10_orderOne 4 T 7 [some (aR 8 32), some (aI (s.1)), some (aI (s.2))] [] h L) (fun s : Int32 => V mX10_orderOne 4 T 61 [some (aR 8 32), some (aI s), none] [] h L)) 7 [some (aR 8 32), some (aI a1), some (aI a2)] [] h L (SX10_orderOne_7 h (a1, a2)) := by
  unfold SX10_orderOne_7
  refine g_iload_n (M := mX10_orderOne) (pc := 7) 8 dX10_orderOne_7 rfl rfl rfl ?_
  refine g_aload_n (M := mX10_orderOne) (pc := 8) 9 dX10_orderOne_8 rfl rfl rfl ?_
  refine g_getI (M := mX10_orderOne) (pc := 9) 12 dX10_orderOne_9 rfl fX10_230 oF32_14 ?_
  refine g_icmp_ge (M := mX10_orderOne) (pc := 12) 61 15 dX10_orderOne_12 (by decide) rfl (fun _ => ?_) (fun _ => ?_)
  · exact g_jmp (fun z => v_fgt [true, true, false] z)
  · refine g_aload_n (M := mX10_orderOne) (pc := 15) 16 dX10_orderOne_15 rfl rfl rfl ?_
    refine g_aload_n (M := mX10_orderOne) (pc := 16) 17 dX10_orderOne_16 rfl rfl rfl ?_
    refine g_getI (M := mX10_orderOne) (pc := 17) 20 dX10_orderOne_17 rfl fX10_233 oF32_13 ?_
    refine g_cV_I (M := mX10_orderOne) (pc := 20) (M' := mX10_byteAt) (rest := []) 23 dX10_orderOne_20 rfl kX10_236 okX10_byteAt (CX10_byteAt (h 8 32 13) h L) oO32 rfl rfl rfl rfl (fun r2 => ?_)
    refine g_cS_I (M := mX10_orderOne) (pc := 23) (M' := mX10_isDigit) (rest := []) 26 dX10_orderOne_23 rfl kX10_242 okX10_isDigit (CX10_isDigit r2 h L) rfl rfl rfl rfl (fun r3 => ?_)
    refine g_if_eq (M := mX10_orderOne) (pc := 26) 61 29 dX10_orderOne_26 (by decide) rfl (fun _ => ?_) (fun _ => ?_)
    · exact g_jmp (fun z => v_fgt [true, true, false] z)
    · refine g_iload_n (M := mX10_orderOne) (pc := 29) 30 dX10_orderOne_29 rfl rfl rfl ?_
      refine g_sipush (M := mX10_orderOne) (pc := 30) (v := 999) 33 dX10_orderOne_30 rfl sp999 ?_
      refine g_icmp_le (M := mX10_orderOne) (pc := 33) 40 36 dX10_orderOne_33 (by decide) rfl (fun _ => ?_) (fun _ => ?_)
      · refine g_bipush (M := mX10_orderOne) (pc := 40) (v := 10) 42 dX10_orderOne_40 rfl bp10 ?_
        refine g_iload_n (M := mX10_orderOne) (pc := 42) 43 dX10_orderOne_42 rfl rfl rfl ?_
        refine g_imul (M := mX10_orderOne) (pc := 43) 44 dX10_orderOne_43 rfl ?_
        refine g_aload_n (M := mX10_orderOne) (pc := 44) 45 dX10_orderOne_44 rfl rfl rfl ?_
        refine g_getR (M := mX10_orderOne) (pc := 45) 48 dX10_orderOne_45 rfl fX10_28 oR32_11 ?_
        refine g_iload_n (M := mX10_orderOne) (pc := 48) 49 dX10_orderOne_48 rfl rfl rfl ?_
        refine g_iald (M := mX10_orderOne) (pc := 49) 50 dX10_orderOne_49 rfl oA39 ?_
        refine g_iadd (M := mX10_orderOne) (pc := 50) 51 dX10_orderOne_50 rfl ?_
        refine g_bipush (M := mX10_orderOne) (pc := 51) (v := 48) 53 dX10_orderOne_51 rfl bp48 ?_
        refine g_isub (M := mX10_orderOne) (pc := 53) 54 dX10_orderOne_53 rfl ?_
        refine g_nmI (fun t4 => ?_)
        refine g_istore_n (M := mX10_orderOne) (pc := 54) (ls' := [some (aR 8 32), some (aI t4), some (aI a2)]) 55 dX10_orderOne_54 rfl rfl rfl rfl ?_
        refine g_iinc (M := mX10_orderOne) (pc := 55) (c := 1) (ls' := [some (aR 8 32), some (aI t4), some (aI (a2 + 1))]) 58 dX10_orderOne_55 rfl ic1 rfl rfl rfl ?_
        refine g_goto (M := mX10_orderOne) (pc := 58) 7 dX10_orderOne_58 (by decide) ?_
        exact g_jmp (fun z => v_fgt [true, true, true] z)
      · refine g_iload_n (M := mX10_orderOne) (pc := 36) 37 dX10_orderOne_36 rfl rfl rfl ?_
        refine g_goto (M := mX10_orderOne) (pc := 37) 54 dX10_orderOne_37 (by decide) ?_
        refine g_istore_n (M := mX10_orderOne) (pc := 54) (ls' := [some (aR 8 32), some (aI a1), some (aI a2)]) 55 dX10_orderOne_54 rfl rfl rfl rfl ?_
        refine g_iinc (M := mX10_orderOne) (pc := 55) (c := 1) (ls' := [some (aR 8 32), some (aI a1), some (aI (a2 + 1))]) 58 dX10_orderOne_55 rfl ic1 rfl rfl rfl ?_
        refine g_goto (M := mX10_orderOne) (pc := 58) 7 dX10_orderOne_58 (by decide) ?_
        exact g_jmp (fun z => v_fgt [true, true, true] z)
set_option maxRecDepth 100000 in
set_option maxHeartbeats 4000000 in
theorem JX10_orderOne_97_ok (a1 : Int32) (s1 : Int32) (T : ZT) (h : HI) (L : HL) : VX mX10_orderOne 4 T (fun r => Zl (lfVH L) r = T) 97 [some (aR 8 32), some (aI a1), none] [aI s1, aR 8 32] h L (JX10_orderOne_97 a1 s1 h) := by
  unfold JX10_orderOne_97
  refine g_cV_VH (M := mX10_orderOne) (pc := 97) (M' := mX10_needs) (rest := []) 100 dX10_orderOne_97 rfl kX10_259 okX10_needs (CX10_needs s1 h L) oO32 rfl rfl rfl rfl (fun h8 => ?_)
  refine g_aload_n (M := mX10_orderOne) (pc := 100) 101 dX10_orderOne_100 rfl rfl rfl ?_
  refine g_getI (M := mX10_orderOne) (pc := 101) 104 dX10_orderOne_101 rfl fX10_245 oF32_16 ?_
  refine g_if_ne (M := mX10_orderOne) (pc := 104) 133 107 dX10_orderOne_104 (by decide) rfl (fun _ => ?_) (fun _ => ?_)
  · exact g_vret (M := mX10_orderOne) (pc := 133) dX10_orderOne_133 rfl (fun z => z)
  · refine g_aload_n (M := mX10_orderOne) (pc := 107) 108 dX10_orderOne_107 rfl rfl rfl ?_
    refine g_getR (M := mX10_orderOne) (pc := 108) 111 dX10_orderOne_108 rfl fX10_7 oR32_0 ?_
    refine g_sipush (M := mX10_orderOne) (pc := 111) (v := 138) 114 dX10_orderOne_111 rfl sp138 ?_
    refine g_aload_n (M := mX10_orderOne) (pc := 114) 115 dX10_orderOne_114 rfl rfl rfl ?_
    refine g_getR (M := mX10_orderOne) (pc := 115) 118 dX10_orderOne_115 rfl fX10_7 oR32_0 ?_
    refine g_iconst (M := mX10_orderOne) (pc := 118) (v := 5) 119 dX10_orderOne_118 rfl ic5 ?_
    refine g_ialdC (M := mX10_orderOne) (pc := 119) (j := 5) 120 dX10_orderOne_119 rfl oA33 rfl rfl ?_
    refine g_iadd (M := mX10_orderOne) (pc := 120) 121 dX10_orderOne_120 rfl ?_
    refine g_iload_n (M := mX10_orderOne) (pc := 121) 122 dX10_orderOne_121 rfl rfl rfl ?_
    refine g_iast (M := mX10_orderOne) (pc := 122) 123 dX10_orderOne_122 rfl oA33 (fun h9 => ?_)
    refine g_aload_n (M := mX10_orderOne) (pc := 123) 124 dX10_orderOne_123 rfl rfl rfl ?_
    refine g_getR (M := mX10_orderOne) (pc := 124) 127 dX10_orderOne_124 rfl fX10_7 oR32_0 ?_
    refine g_iconst (M := mX10_orderOne) (pc := 127) (v := 5) 128 dX10_orderOne_127 rfl ic5 ?_
    refine g_dup2 (M := mX10_orderOne) (pc := 128) 129 dX10_orderOne_128 rfl rfl rfl ?_
    refine g_ialdC (M := mX10_orderOne) (pc := 129) (j := 5) 130 dX10_orderOne_129 rfl oA33 rfl rfl ?_
    refine g_iconst (M := mX10_orderOne) (pc := 130) (v := 1) 131 dX10_orderOne_130 rfl ic1 ?_
    refine g_iadd (M := mX10_orderOne) (pc := 131) 132 dX10_orderOne_131 rfl ?_
    refine g_iastC (M := mX10_orderOne) (pc := 132) (j := 5) 133 dX10_orderOne_132 rfl oA33 rfl rfl (fun h10 => ?_)
    exact g_vret (M := mX10_orderOne) (pc := 133) dX10_orderOne_133 rfl (fun z => z)
set_option maxRecDepth 100000 in
set_option maxHeartbeats 4000000 in
theorem JX10_orderOne_96_ok (a1 : Int32) (T : ZT) (h : HI) (L : HL) : VX mX10_orderOne 4 T (fun r => Zl (lfVH L) r = T) 96 [some (aR 8 32), some (aI a1), none] [aR 8 32] h L (JX10_orderOne_96 a1 h) := by
  unfold JX10_orderOne_96
  refine g_iconst (M := mX10_orderOne) (pc := 96) (v := 0) 97 dX10_orderOne_96 rfl ic0 ?_
  exact g_fgt [true, true, false] (JX10_orderOne_97_ok a1 0 T h L)
set_option maxRecDepth 100000 in
set_option maxHeartbeats 4000000 in
theorem JX10_orderOne_61_ok (a1 : Int32) (T : ZT) (h : HI) (L : HL) : VX mX10_orderOne 4 T (fun r => Zl (lfVH L) r = T) 61 [some (aR 8 32), some (aI a1), none] [] h L (JX10_orderOne_61 a1 h) := by
  unfold JX10_orderOne_61
  refine g_aload_n (M := mX10_orderOne) (pc := 61) 62 dX10_orderOne_61 rfl rfl rfl ?_
  refine g_aload_n (M := mX10_orderOne) (pc := 62) 63 dX10_orderOne_62 rfl rfl rfl ?_
  refine g_aload_n (M := mX10_orderOne) (pc := 63) 64 dX10_orderOne_63 rfl rfl rfl ?_
  refine g_getI (M := mX10_orderOne) (pc := 64) 67 dX10_orderOne_64 rfl fX10_233 oF32_13 ?_
  refine g_cV_I (M := mX10_orderOne) (pc := 67) (M' := mX10_byteAt) (rest := [aR 8 32]) 70 dX10_orderOne_67 rfl kX10_236 okX10_byteAt (CX10_byteAt (h 8 32 13) h L) oO32 rfl rfl rfl rfl (fun r6 => ?_)
  refine g_cS_I (M := mX10_orderOne) (pc := 70) (M' := mX10_isDigit) (rest := [aR 8 32]) 73 dX10_orderOne_70 rfl kX10_242 okX10_isDigit (CX10_isDigit r6 h L) rfl rfl rfl rfl (fun r7 => ?_)
  refine g_if_eq (M := mX10_orderOne) (pc := 73) 96 76 dX10_orderOne_73 (by decide) rfl (fun _ => ?_) (fun _ => ?_)
  · exact g_fgt [true, true, false] (JX10_orderOne_96_ok a1 T h L)
  · refine g_aload_n (M := mX10_orderOne) (pc := 76) 77 dX10_orderOne_76 rfl rfl rfl ?_
    refine g_iload_n (M := mX10_orderOne) (pc := 77) 78 dX10_orderOne_77 rfl rfl rfl ?_
    refine g_cV_I (M := mX10_orderOne) (pc := 78) (M' := mX10_isPhrase) (rest := [aR 8 32]) 81 dX10_orderOne_78 rfl kX10_79 okX10_isPhrase (CX10_isPhrase a1 h L) oO32 rfl rfl rfl rfl (fun r11 => ?_)
    refine g_if_eq (M := mX10_orderOne) (pc := 81) 96 84 dX10_orderOne_81 (by decide) rfl (fun _ => ?_) (fun _ => ?_)
    · exact g_fgt [true, true, false] (JX10_orderOne_96_ok a1 T h L)
    · refine g_aload_n (M := mX10_orderOne) (pc := 84) 85 dX10_orderOne_84 rfl rfl rfl ?_
      refine g_iload_n (M := mX10_orderOne) (pc := 85) 86 dX10_orderOne_85 rfl rfl rfl ?_
      refine g_cV_I (M := mX10_orderOne) (pc := 86) (M' := mX10_placeOf) (rest := [aR 8 32]) 89 dX10_orderOne_86 rfl kX10_157 okX10_placeOf (CX10_placeOf a1 h L) oO32 rfl rfl rfl rfl (fun r12 => ?_)
      refine g_if_ge (M := mX10_orderOne) (pc := 89) 96 92 dX10_orderOne_89 (by decide) rfl (fun _ => ?_) (fun _ => ?_)
      · exact g_fgt [true, true, false] (JX10_orderOne_96_ok a1 T h L)
      · refine g_iconst (M := mX10_orderOne) (pc := 92) (v := 1) 93 dX10_orderOne_92 rfl ic1 ?_
        refine g_goto (M := mX10_orderOne) (pc := 93) 97 dX10_orderOne_93 (by decide) ?_
        exact g_fgt [true, true, false] (JX10_orderOne_97_ok a1 1 T h L)
set_option maxRecDepth 100000 in
set_option maxHeartbeats 4000000 in
theorem CX10_orderOne (h : HI) (L : HL) : CG mX10_orderOne 4 [aR 8 32] h L (lfVH L) (FX10_orderOne h) := by
  unfold FX10_orderOne
  refine cg_of [some (aR 8 32), none, none] rfl (by decide) rfl rfl (fun T => ?_)
  refine g_iconst (M := mX10_orderOne) (pc := 0) (v := 0) 1 dX10_orderOne_0 rfl ic0 ?_
  refine g_istore_n (M := mX10_orderOne) (pc := 1) (ls' := [some (aR 8 32), some (aI 0), none]) 2 dX10_orderOne_1 rfl rfl rfl rfl ?_
  refine g_aload_n (M := mX10_orderOne) (pc := 2) 3 dX10_orderOne_2 rfl rfl rfl ?_
  refine g_getI (M := mX10_orderOne) (pc := 3) 6 dX10_orderOne_3 rfl fX10_233 oF32_13 ?_
  refine g_nmI (fun t1 => ?_)
  refine g_istore_n (M := mX10_orderOne) (pc := 6) (ls' := [some (aR 8 32), some (aI 0), some (aI t1)]) 7 dX10_orderOne_6 rfl rfl rfl rfl ?_
  refine g_loop (fun s => SX10_orderOne_7_ok h L T s.1 s.2) ?_ (fun z => v_fgt [true, true, true] z)
  intro e5
  show VX mX10_orderOne 4 T _ 61 [some (aR 8 32), some (aI e5), none] [] h L _
  exact g_fgt [true, true, false] (JX10_orderOne_61_ok e5 T h L)
def SX10_orderItem_31 : HI → Option ((HI) ⊕ (HI))
  | h =>
    if (h 8 32 16) = 0 then
      Option.bind (FX10_byteAt (h 8 32 13) h) fun r5 =>
      Option.bind (FX10_isDigit r5) fun r6 =>
      if r6 = 0 then
        some (Sum.inr h)
      else
        Option.bind (FX10_orderOne h) fun h7 =>
        some (Sum.inl h7)
    else
      some (Sum.inr h)
def JX10_orderItem_17 (s1 : Int32) (h : HI) : Option (HI) :=
  Option.bind (FX10_needs s1 h) fun h2 =>
  nm (hP1 h2 8 33 5 0) fun h3 =>
  Option.bind (FX10_orderOne h3) fun h4 =>
  Option.bind (loopN (SX10_orderItem_31) FU h4) fun h8 =>
    some h8
def FX10_orderItem (h : HI) : Option (HI) :=
  Option.bind (FX10_word h) fun r1 =>
  if (lg_cmp r1 16322738) = 0 then
    JX10_orderItem_17 1 h
  else
    JX10_orderItem_17 0 h
set_option maxRecDepth 100000 in
set_option maxHeartbeats 4000000 in
theorem SX10_orderItem_31_ok (L : HL) (T : ZT) (h : HI) : VX mX10_orderItem 5 T (gS (fun s : HI => V mX10_orderItem 5 T 31 [some (aR 8 32)] [] s L) (fun s : HI => V mX10_orderItem 5 T 59 [none] [] s L)) 31 [some (aR 8 32)] [] h L (SX10_orderItem_31 h) := by
  unfold SX10_orderItem_31
  refine g_aload_n (M := mX10_orderItem) (pc := 31) 32 dX10_orderItem_31 rfl rfl rfl ?_
  refine g_getI (M := mX10_orderItem) (pc := 32) 35 dX10_orderItem_32 rfl fX10_245 oF32_16 ?_
  refine g_if_ne (M := mX10_orderItem) (pc := 35) 59 38 dX10_orderItem_35 (by decide) rfl (fun _ => ?_) (fun _ => ?_)
  · exact g_jmp (fun z => v_fgt [false] z)
  · refine g_aload_n (M := mX10_orderItem) (pc := 38) 39 dX10_orderItem_38 rfl rfl rfl ?_
    refine g_aload_n (M := mX10_orderItem) (pc := 39) 40 dX10_orderItem_39 rfl rfl rfl ?_
    refine g_getI (M := mX10_orderItem) (pc := 40) 43 dX10_orderItem_40 rfl fX10_233 oF32_13 ?_
    refine g_cV_I (M := mX10_orderItem) (pc := 43) (M' := mX10_byteAt) (rest := []) 46 dX10_orderItem_43 rfl kX10_236 okX10_byteAt (CX10_byteAt (h 8 32 13) h L) oO32 rfl rfl rfl rfl (fun r5 => ?_)
    refine g_cS_I (M := mX10_orderItem) (pc := 46) (M' := mX10_isDigit) (rest := []) 49 dX10_orderItem_46 rfl kX10_242 okX10_isDigit (CX10_isDigit r5 h L) rfl rfl rfl rfl (fun r6 => ?_)
    refine g_if_eq (M := mX10_orderItem) (pc := 49) 59 52 dX10_orderItem_49 (by decide) rfl (fun _ => ?_) (fun _ => ?_)
    · exact g_jmp (fun z => v_fgt [false] z)
    · refine g_aload_n (M := mX10_orderItem) (pc := 52) 53 dX10_orderItem_52 rfl rfl rfl ?_
      refine g_cV_VH (M := mX10_orderItem) (pc := 53) (M' := mX10_orderOne) (rest := []) 56 dX10_orderItem_53 rfl kX10_299 okX10_orderOne (CX10_orderOne h L) oO32 rfl rfl rfl rfl (fun h7 => ?_)
      refine g_goto (M := mX10_orderItem) (pc := 56) 31 dX10_orderItem_56 (by decide) ?_
      exact g_jmp (fun z => v_fgt [true] z)
set_option maxRecDepth 100000 in
set_option maxHeartbeats 4000000 in
theorem JX10_orderItem_17_ok (s1 : Int32) (T : ZT) (h : HI) (L : HL) : VX mX10_orderItem 5 T (fun r => Zl (lfVH L) r = T) 17 [some (aR 8 32)] [aI s1, aR 8 32] h L (JX10_orderItem_17 s1 h) := by
  unfold JX10_orderItem_17
  refine g_cV_VH (M := mX10_orderItem) (pc := 17) (M' := mX10_needs) (rest := []) 20 dX10_orderItem_17 rfl kX10_259 okX10_needs (CX10_needs s1 h L) oO32 rfl rfl rfl rfl (fun h2 => ?_)
  refine g_aload_n (M := mX10_orderItem) (pc := 20) 21 dX10_orderItem_20 rfl rfl rfl ?_
  refine g_getR (M := mX10_orderItem) (pc := 21) 24 dX10_orderItem_21 rfl fX10_7 oR32_0 ?_
  refine g_iconst (M := mX10_orderItem) (pc := 24) (v := 5) 25 dX10_orderItem_24 rfl ic5 ?_
  refine g_iconst (M := mX10_orderItem) (pc := 25) (v := 0) 26 dX10_orderItem_25 rfl ic0 ?_
  refine g_iastC (M := mX10_orderItem) (pc := 26) (j := 5) 27 dX10_orderItem_26 rfl oA33 rfl rfl (fun h3 => ?_)
  refine g_aload_n (M := mX10_orderItem) (pc := 27) 28 dX10_orderItem_27 rfl rfl rfl ?_
  refine g_cV_VH (M := mX10_orderItem) (pc := 28) (M' := mX10_orderOne) (rest := []) 31 dX10_orderItem_28 rfl kX10_299 okX10_orderOne (CX10_orderOne h3 L) oO32 rfl rfl rfl rfl (fun h4 => ?_)
  refine g_loop (fun s => SX10_orderItem_31_ok L T s) ?_ (fun z => v_fgt [true] z)
  intro h8
  show VX mX10_orderItem 5 T _ 59 [none] [] h8 L _
  exact g_vret (M := mX10_orderItem) (pc := 59) dX10_orderItem_59 rfl (fun z => z)
set_option maxRecDepth 100000 in
set_option maxHeartbeats 4000000 in
theorem CX10_orderItem (h : HI) (L : HL) : CG mX10_orderItem 5 [aR 8 32] h L (lfVH L) (FX10_orderItem h) := by
  unfold FX10_orderItem
  refine cg_of [some (aR 8 32)] rfl (by decide) rfl rfl (fun T => ?_)
  refine g_aload_n (M := mX10_orderItem) (pc := 0) 1 dX10_orderItem_0 rfl rfl rfl ?_
  refine g_aload_n (M := mX10_orderItem) (pc := 1) 2 dX10_orderItem_1 rfl rfl rfl ?_
  refine g_cV_J (M := mX10_orderItem) (pc := 2) (M' := mX10_word) (rest := [aR 8 32]) 5 dX10_orderItem_2 rfl kX10_263 okX10_word (CX10_word h L) oO32 rfl rfl rfl rfl (fun r1 => ?_)
  refine g_ldc2 (M := mX10_orderItem) (pc := 5) 8 dX10_orderItem_5 rfl cX10_297 ?_
  refine g_lcmp (M := mX10_orderItem) (pc := 8) 9 dX10_orderItem_8 rfl ?_
  refine g_if_ne (M := mX10_orderItem) (pc := 9) 16 12 dX10_orderItem_9 (by decide) rfl (fun _ => ?_) (fun _ => ?_)
  · refine g_iconst (M := mX10_orderItem) (pc := 16) (v := 0) 17 dX10_orderItem_16 rfl ic0 ?_
    exact g_fgt [true] (JX10_orderItem_17_ok 0 T h L)
  · refine g_iconst (M := mX10_orderItem) (pc := 12) (v := 1) 13 dX10_orderItem_12 rfl ic1 ?_
    refine g_goto (M := mX10_orderItem) (pc := 13) 17 dX10_orderItem_13 (by decide) ?_
    exact g_fgt [true] (JX10_orderItem_17_ok 1 T h L)
def FX10_item (h : HI) : Option (HI) :=
  Option.bind (FX10_kindHere h) fun r1 =>
  if r1 < 0 then
    Option.bind (FX10_word h) fun r2 =>
    if (lg_cmp r2 755156) = 0 then
      Option.bind (FX10_wantItem h) fun h8 =>
      some h8
    else
      Option.bind (FX10_word h) fun r3 =>
      if (lg_cmp r3 402885) = 0 then
        Option.bind (FX10_perhaps 1 1 100 0 h) fun (r5, h6) =>
        nm (hP1 h6 8 33 2 r5) fun h7 =>
        some h7
      else
        Option.bind (FX10_orderItem h) fun h4 =>
        some h4
  else
    Option.bind (FX10_phraseItem r1 h) fun h9 =>
    some h9
set_option maxRecDepth 100000 in
set_option maxHeartbeats 4000000 in
theorem CX10_item (h : HI) (L : HL) : CG mX10_item 7 [aR 8 32] h L (lfVH L) (FX10_item h) := by
  unfold FX10_item
  refine cg_of [some (aR 8 32), none] rfl (by decide) rfl rfl (fun T => ?_)
  refine g_aload_n (M := mX10_item) (pc := 0) 1 dX10_item_0 rfl rfl rfl ?_
  refine g_cV_I (M := mX10_item) (pc := 1) (M' := mX10_kindHere) (rest := []) 4 dX10_item_1 rfl kX10_302 okX10_kindHere (CX10_kindHere h L) oO32 rfl rfl rfl rfl (fun r1 => ?_)
  refine g_istore_n (M := mX10_item) (pc := 4) (ls' := [some (aR 8 32), some (aI r1)]) 5 dX10_item_4 rfl rfl rfl rfl ?_
  refine g_iload_n (M := mX10_item) (pc := 5) 6 dX10_item_5 rfl rfl rfl ?_
  refine g_if_lt (M := mX10_item) (pc := 6) 17 9 dX10_item_6 (by decide) rfl (fun _ => ?_) (fun _ => ?_)
  · refine g_aload_n (M := mX10_item) (pc := 17) 18 dX10_item_17 rfl rfl rfl ?_
    refine g_cV_J (M := mX10_item) (pc := 18) (M' := mX10_word) (rest := []) 21 dX10_item_18 rfl kX10_263 okX10_word (CX10_word h L) oO32 rfl rfl rfl rfl (fun r2 => ?_)
    refine g_ldc2 (M := mX10_item) (pc := 21) 24 dX10_item_21 rfl cX10_308 ?_
    refine g_lcmp (M := mX10_item) (pc := 24) 25 dX10_item_24 rfl ?_
    refine g_if_ne (M := mX10_item) (pc := 25) 35 28 dX10_item_25 (by decide) rfl (fun _ => ?_) (fun _ => ?_)
    · refine g_aload_n (M := mX10_item) (pc := 35) 36 dX10_item_35 rfl rfl rfl ?_
      refine g_cV_J (M := mX10_item) (pc := 36) (M' := mX10_word) (rest := []) 39 dX10_item_36 rfl kX10_263 okX10_word (CX10_word h L) oO32 rfl rfl rfl rfl (fun r3 => ?_)
      refine g_ldc2 (M := mX10_item) (pc := 39) 42 dX10_item_39 rfl cX10_313 ?_
      refine g_lcmp (M := mX10_item) (pc := 42) 43 dX10_item_42 rfl ?_
      refine g_if_ne (M := mX10_item) (pc := 43) 64 46 dX10_item_43 (by decide) rfl (fun _ => ?_) (fun _ => ?_)
      · refine g_aload_n (M := mX10_item) (pc := 64) 65 dX10_item_64 rfl rfl rfl ?_
        refine g_cV_VH (M := mX10_item) (pc := 65) (M' := mX10_orderItem) (rest := []) 68 dX10_item_65 rfl kX10_315 okX10_orderItem (CX10_orderItem h L) oO32 rfl rfl rfl rfl (fun h4 => ?_)
        exact g_vret (M := mX10_item) (pc := 68) dX10_item_68 rfl (fun z => z)
      · refine g_aload_n (M := mX10_item) (pc := 46) 47 dX10_item_46 rfl rfl rfl ?_
        refine g_getR (M := mX10_item) (pc := 47) 50 dX10_item_47 rfl fX10_7 oR32_0 ?_
        refine g_iconst (M := mX10_item) (pc := 50) (v := 2) 51 dX10_item_50 rfl ic2 ?_
        refine g_aload_n (M := mX10_item) (pc := 51) 52 dX10_item_51 rfl rfl rfl ?_
        refine g_iconst (M := mX10_item) (pc := 52) (v := 1) 53 dX10_item_52 rfl ic1 ?_
        refine g_iconst (M := mX10_item) (pc := 53) (v := 1) 54 dX10_item_53 rfl ic1 ?_
        refine g_bipush (M := mX10_item) (pc := 54) (v := 100) 56 dX10_item_54 rfl bp100 ?_
        refine g_iconst (M := mX10_item) (pc := 56) (v := 0) 57 dX10_item_56 rfl ic0 ?_
        refine g_cV_IH (M := mX10_item) (pc := 57) (M' := mX10_perhaps) (rest := [aI 2, aR 8 33]) 60 dX10_item_57 rfl kX10_283 okX10_perhaps (CX10_perhaps 1 1 100 0 h L) oO32 rfl rfl rfl rfl (fun r5 h6 => ?_)
        refine g_iastC (M := mX10_item) (pc := 60) (j := 2) 61 dX10_item_60 rfl oA33 rfl rfl (fun h7 => ?_)
        refine g_goto (M := mX10_item) (pc := 61) 68 dX10_item_61 (by decide) ?_
        exact g_vret (M := mX10_item) (pc := 68) dX10_item_68 rfl (fun z => z)
    · refine g_aload_n (M := mX10_item) (pc := 28) 29 dX10_item_28 rfl rfl rfl ?_
      refine g_cV_VH (M := mX10_item) (pc := 29) (M' := mX10_wantItem) (rest := []) 32 dX10_item_29 rfl kX10_310 okX10_wantItem (CX10_wantItem h L) oO32 rfl rfl rfl rfl (fun h8 => ?_)
      refine g_goto (M := mX10_item) (pc := 32) 68 dX10_item_32 (by decide) ?_
      exact g_vret (M := mX10_item) (pc := 68) dX10_item_68 rfl (fun z => z)
  · refine g_aload_n (M := mX10_item) (pc := 9) 10 dX10_item_9 rfl rfl rfl ?_
    refine g_iload_n (M := mX10_item) (pc := 10) 11 dX10_item_10 rfl rfl rfl ?_
    refine g_cV_VH (M := mX10_item) (pc := 11) (M' := mX10_phraseItem) (rest := []) 14 dX10_item_11 rfl kX10_305 okX10_phraseItem (CX10_phraseItem r1 h L) oO32 rfl rfl rfl rfl (fun h9 => ?_)
    refine g_goto (M := mX10_item) (pc := 14) 68 dX10_item_14 (by decide) ?_
    exact g_vret (M := mX10_item) (pc := 68) dX10_item_68 rfl (fun z => z)
