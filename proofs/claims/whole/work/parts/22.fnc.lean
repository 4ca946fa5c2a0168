-- functions of the methods and their contracts, by program (wip/whole/dec.py): X8_isFull X8_add X2_readWant X2_readLine X3_placeOf X3_append X2_readOrder X2_readItem X2_readBook X3_drop J6_bitCount_0f7a4 X3_arrangements J6_numberOfTrailingZeros_0f7a4 X3_memberOf X3_arrange X4_lookAhead X4_daysTillForgotten X4_neverUsed X4_worthLearning X4_scoreByOrder X4_placeOfBestOrder X6_at X4_firstWrong X5_row
def FX8_isFull (g : Nat) (h : HI) : Option (Int32) :=
  if (h g 8 5) < 12 then
    some 0
  else
    some 1
set_option maxRecDepth 100000 in
set_option maxHeartbeats 4000000 in
theorem CX8_isFull (g : Nat) (hg : g < 3) (h : HI) (L : HL) : CG mX8_isFull 0 [aR g 8] h L (lfI h L) (FX8_isFull g h) := by
  unfold FX8_isFull
  refine cg_of [some (aR g 8)] rfl (by decide) rfl rfl (fun T => ?_)
  refine g_aload_n (M := mX8_isFull) (pc := 0) 1 dX8_isFull_0 rfl rfl rfl ?_
  refine g_getI (M := mX8_isFull) (pc := 1) 4 dX8_isFull_1 rfl fX8_27 (oF8_5 hg) ?_
  refine g_bipush (M := mX8_isFull) (pc := 4) (v := 12) 6 dX8_isFull_4 rfl bp12 ?_
  refine g_icmp_lt (M := mX8_isFull) (pc := 6) 13 9 dX8_isFull_6 (by decide) rfl (fun _ => ?_) (fun _ => ?_)
  · refine g_iconst (M := mX8_isFull) (pc := 13) (v := 0) 14 dX8_isFull_13 rfl ic0 ?_
    exact g_iret (M := mX8_isFull) (pc := 14) dX8_isFull_14 rfl nz0 (fun z => z)
  · refine g_iconst (M := mX8_isFull) (pc := 9) (v := 1) 10 dX8_isFull_9 rfl ic1 ?_
    refine g_goto (M := mX8_isFull) (pc := 10) 14 dX8_isFull_10 (by decide) ?_
    exact g_iret (M := mX8_isFull) (pc := 14) dX8_isFull_14 rfl nz1 (fun z => z)
def FX8_add (g : Nat) (a1 : Int32) (a2 : Int32) (a3 : Int32) (h : HI) : Option (Int32 × HI) :=
  gd (ixb (h g 8 5) 12) <|
  nm (hP1 h g 9 (nC (h g 8 5)) a1) fun h1 =>
  gd (ixb (h1 g 8 5) 12) <|
  nm (hP1 h1 g 10 (nC (h1 g 8 5)) a2) fun h2 =>
  gd (ixb (h2 g 8 5) 12) <|
  nm (hP1 h2 g 11 (nC (h2 g 8 5)) a3) fun h3 =>
  gd (ixb (h3 g 8 5) 12) <|
  nm (hP1 h3 g 12 (nC (h3 g 8 5)) 0) fun h4 =>
  gd (ixb (h4 g 8 5) 12) <|
  nm (hP1 h4 g 13 (nC (h4 g 8 5)) 0) fun h5 =>
  nm (hP1 h5 g 8 5 ((h5 g 8 5) + 1)) fun h6 =>
  some (((h6 g 8 5) - 1), h6)
set_option maxRecDepth 100000 in
set_option maxHeartbeats 4000000 in
theorem CX8_add (g : Nat) (hg : g < 3) (a1 : Int32) (a2 : Int32) (a3 : Int32) (h : HI) (L : HL) : CG mX8_add 0 [aR g 8, aI a1, aI a2, aI a3] h L (lfIH L) (FX8_add g a1 a2 a3 h) := by
  unfold FX8_add
  refine cg_of [some (aR g 8), some (aI a1), some (aI a2), some (aI a3)] rfl (by decide) rfl rfl (fun T => ?_)
  refine g_aload_n (M := mX8_add) (pc := 0) 1 dX8_add_0 rfl rfl rfl ?_
  refine g_getR (M := mX8_add) (pc := 1) 4 dX8_add_1 rfl fX8_9 (oR8_0 hg) ?_
  refine g_aload_n (M := mX8_add) (pc := 4) 5 dX8_add_4 rfl rfl rfl ?_
  refine g_getI (M := mX8_add) (pc := 5) 8 dX8_add_5 rfl fX8_27 (oF8_5 hg) ?_
  refine g_iload_n (M := mX8_add) (pc := 8) 9 dX8_add_8 rfl rfl rfl ?_
  refine g_iast (M := mX8_add) (pc := 9) 10 dX8_add_9 rfl (oA9 hg) (fun h1 => ?_)
  refine g_aload_n (M := mX8_add) (pc := 10) 11 dX8_add_10 rfl rfl rfl ?_
  refine g_getR (M := mX8_add) (pc := 11) 14 dX8_add_11 rfl fX8_15 (oR8_1 hg) ?_
  refine g_aload_n (M := mX8_add) (pc := 14) 15 dX8_add_14 rfl rfl rfl ?_
  refine g_getI (M := mX8_add) (pc := 15) 18 dX8_add_15 rfl fX8_27 (oF8_5 hg) ?_
  refine g_iload_n (M := mX8_add) (pc := 18) 19 dX8_add_18 rfl rfl rfl ?_
  refine g_iast (M := mX8_add) (pc := 19) 20 dX8_add_19 rfl (oA10 hg) (fun h2 => ?_)
  refine g_aload_n (M := mX8_add) (pc := 20) 21 dX8_add_20 rfl rfl rfl ?_
  refine g_getR (M := mX8_add) (pc := 21) 24 dX8_add_21 rfl fX8_18 (oR8_2 hg) ?_
  refine g_aload_n (M := mX8_add) (pc := 24) 25 dX8_add_24 rfl rfl rfl ?_
  refine g_getI (M := mX8_add) (pc := 25) 28 dX8_add_25 rfl fX8_27 (oF8_5 hg) ?_
  refine g_iload_n (M := mX8_add) (pc := 28) 29 dX8_add_28 rfl rfl rfl ?_
  refine g_iast (M := mX8_add) (pc := 29) 30 dX8_add_29 rfl (oA11 hg) (fun h3 => ?_)
  refine g_aload_n (M := mX8_add) (pc := 30) 31 dX8_add_30 rfl rfl rfl ?_
  refine g_getR (M := mX8_add) (pc := 31) 34 dX8_add_31 rfl fX8_21 (oR8_3 hg) ?_
  refine g_aload_n (M := mX8_add) (pc := 34) 35 dX8_add_34 rfl rfl rfl ?_
  refine g_getI (M := mX8_add) (pc := 35) 38 dX8_add_35 rfl fX8_27 (oF8_5 hg) ?_
  refine g_iconst (M := mX8_add) (pc := 38) (v := 0) 39 dX8_add_38 rfl ic0 ?_
  refine g_iast (M := mX8_add) (pc := 39) 40 dX8_add_39 rfl (oA12 hg) (fun h4 => ?_)
  refine g_aload_n (M := mX8_add) (pc := 40) 41 dX8_add_40 rfl rfl rfl ?_
  refine g_getR (M := mX8_add) (pc := 41) 44 dX8_add_41 rfl fX8_24 (oR8_4 hg) ?_
  refine g_aload_n (M := mX8_add) (pc := 44) 45 dX8_add_44 rfl rfl rfl ?_
  refine g_getI (M := mX8_add) (pc := 45) 48 dX8_add_45 rfl fX8_27 (oF8_5 hg) ?_
  refine g_iconst (M := mX8_add) (pc := 48) (v := 0) 49 dX8_add_48 rfl ic0 ?_
  refine g_iast (M := mX8_add) (pc := 49) 50 dX8_add_49 rfl (oA13 hg) (fun h5 => ?_)
  refine g_aload_n (M := mX8_add) (pc := 50) 51 dX8_add_50 rfl rfl rfl ?_
  refine g_dup (M := mX8_add) (pc := 51) 52 dX8_add_51 rfl rfl ?_
  refine g_getI (M := mX8_add) (pc := 52) 55 dX8_add_52 rfl fX8_27 (oF8_5 hg) ?_
  refine g_iconst (M := mX8_add) (pc := 55) (v := 1) 56 dX8_add_55 rfl ic1 ?_
  refine g_iadd (M := mX8_add) (pc := 56) 57 dX8_add_56 rfl ?_
  refine g_put (M := mX8_add) (pc := 57) 60 dX8_add_57 rfl pX8_27 (oF8_5 hg) rfl rfl (fun h6 => ?_)
  refine g_aload_n (M := mX8_add) (pc := 60) 61 dX8_add_60 rfl rfl rfl ?_
  refine g_getI (M := mX8_add) (pc := 61) 64 dX8_add_61 rfl fX8_27 (oF8_5 hg) ?_
  refine g_iconst (M := mX8_add) (pc := 64) (v := 1) 65 dX8_add_64 rfl ic1 ?_
  refine g_isub (M := mX8_add) (pc := 65) 66 dX8_add_65 rfl ?_
  exact g_iret (M := mX8_add) (pc := 66) dX8_add_66 rfl rfl (fun z => z)
def JX2_readWant_108 (g1 : Nat) (a5 : Int32) (s1 : Int32) (s2 : Int32) (h : HI) : Option (Int32 × HI) :=
  gd (ixb s1 12) <|
  nm (hP1 h g1 12 (nC s1) s2) fun h17 =>
  Option.bind (FX2_takeWord 12 h17) fun (r18, h19) =>
  if r18 = 0 then
    gd (ixb a5 12) <|
    nm (hP1 h19 g1 13 (nC a5) 0) fun h20 =>
    some (1, h20)
  else
    gd (ixb a5 12) <|
    nm (hP1 h19 g1 13 (nC a5) 1) fun h21 =>
    some (1, h21)
def FX2_readWant (g1 : Nat) (h : HI) : Option (Int32 × HI) :=
  Option.bind (FX8_isFull g1 h) fun r1 =>
  if r1 = 0 then
    Option.bind (FX7_advance h) fun h2 =>
    Option.bind (FX2_takeNumber 0 9 h2) fun (r3, h4) =>
    if r3 < 0 then
      some (0, h4)
    else
      Option.bind (FX2_takeWord 9 h4) fun (r5, h6) =>
      if r5 = 0 then
        some (0, h6)
      else
        Option.bind (FX2_takeNumber 0 99 h6) fun (r7, h8) =>
        if r7 < 0 then
          some (0, h8)
        else
          Option.bind (FX2_takeWord 10 h8) fun (r9, h10) =>
          if r9 = 0 then
            some (0, h10)
          else
            Option.bind (FX2_takeNumber 0 99 h10) fun (r11, h12) =>
            if 0 ≤ r11 then
              Option.bind (FX8_add g1 r3 r7 r11 h12) fun (r13, h14) =>
              Option.bind (FX2_takeWord 11 h14) fun (r15, h16) =>
              if r15 = 0 then
                JX2_readWant_108 g1 r13 r13 0 h16
              else
                JX2_readWant_108 g1 r13 r13 1 h16
            else
              some (0, h12)
  else
    some (0, h)
set_option maxRecDepth 100000 in
set_option maxHeartbeats 4000000 in
theorem JX2_readWant_108_ok (g1 : Nat) (hg1 : g1 < 3) (a5 : Int32) (s1 : Int32) (s2 : Int32) (T : ZT) (h : HI) (L : HL) : VX mX2_readWant 7 T (fun r => Zl (lfIH L) r = T) 108 [some (aR 5 25), some (aR g1 8), none, none, none, some (aI a5)] [aI s2, aI s1, aR g1 12] h L (JX2_readWant_108 g1 a5 s1 s2 h) := by
  unfold JX2_readWant_108
  refine g_iast (M := mX2_readWant) (pc := 108) 109 dX2_readWant_108 rfl (oA12 hg1) (fun h17 => ?_)
  refine g_aload_n (M := mX2_readWant) (pc := 109) 110 dX2_readWant_109 rfl rfl rfl ?_
  refine g_getR (M := mX2_readWant) (pc := 110) 113 dX2_readWant_110 rfl fX2_121 (oR8_4 hg1) ?_
  refine g_iload (M := mX2_readWant) (pc := 113) 115 dX2_readWant_113 rfl rfl ?_
  refine g_aload_n (M := mX2_readWant) (pc := 115) 116 dX2_readWant_115 rfl rfl rfl ?_
  refine g_ldcS (M := mX2_readWant) (pc := 116) (i := 12) 118 dX2_readWant_116 rfl rfl rfl ?_
  refine g_cV_IH (M := mX2_readWant) (pc := 118) (M' := mX2_takeWord) (rest := [aI a5, aR g1 13]) 121 dX2_readWant_118 rfl kX2_97 okX2_takeWord (CX2_takeWord 12 h17 L) oO25 rfl rfl rfl rfl (fun r18 h19 => ?_)
  refine g_if_eq (M := mX2_readWant) (pc := 121) 128 124 dX2_readWant_121 (by decide) rfl (fun _ => ?_) (fun _ => ?_)
  · refine g_iconst (M := mX2_readWant) (pc := 128) (v := 0) 129 dX2_readWant_128 rfl ic0 ?_
    refine g_iast (M := mX2_readWant) (pc := 129) 130 dX2_readWant_129 rfl (oA13 hg1) (fun h20 => ?_)
    refine g_iconst (M := mX2_readWant) (pc := 130) (v := 1) 131 dX2_readWant_130 rfl ic1 ?_
    exact g_iret (M := mX2_readWant) (pc := 131) dX2_readWant_131 rfl nz1 (fun z => z)
  · refine g_iconst (M := mX2_readWant) (pc := 124) (v := 1) 125 dX2_readWant_124 rfl ic1 ?_
    refine g_goto (M := mX2_readWant) (pc := 125) 129 dX2_readWant_125 (by decide) ?_
    refine g_iast (M := mX2_readWant) (pc := 129) 130 dX2_readWant_129 rfl (oA13 hg1) (fun h21 => ?_)
    refine g_iconst (M := mX2_readWant) (pc := 130) (v := 1) 131 dX2_readWant_130 rfl ic1 ?_
    exact g_iret (M := mX2_readWant) (pc := 131) dX2_readWant_131 rfl nz1 (fun z => z)
set_option maxRecDepth 100000 in
set_option maxHeartbeats 4000000 in
theorem CX2_readWant (g1 : Nat) (hg1 : g1 < 3) (h : HI) (L : HL) : CG mX2_readWant 7 [aR 5 25, aR g1 8] h L (lfIH L) (FX2_readWant g1 h) := by
  unfold FX2_readWant
  refine cg_of [some (aR 5 25), some (aR g1 8), none, none, none, none] rfl (by decide) rfl rfl (fun T => ?_)
  refine g_aload_n (M := mX2_readWant) (pc := 0) 1 dX2_readWant_0 rfl rfl rfl ?_
  refine g_cV_I (M := mX2_readWant) (pc := 1) (M' := mX8_isFull) (rest := []) 4 dX2_readWant_1 rfl kX2_106 okX8_isFull (CX8_isFull g1 hg1 h L) (oO8 hg1) rfl rfl rfl rfl (fun r1 => ?_)
  refine g_if_eq (M := mX2_readWant) (pc := 4) 9 7 dX2_readWant_4 (by decide) rfl (fun _ => ?_) (fun _ => ?_)
  · refine g_aload_n (M := mX2_readWant) (pc := 9) 10 dX2_readWant_9 rfl rfl rfl ?_
    refine g_getR (M := mX2_readWant) (pc := 10) 13 dX2_readWant_10 rfl fX2_12 oR25_0 ?_
    refine g_cV_VH (M := mX2_readWant) (pc := 13) (M' := mX7_advance) (rest := []) 16 dX2_readWant_13 rfl kX2_29 okX7_advance (CX7_advance h L) oO26 rfl rfl rfl rfl (fun h2 => ?_)
    refine g_aload_n (M := mX2_readWant) (pc := 16) 17 dX2_readWant_16 rfl rfl rfl ?_
    refine g_iconst (M := mX2_readWant) (pc := 17) (v := 0) 18 dX2_readWant_17 rfl ic0 ?_
    refine g_bipush (M := mX2_readWant) (pc := 18) (v := 9) 20 dX2_readWant_18 rfl bp9 ?_
    refine g_cV_IH (M := mX2_readWant) (pc := 20) (M' := mX2_takeNumber) (rest := []) 23 dX2_readWant_20 rfl kX2_91 okX2_takeNumber (CX2_takeNumber 0 9 h2 L) oO25 rfl rfl rfl rfl (fun r3 h4 => ?_)
    refine g_istore_n (M := mX2_readWant) (pc := 23) (ls' := [some (aR 5 25), some (aR g1 8), some (aI r3), none, none, none]) 24 dX2_readWant_23 rfl rfl rfl rfl ?_
    refine g_iload_n (M := mX2_readWant) (pc := 24) 25 dX2_readWant_24 rfl rfl rfl ?_
    refine g_if_lt (M := mX2_readWant) (pc := 25) 37 28 dX2_readWant_25 (by decide) rfl (fun _ => ?_) (fun _ => ?_)
    · refine g_iconst (M := mX2_readWant) (pc := 37) (v := 0) 38 dX2_readWant_37 rfl ic0 ?_
      exact g_iret (M := mX2_readWant) (pc := 38) dX2_readWant_38 rfl nz0 (fun z => z)
    · refine g_aload_n (M := mX2_readWant) (pc := 28) 29 dX2_readWant_28 rfl rfl rfl ?_
      refine g_ldcS (M := mX2_readWant) (pc := 29) (i := 9) 31 dX2_readWant_29 rfl rfl rfl ?_
      refine g_cV_IH (M := mX2_readWant) (pc := 31) (M' := mX2_takeWord) (rest := []) 34 dX2_readWant_31 rfl kX2_97 okX2_takeWord (CX2_takeWord 9 h4 L) oO25 rfl rfl rfl rfl (fun r5 h6 => ?_)
      refine g_if_ne (M := mX2_readWant) (pc := 34) 39 37 dX2_readWant_34 (by decide) rfl (fun _ => ?_) (fun _ => ?_)
      · refine g_aload_n (M := mX2_readWant) (pc := 39) 40 dX2_readWant_39 rfl rfl rfl ?_
        refine g_iconst (M := mX2_readWant) (pc := 40) (v := 0) 41 dX2_readWant_40 rfl ic0 ?_
        refine g_bipush (M := mX2_readWant) (pc := 41) (v := 99) 43 dX2_readWant_41 rfl bp99 ?_
        refine g_cV_IH (M := mX2_readWant) (pc := 43) (M' := mX2_takeNumber) (rest := []) 46 dX2_readWant_43 rfl kX2_91 okX2_takeNumber (CX2_takeNumber 0 99 h6 L) oO25 rfl rfl rfl rfl (fun r7 h8 => ?_)
        refine g_istore_n (M := mX2_readWant) (pc := 46) (ls' := [some (aR 5 25), some (aR g1 8), some (aI r3), some (aI r7), none, none]) 47 dX2_readWant_46 rfl rfl rfl rfl ?_
        refine g_iload_n (M := mX2_readWant) (pc := 47) 48 dX2_readWant_47 rfl rfl rfl ?_
        refine g_if_lt (M := mX2_readWant) (pc := 48) 60 51 dX2_readWant_48 (by decide) rfl (fun _ => ?_) (fun _ => ?_)
        · refine g_iconst (M := mX2_readWant) (pc := 60) (v := 0) 61 dX2_readWant_60 rfl ic0 ?_
          exact g_iret (M := mX2_readWant) (pc := 61) dX2_readWant_61 rfl nz0 (fun z => z)
        · refine g_aload_n (M := mX2_readWant) (pc := 51) 52 dX2_readWant_51 rfl rfl rfl ?_
          refine g_ldcS (M := mX2_readWant) (pc := 52) (i := 10) 54 dX2_readWant_52 rfl rfl rfl ?_
          refine g_cV_IH (M := mX2_readWant) (pc := 54) (M' := mX2_takeWord) (rest := []) 57 dX2_readWant_54 rfl kX2_97 okX2_takeWord (CX2_takeWord 10 h8 L) oO25 rfl rfl rfl rfl (fun r9 h10 => ?_)
          refine g_if_ne (M := mX2_readWant) (pc := 57) 62 60 dX2_readWant_57 (by decide) rfl (fun _ => ?_) (fun _ => ?_)
          · refine g_aload_n (M := mX2_readWant) (pc := 62) 63 dX2_readWant_62 rfl rfl rfl ?_
            refine g_iconst (M := mX2_readWant) (pc := 63) (v := 0) 64 dX2_readWant_63 rfl ic0 ?_
            refine g_bipush (M := mX2_readWant) (pc := 64) (v := 99) 66 dX2_readWant_64 rfl bp99 ?_
            refine g_cV_IH (M := mX2_readWant) (pc := 66) (M' := mX2_takeNumber) (rest := []) 69 dX2_readWant_66 rfl kX2_91 okX2_takeNumber (CX2_takeNumber 0 99 h10 L) oO25 rfl rfl rfl rfl (fun r11 h12 => ?_)
            refine g_istore (M := mX2_readWant) (pc := 69) (ls' := [some (aR 5 25), some (aR g1 8), some (aI r3), some (aI r7), some (aI r11), none]) 71 dX2_readWant_69 rfl rfl rfl ?_
            refine g_iload (M := mX2_readWant) (pc := 71) 73 dX2_readWant_71 rfl rfl ?_
            refine g_if_ge (M := mX2_readWant) (pc := 73) 78 76 dX2_readWant_73 (by decide) rfl (fun _ => ?_) (fun _ => ?_)
            · refine g_aload_n (M := mX2_readWant) (pc := 78) 79 dX2_readWant_78 rfl rfl rfl ?_
              refine g_iload_n (M := mX2_readWant) (pc := 79) 80 dX2_readWant_79 rfl rfl rfl ?_
              refine g_iload_n (M := mX2_readWant) (pc := 80) 81 dX2_readWant_80 rfl rfl rfl ?_
              refine g_iload (M := mX2_readWant) (pc := 81) 83 dX2_readWant_81 rfl rfl ?_
              refine g_cV_IH (M := mX2_readWant) (pc := 83) (M' := mX8_add) (rest := []) 86 dX2_readWant_83 rfl kX2_113 okX8_add (CX8_add g1 hg1 r3 r7 r11 h12 L) (oO8 hg1) rfl rfl rfl rfl (fun r13 h14 => ?_)
              refine g_istore (M := mX2_readWant) (pc := 86) (ls' := [some (aR 5 25), some (aR g1 8), some (aI r3), some (aI r7), some (aI r11), some (aI r13)]) 88 dX2_readWant_86 rfl rfl rfl ?_
              refine g_aload_n (M := mX2_readWant) (pc := 88) 89 dX2_readWant_88 rfl rfl rfl ?_
              refine g_getR (M := mX2_readWant) (pc := 89) 92 dX2_readWant_89 rfl fX2_116 (oR8_3 hg1) ?_
              refine g_iload (M := mX2_readWant) (pc := 92) 94 dX2_readWant_92 rfl rfl ?_
              refine g_aload_n (M := mX2_readWant) (pc := 94) 95 dX2_readWant_94 rfl rfl rfl ?_
              refine g_ldcS (M := mX2_readWant) (pc := 95) (i := 11) 97 dX2_readWant_95 rfl rfl rfl ?_
              refine g_cV_IH (M := mX2_readWant) (pc := 97) (M' := mX2_takeWord) (rest := [aI r13, aR g1 12]) 100 dX2_readWant_97 rfl kX2_97 okX2_takeWord (CX2_takeWord 11 h14 L) oO25 rfl rfl rfl rfl (fun r15 h16 => ?_)
              refine g_if_eq (M := mX2_readWant) (pc := 100) 107 103 dX2_readWant_100 (by decide) rfl (fun _ => ?_) (fun _ => ?_)
              · refine g_iconst (M := mX2_readWant) (pc := 107) (v := 0) 108 dX2_readWant_107 rfl ic0 ?_
                exact g_fgt [true, true, false, false, false, true] (JX2_readWant_108_ok g1 hg1 r13 r13 0 T h16 L)
              · refine g_iconst (M := mX2_readWant) (pc := 103) (v := 1) 104 dX2_readWant_103 rfl ic1 ?_
                refine g_goto (M := mX2_readWant) (pc := 104) 108 dX2_readWant_104 (by decide) ?_
                exact g_fgt [true, true, false, false, false, true] (JX2_readWant_108_ok g1 hg1 r13 r13 1 T h16 L)
            · refine g_iconst (M := mX2_readWant) (pc := 76) (v := 0) 77 dX2_readWant_76 rfl ic0 ?_
              exact g_iret (M := mX2_readWant) (pc := 77) dX2_readWant_77 rfl nz0 (fun z => z)
          · refine g_iconst (M := mX2_readWant) (pc := 60) (v := 0) 61 dX2_readWant_60 rfl ic0 ?_
            exact g_iret (M := mX2_readWant) (pc := 61) dX2_readWant_61 rfl nz0 (fun z => z)
      · refine g_iconst (M := mX2_readWant) (pc := 37) (v := 0) 38 dX2_readWant_37 rfl ic0 ?_
        exact g_iret (M := mX2_readWant) (pc := 38) dX2_readWant_38 rfl nz0 (fun z => z)
  · refine g_iconst (M := mX2_readWant) (pc := 7) (v := 0) 8 dX2_readWant_7 rfl ic0 ?_
    exact g_iret (M := mX2_readWant) (pc := 8) dX2_readWant_8 rfl nz0 (fun z => z)
def FX2_readLine (g1 : Nat) (h : HI) : Option (Int32 × HI) :=
  Option.bind (FX7_advance h) fun h1 =>
  Option.bind (FX2_takeNumber 1 100 h1) fun (r2, h3) =>
  if 0 ≤ r2 then
    nm (hP1 h3 g1 0 3 r2) fun h4 =>
    some (1, h4)
  else
    some (0, h3)
set_option maxRecDepth 100000 in
set_option maxHeartbeats 4000000 in
theorem CX2_readLine (g1 : Nat) (hg1 : g1 < 3) (h : HI) (L : HL) : CG mX2_readLine 3 [aR 5 25, aR g1 0] h L (lfIH L) (FX2_readLine g1 h) := by
  unfold FX2_readLine
  refine cg_of [some (aR 5 25), some (aR g1 0), none] rfl (by decide) rfl rfl (fun T => ?_)
  refine g_aload_n (M := mX2_readLine) (pc := 0) 1 dX2_readLine_0 rfl rfl rfl ?_
  refine g_getR (M := mX2_readLine) (pc := 1) 4 dX2_readLine_1 rfl fX2_12 oR25_0 ?_
  refine g_cV_VH (M := mX2_readLine) (pc := 4) (M' := mX7_advance) (rest := []) 7 dX2_readLine_4 rfl kX2_29 okX7_advance (CX7_advance h L) oO26 rfl rfl rfl rfl (fun h1 => ?_)
  refine g_aload_n (M := mX2_readLine) (pc := 7) 8 dX2_readLine_7 rfl rfl rfl ?_
  refine g_iconst (M := mX2_readLine) (pc := 8) (v := 1) 9 dX2_readLine_8 rfl ic1 ?_
  refine g_bipush (M := mX2_readLine) (pc := 9) (v := 100) 11 dX2_readLine_9 rfl bp100 ?_
  refine g_cV_IH (M := mX2_readLine) (pc := 11) (M' := mX2_takeNumber) (rest := []) 14 dX2_readLine_11 rfl kX2_91 okX2_takeNumber (CX2_takeNumber 1 100 h1 L) oO25 rfl rfl rfl rfl (fun r2 h3 => ?_)
  refine g_istore_n (M := mX2_readLine) (pc := 14) (ls' := [some (aR 5 25), some (aR g1 0), some (aI r2)]) 15 dX2_readLine_14 rfl rfl rfl rfl ?_
  refine g_iload_n (M := mX2_readLine) (pc := 15) 16 dX2_readLine_15 rfl rfl rfl ?_
  refine g_if_ge (M := mX2_readLine) (pc := 16) 21 19 dX2_readLine_16 (by decide) rfl (fun _ => ?_) (fun _ => ?_)
  · refine g_aload_n (M := mX2_readLine) (pc := 21) 22 dX2_readLine_21 rfl rfl rfl ?_
    refine g_iload_n (M := mX2_readLine) (pc := 22) 23 dX2_readLine_22 rfl rfl rfl ?_
    refine g_put (M := mX2_readLine) (pc := 23) 26 dX2_readLine_23 rfl pX2_125 (oF0_3 hg1) rfl rfl (fun h4 => ?_)
    refine g_iconst (M := mX2_readLine) (pc := 26) (v := 1) 27 dX2_readLine_26 rfl ic1 ?_
    exact g_iret (M := mX2_readLine) (pc := 27) dX2_readLine_27 rfl nz1 (fun z => z)
  · refine g_iconst (M := mX2_readLine) (pc := 19) (v := 0) 20 dX2_readLine_19 rfl ic0 ?_
    exact g_iret (M := mX2_readLine) (pc := 20) dX2_readLine_20 rfl nz0 (fun z => z)
def SX3_placeOf_2 (g : Nat) (a1 : Int32) (h : HI) : Int32 → Option ((Int32) ⊕ (Int32))
  | a2 =>
    if (h g 14 1) ≤ a2 then
      some (Sum.inr (-1))
    else
      gd (ixb a2 12) <|
      if (h g 15 (nC a2)) = a1 then
        some (Sum.inr a2)
      else
        some (Sum.inl (a2 + 1))
def FX3_placeOf (g : Nat) (a1 : Int32) (h : HI) : Option (Int32) :=
  Option.bind (loopN (SX3_placeOf_2 g a1 h) FU 0) fun r => some r
set_option maxRecDepth 100000 in
set_option maxHeartbeats 4000000 in
theorem SX3_placeOf_2_ok (g : Nat) (hg : g < 3) (a1 : Int32) (h : HI) (L : HL) (T : ZT) (a2 : Int32) : VX mX3_placeOf 0 T (gS (fun s : Int32 => V mX3_placeOf 0 T 2 [some (aR g 14), some (aI a1), some (aI s)] [] h L) (fun r => Zl (lfI h L) r = T)) 2 [some (aR g 14), some (aI a1), some (aI a2)] [] h L (SX3_placeOf_2 g a1 h a2) := by
  unfold SX3_placeOf_2
  refine g_iload_n (M := mX3_placeOf) (pc := 2) 3 dX3_placeOf_2 rfl rfl rfl ?_
  refine g_aload_n (M := mX3_placeOf) (pc := 3) 4 dX3_placeOf_3 rfl rfl rfl ?_
  refine g_getI (M := mX3_placeOf) (pc := 4) 7 dX3_placeOf_4 rfl fX3_15 (oF14_1 hg) ?_
  refine g_icmp_ge (M := mX3_placeOf) (pc := 7) 28 10 dX3_placeOf_7 (by decide) rfl (fun _ => ?_) (fun _ => ?_)
  · refine g_iconst (M := mX3_placeOf) (pc := 28) (v := (-1)) 29 dX3_placeOf_28 rfl icm1 ?_
    exact g_iret (M := mX3_placeOf) (pc := 29) dX3_placeOf_29 rfl rfl (fun z => z)
  · refine g_aload_n (M := mX3_placeOf) (pc := 10) 11 dX3_placeOf_10 rfl rfl rfl ?_
    refine g_getR (M := mX3_placeOf) (pc := 11) 14 dX3_placeOf_11 rfl fX3_9 (oR14_0 hg) ?_
    refine g_iload_n (M := mX3_placeOf) (pc := 14) 15 dX3_placeOf_14 rfl rfl rfl ?_
    refine g_iald (M := mX3_placeOf) (pc := 15) 16 dX3_placeOf_15 rfl (oA15 hg) ?_
    refine g_iload_n (M := mX3_placeOf) (pc := 16) 17 dX3_placeOf_16 rfl rfl rfl ?_
    refine g_icmp_ne (M := mX3_placeOf) (pc := 17) 22 20 dX3_placeOf_17 (by decide) rfl (fun _ => ?_) (fun _ => ?_)
    · refine g_iinc (M := mX3_placeOf) (pc := 22) (c := 1) (ls' := [some (aR g 14), some (aI a1), some (aI (a2 + 1))]) 25 dX3_placeOf_22 rfl ic1 rfl rfl rfl ?_
      refine g_goto (M := mX3_placeOf) (pc := 25) 2 dX3_placeOf_25 (by decide) ?_
      exact g_jmp (fun z => v_fgt [true, true, true] z)
    · refine g_iload_n (M := mX3_placeOf) (pc := 20) 21 dX3_placeOf_20 rfl rfl rfl ?_
      exact g_iret (M := mX3_placeOf) (pc := 21) dX3_placeOf_21 rfl rfl (fun z => z)
set_option maxRecDepth 100000 in
set_option maxHeartbeats 4000000 in
theorem CX3_placeOf (g : Nat) (hg : g < 3) (a1 : Int32) (h : HI) (L : HL) : CG mX3_placeOf 0 [aR g 14, aI a1] h L (lfI h L) (FX3_placeOf g a1 h) := by
  unfold FX3_placeOf
  refine cg_of [some (aR g 14), some (aI a1), none] rfl (by decide) rfl rfl (fun T => ?_)
  refine g_iconst (M := mX3_placeOf) (pc := 0) (v := 0) 1 dX3_placeOf_0 rfl ic0 ?_
  refine g_istore_n (M := mX3_placeOf) (pc := 1) (ls' := [some (aR g 14), some (aI a1), some (aI 0)]) 2 dX3_placeOf_1 rfl rfl rfl rfl ?_
  exact g_loop (fun s => SX3_placeOf_2_ok g hg a1 h L T s) (fun e b z1 z2 => by cases z1; exact z2) (fun z => v_fgt [true, true, true] z)
def FX3_append (g : Nat) (a1 : Int32) (h : HI) : Option (HI) :=
  if 12 ≤ (h g 14 1) then
    some h
  else
    Option.bind (FX3_placeOf g a1 h) fun r1 =>
    if 0 ≤ r1 then
      some h
    else
      gd (ixb (h g 14 1) 12) <|
      nm (hP1 h g 15 (nC (h g 14 1)) a1) fun h2 =>
      nm (hP1 h2 g 14 1 ((h2 g 14 1) + 1)) fun h3 =>
      some h3
set_option maxRecDepth 100000 in
set_option maxHeartbeats 4000000 in
theorem CX3_append (g : Nat) (hg : g < 3) (a1 : Int32) (h : HI) (L : HL) : CG mX3_append 1 [aR g 14, aI a1] h L (lfVH L) (FX3_append g a1 h) := by
  unfold FX3_append
  refine cg_of [some (aR g 14), some (aI a1)] rfl (by decide) rfl rfl (fun T => ?_)
  refine g_aload_n (M := mX3_append) (pc := 0) 1 dX3_append_0 rfl rfl rfl ?_
  refine g_getI (M := mX3_append) (pc := 1) 4 dX3_append_1 rfl fX3_15 (oF14_1 hg) ?_
  refine g_bipush (M := mX3_append) (pc := 4) (v := 12) 6 dX3_append_4 rfl bp12 ?_
  refine g_icmp_ge (M := mX3_append) (pc := 6) 37 9 dX3_append_6 (by decide) rfl (fun _ => ?_) (fun _ => ?_)
  · exact g_vret (M := mX3_append) (pc := 37) dX3_append_37 rfl (fun z => z)
  · refine g_aload_n (M := mX3_append) (pc := 9) 10 dX3_append_9 rfl rfl rfl ?_
    refine g_iload_n (M := mX3_append) (pc := 10) 11 dX3_append_10 rfl rfl rfl ?_
    refine g_cV_I (M := mX3_append) (pc := 11) (M' := mX3_placeOf) (rest := []) 14 dX3_append_11 rfl kX3_19 okX3_placeOf (CX3_placeOf g hg a1 h L) (oO14 hg) rfl rfl rfl rfl (fun r1 => ?_)
    refine g_if_ge (M := mX3_append) (pc := 14) 37 17 dX3_append_14 (by decide) rfl (fun _ => ?_) (fun _ => ?_)
    · exact g_vret (M := mX3_append) (pc := 37) dX3_append_37 rfl (fun z => z)
    · refine g_aload_n (M := mX3_append) (pc := 17) 18 dX3_append_17 rfl rfl rfl ?_
      refine g_getR (M := mX3_append) (pc := 18) 21 dX3_append_18 rfl fX3_9 (oR14_0 hg) ?_
      refine g_aload_n (M := mX3_append) (pc := 21) 22 dX3_append_21 rfl rfl rfl ?_
      refine g_getI (M := mX3_append) (pc := 22) 25 dX3_append_22 rfl fX3_15 (oF14_1 hg) ?_
      refine g_iload_n (M := mX3_append) (pc := 25) 26 dX3_append_25 rfl rfl rfl ?_
      refine g_iast (M := mX3_append) (pc := 26) 27 dX3_append_26 rfl (oA15 hg) (fun h2 => ?_)
      refine g_aload_n (M := mX3_append) (pc := 27) 28 dX3_append_27 rfl rfl rfl ?_
      refine g_dup (M := mX3_append) (pc := 28) 29 dX3_append_28 rfl rfl ?_
      refine g_getI (M := mX3_append) (pc := 29) 32 dX3_append_29 rfl fX3_15 (oF14_1 hg) ?_
      refine g_iconst (M := mX3_append) (pc := 32) (v := 1) 33 dX3_append_32 rfl ic1 ?_
      refine g_iadd (M := mX3_append) (pc := 33) 34 dX3_append_33 rfl ?_
      refine g_put (M := mX3_append) (pc := 34) 37 dX3_append_34 rfl pX3_15 (oF14_1 hg) rfl rfl (fun h3 => ?_)
      exact g_vret (M := mX3_append) (pc := 37) dX3_append_37 rfl (fun z => z)
def JX2_readOrder_70 (g1 : Nat) (a2 : Int32) (h : HI) : Option ((Int32 × HI) ⊕ (Int32 × HI)) :=
  Option.bind (FX2_takeNumber 0 ((h g1 1 6) - 1) h) fun (r3, h4) =>
  if 0 ≤ r3 then
    Option.bind (FX3_append g1 r3 h4) fun h5 =>
    some (Sum.inl ((a2 + 1), h5))
  else
    some (Sum.inr (0, h4))
def JX2_readOrder_40 (g1 : Nat) (a2 : Int32) (h : HI) : Option ((Int32 × HI) ⊕ (Int32 × HI)) :=
  if (h 5 26 2) = 2 then
    Option.bind (FX3_placeOf g1 (h 5 26 4) h) fun r6 =>
    if r6 < 0 then
      JX2_readOrder_70 g1 a2 h
    else
      some (Sum.inr (0, h))
  else
    JX2_readOrder_70 g1 a2 h
def SX2_readOrder_17 (g1 : Nat) : (Int32 × HI) → Option ((Int32 × HI) ⊕ (Int32 × HI))
  | (a2, h) =>
    if 12 < a2 then
      some (Sum.inr (0, h))
    else
      if a2 ≤ 0 then
        JX2_readOrder_40 g1 a2 h
      else
        if (h 5 26 2) = 2 then
          JX2_readOrder_40 g1 a2 h
        else
          some (Sum.inr (1, h))
def FX2_readOrder (g1 : Nat) (h : HI) : Option (Int32 × HI) :=
  Option.bind (FX7_advance h) fun h1 =>
  nm (hP1 h1 g1 14 1 0) fun h2 =>
  Option.bind (loopN (SX2_readOrder_17 g1) FU (0, h2)) fun r => some r
set_option maxRecDepth 100000 in
set_option maxHeartbeats 4000000 in
theorem JX2_readOrder_70_ok (g1 : Nat) (hg1 : g1 < 3) (a2 : Int32) (T : ZT) (h : HI) (L : HL) : VX mX2_readOrder 3 T (gS (fun s : Int32 × HI => V mX2_readOrder 3 T 17 [some (aR 5 25), some (aR g1 0), some (aI (s.1)), none] [] (s.2) L) (fun r => Zl (lfIH L) r = T)) 70 [some (aR 5 25), some (aR g1 0), some (aI a2), none] [] h L (JX2_readOrder_70 g1 a2 h) := by
  unfold JX2_readOrder_70
  refine g_aload_n (M := mX2_readOrder) (pc := 70) 71 dX2_readOrder_70 rfl rfl rfl ?_
  refine g_iconst (M := mX2_readOrder) (pc := 71) (v := 0) 72 dX2_readOrder_71 rfl ic0 ?_
  refine g_aload_n (M := mX2_readOrder) (pc := 72) 73 dX2_readOrder_72 rfl rfl rfl ?_
  refine g_getR (M := mX2_readOrder) (pc := 73) 76 dX2_readOrder_73 rfl fX2_39 (oR0_0 hg1) ?_
  refine g_getI (M := mX2_readOrder) (pc := 76) 79 dX2_readOrder_76 rfl fX2_141 (oF1_6 hg1) ?_
  refine g_iconst (M := mX2_readOrder) (pc := 79) (v := 1) 80 dX2_readOrder_79 rfl ic1 ?_
  refine g_isub (M := mX2_readOrder) (pc := 80) 81 dX2_readOrder_80 rfl ?_
  refine g_cV_IH (M := mX2_readOrder) (pc := 81) (M' := mX2_takeNumber) (rest := []) 84 dX2_readOrder_81 rfl kX2_91 okX2_takeNumber (CX2_takeNumber 0 ((h g1 1 6) - 1) h L) oO25 rfl rfl rfl rfl (fun r3 h4 => ?_)
  refine g_istore_n (M := mX2_readOrder) (pc := 84) (ls' := [some (aR 5 25), some (aR g1 0), some (aI a2), some (aI r3)]) 85 dX2_readOrder_84 rfl rfl rfl rfl ?_
  refine g_iload_n (M := mX2_readOrder) (pc := 85) 86 dX2_readOrder_85 rfl rfl rfl ?_
  refine g_if_ge (M := mX2_readOrder) (pc := 86) 91 89 dX2_readOrder_86 (by decide) rfl (fun _ => ?_) (fun _ => ?_)
  · refine g_aload_n (M := mX2_readOrder) (pc := 91) 92 dX2_readOrder_91 rfl rfl rfl ?_
    refine g_getR (M := mX2_readOrder) (pc := 92) 95 dX2_readOrder_92 rfl fX2_127 (oR0_2 hg1) ?_
    refine g_iload_n (M := mX2_readOrder) (pc := 95) 96 dX2_readOrder_95 rfl rfl rfl ?_
    refine g_cV_VH (M := mX2_readOrder) (pc := 96) (M' := mX3_append) (rest := []) 99 dX2_readOrder_96 rfl kX2_142 okX3_append (CX3_append g1 hg1 r3 h4 L) (oO14 hg1) rfl rfl rfl rfl (fun h5 => ?_)
    refine g_iinc (M := mX2_readOrder) (pc := 99) (c := 1) (ls' := [some (aR 5 25), some (aR g1 0), some (aI (a2 + 1)), some (aI r3)]) 102 dX2_readOrder_99 rfl ic1 rfl rfl rfl ?_
    refine g_goto (M := mX2_readOrder) (pc := 102) 17 dX2_readOrder_102 (by decide) ?_
    exact g_jmp (fun z => v_fgt [true, true, true, false] z)
  · refine g_iconst (M := mX2_readOrder) (pc := 89) (v := 0) 90 dX2_readOrder_89 rfl ic0 ?_
    exact g_iret (M := mX2_readOrder) (pc := 90) dX2_readOrder_90 rfl nz0 (fun z => z)
set_option maxRecDepth 100000 in
set_option maxHeartbeats 4000000 in
theorem JX2_readOrder_40_ok (g1 : Nat) (hg1 : g1 < 3) (a2 : Int32) (T : ZT) (h : HI) (L : HL) : VX mX2_readOrder 3 T (gS (fun s : Int32 × HI => V mX2_readOrder 3 T 17 [some (aR 5 25), some (aR g1 0), some (aI (s.1)), none] [] (s.2) L) (fun r => Zl (lfIH L) r = T)) 40 [some (aR 5 25), some (aR g1 0), some (aI a2), none] [] h L (JX2_readOrder_40 g1 a2 h) := by
  unfold JX2_readOrder_40
  refine g_aload_n (M := mX2_readOrder) (pc := 40) 41 dX2_readOrder_40 rfl rfl rfl ?_
  refine g_getR (M := mX2_readOrder) (pc := 41) 44 dX2_readOrder_41 rfl fX2_12 oR25_0 ?_
  refine g_getI (M := mX2_readOrder) (pc := 44) 47 dX2_readOrder_44 rfl fX2_25 oF26_2 ?_
  refine g_iconst (M := mX2_readOrder) (pc := 47) (v := 2) 48 dX2_readOrder_47 rfl ic2 ?_
  refine g_icmp_ne (M := mX2_readOrder) (pc := 48) 70 51 dX2_readOrder_48 (by decide) rfl (fun _ => ?_) (fun _ => ?_)
  · exact g_fgt [true, true, true, false] (JX2_readOrder_70_ok g1 hg1 a2 T h L)
  · refine g_aload_n (M := mX2_readOrder) (pc := 51) 52 dX2_readOrder_51 rfl rfl rfl ?_
    refine g_getR (M := mX2_readOrder) (pc := 52) 55 dX2_readOrder_52 rfl fX2_127 (oR0_2 hg1) ?_
    refine g_aload_n (M := mX2_readOrder) (pc := 55) 56 dX2_readOrder_55 rfl rfl rfl ?_
    refine g_getR (M := mX2_readOrder) (pc := 56) 59 dX2_readOrder_56 rfl fX2_12 oR25_0 ?_
    refine g_getI (M := mX2_readOrder) (pc := 59) 62 dX2_readOrder_59 rfl fX2_135 oF26_4 ?_
    refine g_cV_I (M := mX2_readOrder) (pc := 62) (M' := mX3_placeOf) (rest := []) 65 dX2_readOrder_62 rfl kX2_137 okX3_placeOf (CX3_placeOf g1 hg1 (h 5 26 4) h L) (oO14 hg1) rfl rfl rfl rfl (fun r6 => ?_)
    refine g_if_lt (M := mX2_readOrder) (pc := 65) 70 68 dX2_readOrder_65 (by decide) rfl (fun _ => ?_) (fun _ => ?_)
    · exact g_fgt [true, true, true, false] (JX2_readOrder_70_ok g1 hg1 a2 T h L)
    · refine g_iconst (M := mX2_readOrder) (pc := 68) (v := 0) 69 dX2_readOrder_68 rfl ic0 ?_
      exact g_iret (M := mX2_readOrder) (pc := 69) dX2_readOrder_69 rfl nz0 (fun z => z)
set_option maxRecDepth 100000 in
set_option maxHeartbeats 4000000 in
theorem SX2_readOrder_17_ok (g1 : Nat) (hg1 : g1 < 3) (L : HL) (T : ZT) (a2 : Int32) (h : HI) : VX mX2_readOrder 3 T (gS (fun s : Int32 × HI => V mX2_readOrder 3 T 17 [some (aR 5 25), some (aR g1 0), some (aI (s.1)), none] [] (s.2) L) (fun r => Zl (lfIH L) r = T)) 17 [some (aR 5 25), some (aR g1 0), some (aI a2), none] [] h L (SX2_readOrder_17 g1 (a2, h)) := by
  unfold SX2_readOrder_17
  refine g_iload_n (M := mX2_readOrder) (pc := 17) 18 dX2_readOrder_17 rfl rfl rfl ?_
  refine g_bipush (M := mX2_readOrder) (pc := 18) (v := 12) 20 dX2_readOrder_18 rfl bp12 ?_
  refine g_icmp_gt (M := mX2_readOrder) (pc := 20) 105 23 dX2_readOrder_20 (by decide) rfl (fun _ => ?_) (fun _ => ?_)
  · refine g_iconst (M := mX2_readOrder) (pc := 105) (v := 0) 106 dX2_readOrder_105 rfl ic0 ?_
    exact g_iret (M := mX2_readOrder) (pc := 106) dX2_readOrder_106 rfl nz0 (fun z => z)
  · refine g_iload_n (M := mX2_readOrder) (pc := 23) 24 dX2_readOrder_23 rfl rfl rfl ?_
    refine g_if_le (M := mX2_readOrder) (pc := 24) 40 27 dX2_readOrder_24 (by decide) rfl (fun _ => ?_) (fun _ => ?_)
    · exact g_fgt [true, true, true, false] (JX2_readOrder_40_ok g1 hg1 a2 T h L)
    · refine g_aload_n (M := mX2_readOrder) (pc := 27) 28 dX2_readOrder_27 rfl rfl rfl ?_
      refine g_getR (M := mX2_readOrder) (pc := 28) 31 dX2_readOrder_28 rfl fX2_12 oR25_0 ?_
      refine g_getI (M := mX2_readOrder) (pc := 31) 34 dX2_readOrder_31 rfl fX2_25 oF26_2 ?_
      refine g_iconst (M := mX2_readOrder) (pc := 34) (v := 2) 35 dX2_readOrder_34 rfl ic2 ?_
      refine g_icmp_eq (M := mX2_readOrder) (pc := 35) 40 38 dX2_readOrder_35 (by decide) rfl (fun _ => ?_) (fun _ => ?_)
      · exact g_fgt [true, true, true, false] (JX2_readOrder_40_ok g1 hg1 a2 T h L)
      · refine g_iconst (M := mX2_readOrder) (pc := 38) (v := 1) 39 dX2_readOrder_38 rfl ic1 ?_
        exact g_iret (M := mX2_readOrder) (pc := 39) dX2_readOrder_39 rfl nz1 (fun z => z)
set_option maxRecDepth 100000 in
set_option maxHeartbeats 4000000 in
theorem CX2_readOrder (g1 : Nat) (hg1 : g1 < 3) (h : HI) (L : HL) : CG mX2_readOrder 3 [aR 5 25, aR g1 0] h L (lfIH L) (FX2_readOrder g1 h) := by
  unfold FX2_readOrder
  refine cg_of [some (aR 5 25), some (aR g1 0), none, none] rfl (by decide) rfl rfl (fun T => ?_)
  refine g_aload_n (M := mX2_readOrder) (pc := 0) 1 dX2_readOrder_0 rfl rfl rfl ?_
  refine g_getR (M := mX2_readOrder) (pc := 1) 4 dX2_readOrder_1 rfl fX2_12 oR25_0 ?_
  refine g_cV_VH (M := mX2_readOrder) (pc := 4) (M' := mX7_advance) (rest := []) 7 dX2_readOrder_4 rfl kX2_29 okX7_advance (CX7_advance h L) oO26 rfl rfl rfl rfl (fun h1 => ?_)
  refine g_aload_n (M := mX2_readOrder) (pc := 7) 8 dX2_readOrder_7 rfl rfl rfl ?_
  refine g_getR (M := mX2_readOrder) (pc := 8) 11 dX2_readOrder_8 rfl fX2_127 (oR0_2 hg1) ?_
  refine g_iconst (M := mX2_readOrder) (pc := 11) (v := 0) 12 dX2_readOrder_11 rfl ic0 ?_
  refine g_put (M := mX2_readOrder) (pc := 12) 15 dX2_readOrder_12 rfl pX2_130 (oF14_1 hg1) rfl rfl (fun h2 => ?_)
  refine g_iconst (M := mX2_readOrder) (pc := 15) (v := 0) 16 dX2_readOrder_15 rfl ic0 ?_
  refine g_istore_n (M := mX2_readOrder) (pc := 16) (ls' := [some (aR 5 25), some (aR g1 0), some (aI 0), none]) 17 dX2_readOrder_16 rfl rfl rfl rfl ?_
  exact g_loop (fun s => SX2_readOrder_17_ok g1 hg1 L T s.1 s.2) (fun e b z1 z2 => by cases z1; exact z2) (fun z => v_fgt [true, true, true, false] z)
def FX2_readItem (g1 : Nat) (h : HI) : Option (Int32 × HI) :=
  Option.bind (FX2_kindNamed h) fun r1 =>
  if r1 < 0 then
    Option.bind (FX7_isWord 8 h) fun r2 =>
    if r2 = 0 then
      Option.bind (FX7_isWord 13 h) fun r3 =>
      if r3 = 0 then
        Option.bind (FX7_isWord 14 h) fun r4 =>
        if r4 = 0 then
          some (0, h)
        else
          Option.bind (FX2_readOrder g1 h) fun (r5, h6) =>
          if r5 = 0 then
            some (0, h6)
          else
            some (1, h6)
      else
        Option.bind (FX2_readLine g1 h) fun (r7, h8) =>
        gd (isB r7) (some (r7, h8))
    else
      Option.bind (FX2_readWant g1 h) fun (r9, h10) =>
      gd (isB r9) (some (r9, h10))
  else
    Option.bind (FX2_readPhrase g1 r1 h) fun (r11, h12) =>
    gd (isB r11) (some (r11, h12))
set_option maxRecDepth 100000 in
set_option maxHeartbeats 4000000 in
theorem CX2_readItem (g1 : Nat) (hg1 : g1 < 3) (h : HI) (L : HL) : CG mX2_readItem 8 [aR 5 25, aR g1 0] h L (lfIH L) (FX2_readItem g1 h) := by
  unfold FX2_readItem
  refine cg_of [some (aR 5 25), some (aR g1 0), none] rfl (by decide) rfl rfl (fun T => ?_)
  refine g_aload_n (M := mX2_readItem) (pc := 0) 1 dX2_readItem_0 rfl rfl rfl ?_
  refine g_cV_I (M := mX2_readItem) (pc := 1) (M' := mX2_kindNamed) (rest := []) 4 dX2_readItem_1 rfl kX2_35 okX2_kindNamed (CX2_kindNamed h L) oO25 rfl rfl rfl rfl (fun r1 => ?_)
  refine g_istore_n (M := mX2_readItem) (pc := 4) (ls' := [some (aR 5 25), some (aR g1 0), some (aI r1)]) 5 dX2_readItem_4 rfl rfl rfl rfl ?_
  refine g_iload_n (M := mX2_readItem) (pc := 5) 6 dX2_readItem_5 rfl rfl rfl ?_
  refine g_if_lt (M := mX2_readItem) (pc := 6) 19 9 dX2_readItem_6 (by decide) rfl (fun _ => ?_) (fun _ => ?_)
  · refine g_aload_n (M := mX2_readItem) (pc := 19) 20 dX2_readItem_19 rfl rfl rfl ?_
    refine g_getR (M := mX2_readItem) (pc := 20) 23 dX2_readItem_20 rfl fX2_12 oR25_0 ?_
    refine g_ldcS (M := mX2_readItem) (pc := 23) (i := 8) 25 dX2_readItem_23 rfl rfl rfl ?_
    refine g_cV_I (M := mX2_readItem) (pc := 25) (M' := mX7_isWord) (rest := []) 28 dX2_readItem_25 rfl kX2_51 okX7_isWord (CX7_isWord 8 h L) oO26 rfl rfl rfl rfl (fun r2 => ?_)
    refine g_if_eq (M := mX2_readItem) (pc := 28) 40 31 dX2_readItem_28 (by decide) rfl (fun _ => ?_) (fun _ => ?_)
    · refine g_aload_n (M := mX2_readItem) (pc := 40) 41 dX2_readItem_40 rfl rfl rfl ?_
      refine g_getR (M := mX2_readItem) (pc := 41) 44 dX2_readItem_41 rfl fX2_12 oR25_0 ?_
      refine g_ldcS (M := mX2_readItem) (pc := 44) (i := 13) 46 dX2_readItem_44 rfl rfl rfl ?_
      refine g_cV_I (M := mX2_readItem) (pc := 46) (M' := mX7_isWord) (rest := []) 49 dX2_readItem_46 rfl kX2_51 okX7_isWord (CX7_isWord 13 h L) oO26 rfl rfl rfl rfl (fun r3 => ?_)
      refine g_if_eq (M := mX2_readItem) (pc := 49) 58 52 dX2_readItem_49 (by decide) rfl (fun _ => ?_) (fun _ => ?_)
      · refine g_aload_n (M := mX2_readItem) (pc := 58) 59 dX2_readItem_58 rfl rfl rfl ?_
        refine g_getR (M := mX2_readItem) (pc := 59) 62 dX2_readItem_59 rfl fX2_12 oR25_0 ?_
        refine g_ldcS (M := mX2_readItem) (pc := 62) (i := 14) 64 dX2_readItem_62 rfl rfl rfl ?_
        refine g_cV_I (M := mX2_readItem) (pc := 64) (M' := mX7_isWord) (rest := []) 67 dX2_readItem_64 rfl kX2_51 okX7_isWord (CX7_isWord 14 h L) oO26 rfl rfl rfl rfl (fun r4 => ?_)
        refine g_if_eq (M := mX2_readItem) (pc := 67) 82 70 dX2_readItem_67 (by decide) rfl (fun _ => ?_) (fun _ => ?_)
        · refine g_iconst (M := mX2_readItem) (pc := 82) (v := 0) 83 dX2_readItem_82 rfl ic0 ?_
          exact g_iret (M := mX2_readItem) (pc := 83) dX2_readItem_83 rfl nz0 (fun z => z)
        · refine g_aload_n (M := mX2_readItem) (pc := 70) 71 dX2_readItem_70 rfl rfl rfl ?_
          refine g_aload_n (M := mX2_readItem) (pc := 71) 72 dX2_readItem_71 rfl rfl rfl ?_
          refine g_cV_IH (M := mX2_readItem) (pc := 72) (M' := mX2_readOrder) (rest := []) 75 dX2_readItem_72 rfl kX2_70 okX2_readOrder (CX2_readOrder g1 hg1 h L) oO25 rfl rfl rfl rfl (fun r5 h6 => ?_)
          refine g_if_eq (M := mX2_readItem) (pc := 75) 82 78 dX2_readItem_75 (by decide) rfl (fun _ => ?_) (fun _ => ?_)
          · refine g_iconst (M := mX2_readItem) (pc := 82) (v := 0) 83 dX2_readItem_82 rfl ic0 ?_
            exact g_iret (M := mX2_readItem) (pc := 83) dX2_readItem_83 rfl nz0 (fun z => z)
          · refine g_iconst (M := mX2_readItem) (pc := 78) (v := 1) 79 dX2_readItem_78 rfl ic1 ?_
            refine g_goto (M := mX2_readItem) (pc := 79) 83 dX2_readItem_79 (by decide) ?_
            exact g_iret (M := mX2_readItem) (pc := 83) dX2_readItem_83 rfl nz1 (fun z => z)
      · refine g_aload_n (M := mX2_readItem) (pc := 52) 53 dX2_readItem_52 rfl rfl rfl ?_
        refine g_aload_n (M := mX2_readItem) (pc := 53) 54 dX2_readItem_53 rfl rfl rfl ?_
        refine g_cV_IH (M := mX2_readItem) (pc := 54) (M' := mX2_readLine) (rest := []) 57 dX2_readItem_54 rfl kX2_65 okX2_readLine (CX2_readLine g1 hg1 h L) oO25 rfl rfl rfl rfl (fun r7 h8 => ?_)
        exact g_zret (M := mX2_readItem) (pc := 57) dX2_readItem_57 rfl (fun z => z)
    · refine g_aload_n (M := mX2_readItem) (pc := 31) 32 dX2_readItem_31 rfl rfl rfl ?_
      refine g_aload_n (M := mX2_readItem) (pc := 32) 33 dX2_readItem_32 rfl rfl rfl ?_
      refine g_getR (M := mX2_readItem) (pc := 33) 36 dX2_readItem_33 rfl fX2_55 (oR0_1 hg1) ?_
      refine g_cV_IH (M := mX2_readItem) (pc := 36) (M' := mX2_readWant) (rest := []) 39 dX2_readItem_36 rfl kX2_59 okX2_readWant (CX2_readWant g1 hg1 h L) oO25 rfl rfl rfl rfl (fun r9 h10 => ?_)
      exact g_zret (M := mX2_readItem) (pc := 39) dX2_readItem_39 rfl (fun z => z)
  · refine g_aload_n (M := mX2_readItem) (pc := 9) 10 dX2_readItem_9 rfl rfl rfl ?_
    refine g_aload_n (M := mX2_readItem) (pc := 10) 11 dX2_readItem_10 rfl rfl rfl ?_
    refine g_getR (M := mX2_readItem) (pc := 11) 14 dX2_readItem_11 rfl fX2_39 (oR0_0 hg1) ?_
    refine g_iload_n (M := mX2_readItem) (pc := 14) 15 dX2_readItem_14 rfl rfl rfl ?_
    refine g_cV_IH (M := mX2_readItem) (pc := 15) (M' := mX2_readPhrase) (rest := []) 18 dX2_readItem_15 rfl kX2_45 okX2_readPhrase (CX2_readPhrase g1 hg1 r1 h L) oO25 rfl rfl rfl rfl (fun r11 h12 => ?_)
    exact g_zret (M := mX2_readItem) (pc := 18) dX2_readItem_18 rfl (fun z => z)
def SX2_readBook_9 (g1 : Nat) : (Int32 × HI) → Option ((Int32 × HI) ⊕ (Int32 × HI))
  | (a2, h) =>
    if 120 < a2 then
      some (Sum.inr (((-1) - (h 5 26 3)), h))
    else
      Option.bind (FX2_readItem g1 h) fun (r2, h3) =>
      if r2 = 0 then
        some (Sum.inr (((-1) - (h3 5 26 3)), h3))
      else
        if (h3 5 26 2) = 0 then
          some (Sum.inr (a2, h3))
        else
          if (h3 5 26 2) = 3 then
            Option.bind (FX7_advance h3) fun h4 =>
            some (Sum.inl ((a2 + 1), h4))
          else
            some (Sum.inr (((-1) - (h3 5 26 3)), h3))
def FX2_readBook (g1 : Nat) (h : HI) : Option (Int32 × HI) :=
  Option.bind (FX7_begin h) fun h1 =>
  Option.bind (loopN (SX2_readBook_9 g1) FU (1, h1)) fun r => some r
set_option maxRecDepth 100000 in
set_option maxHeartbeats 4000000 in
theorem SX2_readBook_9_ok (g1 : Nat) (hg1 : g1 < 3) (L : HL) (T : ZT) (a2 : Int32) (h : HI) : VX mX2_readBook 9 T (gS (fun s : Int32 × HI => V mX2_readBook 9 T 9 [some (aR 5 25), some (aR g1 0), some (aI (s.1))] [] (s.2) L) (fun r => Zl (lfIH L) r = T)) 9 [some (aR 5 25), some (aR g1 0), some (aI a2)] [] h L (SX2_readBook_9 g1 (a2, h)) := by
  unfold SX2_readBook_9
  refine g_iload_n (M := mX2_readBook) (pc := 9) 10 dX2_readBook_9 rfl rfl rfl ?_
  refine g_bipush (M := mX2_readBook) (pc := 10) (v := 120) 12 dX2_readBook_10 rfl bp120 ?_
  refine g_icmp_gt (M := mX2_readBook) (pc := 12) 65 15 dX2_readBook_12 (by decide) rfl (fun _ => ?_) (fun _ => ?_)
  · refine g_iconst (M := mX2_readBook) (pc := 65) (v := (-1)) 66 dX2_readBook_65 rfl icm1 ?_
    refine g_aload_n (M := mX2_readBook) (pc := 66) 67 dX2_readBook_66 rfl rfl rfl ?_
    refine g_getR (M := mX2_readBook) (pc := 67) 70 dX2_readBook_67 rfl fX2_12 oR25_0 ?_
    refine g_getI (M := mX2_readBook) (pc := 70) 73 dX2_readBook_70 rfl fX2_32 oF26_3 ?_
    refine g_isub (M := mX2_readBook) (pc := 73) 74 dX2_readBook_73 rfl ?_
    exact g_iret (M := mX2_readBook) (pc := 74) dX2_readBook_74 rfl rfl (fun z => z)
  · refine g_aload_n (M := mX2_readBook) (pc := 15) 16 dX2_readBook_15 rfl rfl rfl ?_
    refine g_aload_n (M := mX2_readBook) (pc := 16) 17 dX2_readBook_16 rfl rfl rfl ?_
    refine g_cV_IH (M := mX2_readBook) (pc := 17) (M' := mX2_readItem) (rest := []) 20 dX2_readBook_17 rfl kX2_21 okX2_readItem (CX2_readItem g1 hg1 h L) oO25 rfl rfl rfl rfl (fun r2 h3 => ?_)
    refine g_if_ne (M := mX2_readBook) (pc := 20) 26 23 dX2_readBook_20 (by decide) rfl (fun _ => ?_) (fun _ => ?_)
    · refine g_aload_n (M := mX2_readBook) (pc := 26) 27 dX2_readBook_26 rfl rfl rfl ?_
      refine g_getR (M := mX2_readBook) (pc := 27) 30 dX2_readBook_27 rfl fX2_12 oR25_0 ?_
      refine g_getI (M := mX2_readBook) (pc := 30) 33 dX2_readBook_30 rfl fX2_25 oF26_2 ?_
      refine g_if_ne (M := mX2_readBook) (pc := 33) 38 36 dX2_readBook_33 (by decide) rfl (fun _ => ?_) (fun _ => ?_)
      · refine g_aload_n (M := mX2_readBook) (pc := 38) 39 dX2_readBook_38 rfl rfl rfl ?_
        refine g_getR (M := mX2_readBook) (pc := 39) 42 dX2_readBook_39 rfl fX2_12 oR25_0 ?_
        refine g_getI (M := mX2_readBook) (pc := 42) 45 dX2_readBook_42 rfl fX2_25 oF26_2 ?_
        refine g_iconst (M := mX2_readBook) (pc := 45) (v := 3) 46 dX2_readBook_45 rfl ic3 ?_
        refine g_icmp_eq (M := mX2_readBook) (pc := 46) 52 49 dX2_readBook_46 (by decide) rfl (fun _ => ?_) (fun _ => ?_)
        · refine g_aload_n (M := mX2_readBook) (pc := 52) 53 dX2_readBook_52 rfl rfl rfl ?_
          refine g_getR (M := mX2_readBook) (pc := 53) 56 dX2_readBook_53 rfl fX2_12 oR25_0 ?_
          refine g_cV_VH (M := mX2_readBook) (pc := 56) (M' := mX7_advance) (rest := []) 59 dX2_readBook_56 rfl kX2_29 okX7_advance (CX7_advance h3 L) oO26 rfl rfl rfl rfl (fun h4 => ?_)
          refine g_iinc (M := mX2_readBook) (pc := 59) (c := 1) (ls' := [some (aR 5 25), some (aR g1 0), some (aI (a2 + 1))]) 62 dX2_readBook_59 rfl ic1 rfl rfl rfl ?_
          refine g_goto (M := mX2_readBook) (pc := 62) 9 dX2_readBook_62 (by decide) ?_
          exact g_jmp (fun z => v_fgt [true, true, true] z)
        · refine g_goto (M := mX2_readBook) (pc := 49) 65 dX2_readBook_49 (by decide) ?_
          refine g_iconst (M := mX2_readBook) (pc := 65) (v := (-1)) 66 dX2_readBook_65 rfl icm1 ?_
          refine g_aload_n (M := mX2_readBook) (pc := 66) 67 dX2_readBook_66 rfl rfl rfl ?_
          refine g_getR (M := mX2_readBook) (pc := 67) 70 dX2_readBook_67 rfl fX2_12 oR25_0 ?_
          refine g_getI (M := mX2_readBook) (pc := 70) 73 dX2_readBook_70 rfl fX2_32 oF26_3 ?_
          refine g_isub (M := mX2_readBook) (pc := 73) 74 dX2_readBook_73 rfl ?_
          exact g_iret (M := mX2_readBook) (pc := 74) dX2_readBook_74 rfl rfl (fun z => z)
      · refine g_iload_n (M := mX2_readBook) (pc := 36) 37 dX2_readBook_36 rfl rfl rfl ?_
        exact g_iret (M := mX2_readBook) (pc := 37) dX2_readBook_37 rfl rfl (fun z => z)
    · refine g_goto (M := mX2_readBook) (pc := 23) 65 dX2_readBook_23 (by decide) ?_
      refine g_iconst (M := mX2_readBook) (pc := 65) (v := (-1)) 66 dX2_readBook_65 rfl icm1 ?_
      refine g_aload_n (M := mX2_readBook) (pc := 66) 67 dX2_readBook_66 rfl rfl rfl ?_
      refine g_getR (M := mX2_readBook) (pc := 67) 70 dX2_readBook_67 rfl fX2_12 oR25_0 ?_
      refine g_getI (M := mX2_readBook) (pc := 70) 73 dX2_readBook_70 rfl fX2_32 oF26_3 ?_
      refine g_isub (M := mX2_readBook) (pc := 73) 74 dX2_readBook_73 rfl ?_
      exact g_iret (M := mX2_readBook) (pc := 74) dX2_readBook_74 rfl rfl (fun z => z)
set_option maxRecDepth 100000 in
set_option maxHeartbeats 4000000 in
theorem CX2_readBook (g1 : Nat) (hg1 : g1 < 3) (h : HI) (L : HL) : CG mX2_readBook 9 [aR 5 25, aR g1 0] h L (lfIH L) (FX2_readBook g1 h) := by
  unfold FX2_readBook
  refine cg_of [some (aR 5 25), some (aR g1 0), none] rfl (by decide) rfl rfl (fun T => ?_)
  refine g_aload_n (M := mX2_readBook) (pc := 0) 1 dX2_readBook_0 rfl rfl rfl ?_
  refine g_getR (M := mX2_readBook) (pc := 1) 4 dX2_readBook_1 rfl fX2_12 oR25_0 ?_
  refine g_cV_VH (M := mX2_readBook) (pc := 4) (M' := mX7_begin) (rest := []) 7 dX2_readBook_4 rfl kX2_18 okX7_begin (CX7_begin h L) oO26 rfl rfl rfl rfl (fun h1 => ?_)
  refine g_iconst (M := mX2_readBook) (pc := 7) (v := 1) 8 dX2_readBook_7 rfl ic1 ?_
  refine g_istore_n (M := mX2_readBook) (pc := 8) (ls' := [some (aR 5 25), some (aR g1 0), some (aI 1)]) 9 dX2_readBook_8 rfl rfl rfl rfl ?_
  exact g_loop (fun s => SX2_readBook_9_ok g1 hg1 L T s.1 s.2) (fun e b z1 z2 => by cases z1; exact z2) (fun z => v_fgt [true, true, true] z)
def SX3_drop_22 (g : Nat) (a2 : Int32) : (Int32 × HI) → Option ((Int32 × HI) ⊕ (HI))
  | (a3, h) =>
    if (h g 14 1) ≤ a3 then
      some (Sum.inr h)
    else
      gd (ixb (a3 + 1) 12) <|
      gd (ixb a3 12) <|
      nm (hP1 h g 15 (nC a3) (h g 15 (nC (a3 + 1)))) fun h3 =>
      some (Sum.inl ((a3 + 1), h3))
def FX3_drop (g : Nat) (a1 : Int32) (h : HI) : Option (Int32 × HI) :=
  Option.bind (FX3_placeOf g a1 h) fun r1 =>
  if r1 < 0 then
    some (r1, h)
  else
    nm (hP1 h g 14 1 ((h g 14 1) - 1)) fun h2 =>
    Option.bind (loopN (SX3_drop_22 g r1) FU (r1, h2)) fun h4 =>
      some (r1, h4)
set_option maxRecDepth 100000 in
set_option maxHeartbeats 4000000 in
theorem SX3_drop_22_ok (g : Nat) (hg : g < 3) (a2 : Int32) (L : HL) (T : ZT) (a3 : Int32) (h : HI) : VX mX3_drop 1 T (gS (fun s : Int32 × HI => V mX3_drop 1 T 22 [some (aR g 14), none, some (aI a2), some (aI (s.1))] [] (s.2) L) (fun s : HI => V mX3_drop 1 T 50 [none, none, some (aI a2), none] [] s L)) 22 [some (aR g 14), none, some (aI a2), some (aI a3)] [] h L (SX3_drop_22 g a2 (a3, h)) := by
  unfold SX3_drop_22
  refine g_iload_n (M := mX3_drop) (pc := 22) 23 dX3_drop_22 rfl rfl rfl ?_
  refine g_aload_n (M := mX3_drop) (pc := 23) 24 dX3_drop_23 rfl rfl rfl ?_
  refine g_getI (M := mX3_drop) (pc := 24) 27 dX3_drop_24 rfl fX3_15 (oF14_1 hg) ?_
  refine g_icmp_ge (M := mX3_drop) (pc := 27) 50 30 dX3_drop_27 (by decide) rfl (fun _ => ?_) (fun _ => ?_)
  · exact g_jmp (fun z => v_fgt [false, false, true, false] z)
  · refine g_aload_n (M := mX3_drop) (pc := 30) 31 dX3_drop_30 rfl rfl rfl ?_
    refine g_getR (M := mX3_drop) (pc := 31) 34 dX3_drop_31 rfl fX3_9 (oR14_0 hg) ?_
    refine g_iload_n (M := mX3_drop) (pc := 34) 35 dX3_drop_34 rfl rfl rfl ?_
    refine g_aload_n (M := mX3_drop) (pc := 35) 36 dX3_drop_35 rfl rfl rfl ?_
    refine g_getR (M := mX3_drop) (pc := 36) 39 dX3_drop_36 rfl fX3_9 (oR14_0 hg) ?_
    refine g_iload_n (M := mX3_drop) (pc := 39) 40 dX3_drop_39 rfl rfl rfl ?_
    refine g_iconst (M := mX3_drop) (pc := 40) (v := 1) 41 dX3_drop_40 rfl ic1 ?_
    refine g_iadd (M := mX3_drop) (pc := 41) 42 dX3_drop_41 rfl ?_
    refine g_iald (M := mX3_drop) (pc := 42) 43 dX3_drop_42 rfl (oA15 hg) ?_
    refine g_iast (M := mX3_drop) (pc := 43) 44 dX3_drop_43 rfl (oA15 hg) (fun h3 => ?_)
    refine g_iinc (M := mX3_drop) (pc := 44) (c := 1) (ls' := [some (aR g 14), none, some (aI a2), some (aI (a3 + 1))]) 47 dX3_drop_44 rfl ic1 rfl rfl rfl ?_
    refine g_goto (M := mX3_drop) (pc := 47) 22 dX3_drop_47 (by decide) ?_
    exact g_jmp (fun z => v_fgt [true, false, true, true] z)
set_option maxRecDepth 100000 in
set_option maxHeartbeats 4000000 in
theorem CX3_drop (g : Nat) (hg : g < 3) (a1 : Int32) (h : HI) (L : HL) : CG mX3_drop 1 [aR g 14, aI a1] h L (lfIH L) (FX3_drop g a1 h) := by
  unfold FX3_drop
  refine cg_of [some (aR g 14), some (aI a1), none, none] rfl (by decide) rfl rfl (fun T => ?_)
  refine g_aload_n (M := mX3_drop) (pc := 0) 1 dX3_drop_0 rfl rfl rfl ?_
  refine g_iload_n (M := mX3_drop) (pc := 1) 2 dX3_drop_1 rfl rfl rfl ?_
  refine g_cV_I (M := mX3_drop) (pc := 2) (M' := mX3_placeOf) (rest := []) 5 dX3_drop_2 rfl kX3_19 okX3_placeOf (CX3_placeOf g hg a1 h L) (oO14 hg) rfl rfl rfl rfl (fun r1 => ?_)
  refine g_istore_n (M := mX3_drop) (pc := 5) (ls' := [some (aR g 14), some (aI a1), some (aI r1), none]) 6 dX3_drop_5 rfl rfl rfl rfl ?_
  refine g_iload_n (M := mX3_drop) (pc := 6) 7 dX3_drop_6 rfl rfl rfl ?_
  refine g_if_lt (M := mX3_drop) (pc := 7) 50 10 dX3_drop_7 (by decide) rfl (fun _ => ?_) (fun _ => ?_)
  · refine g_iload_n (M := mX3_drop) (pc := 50) 51 dX3_drop_50 rfl rfl rfl ?_
    exact g_iret (M := mX3_drop) (pc := 51) dX3_drop_51 rfl rfl (fun z => z)
  · refine g_aload_n (M := mX3_drop) (pc := 10) 11 dX3_drop_10 rfl rfl rfl ?_
    refine g_dup (M := mX3_drop) (pc := 11) 12 dX3_drop_11 rfl rfl ?_
    refine g_getI (M := mX3_drop) (pc := 12) 15 dX3_drop_12 rfl fX3_15 (oF14_1 hg) ?_
    refine g_iconst (M := mX3_drop) (pc := 15) (v := 1) 16 dX3_drop_15 rfl ic1 ?_
    refine g_isub (M := mX3_drop) (pc := 16) 17 dX3_drop_16 rfl ?_
    refine g_put (M := mX3_drop) (pc := 17) 20 dX3_drop_17 rfl pX3_15 (oF14_1 hg) rfl rfl (fun h2 => ?_)
    refine g_iload_n (M := mX3_drop) (pc := 20) 21 dX3_drop_20 rfl rfl rfl ?_
    refine g_istore_n (M := mX3_drop) (pc := 21) (ls' := [some (aR g 14), some (aI a1), some (aI r1), some (aI r1)]) 22 dX3_drop_21 rfl rfl rfl rfl ?_
    refine g_loop (fun s => SX3_drop_22_ok g hg r1 L T s.1 s.2) ?_ (fun z => v_fgt [true, false, true, true] z)
    intro h4
    show VX mX3_drop 1 T _ 50 [none, none, some (aI r1), none] [] h4 L _
    refine g_iload_n (M := mX3_drop) (pc := 50) 51 dX3_drop_50 rfl rfl rfl ?_
    exact g_iret (M := mX3_drop) (pc := 51) dX3_drop_51 rfl rfl (fun z => z)
def FJ6_bitCount_0f7a4 (a0 : Int32) : Option (Int32) :=
  nm (a0 - (((Int32.toUInt32 a0 >>> (Int32.toUInt32 1 &&& Int32.toUInt32 31)).toInt32) &&& 1431655765)) fun t1 =>
  nm ((t1 &&& 858993459) + (((Int32.toUInt32 t1 >>> (Int32.toUInt32 2 &&& Int32.toUInt32 31)).toInt32) &&& 858993459)) fun t2 =>
  nm ((t2 + ((Int32.toUInt32 t2 >>> (Int32.toUInt32 4 &&& Int32.toUInt32 31)).toInt32)) &&& 252645135) fun t3 =>
  nm (t3 + ((Int32.toUInt32 t3 >>> (Int32.toUInt32 8 &&& Int32.toUInt32 31)).toInt32)) fun t4 =>
  nm (t4 + ((Int32.toUInt32 t4 >>> (Int32.toUInt32 16 &&& Int32.toUInt32 31)).toInt32)) fun t5 =>
  some (t5 &&& 63)
set_option maxRecDepth 100000 in
set_option maxHeartbeats 4000000 in
theorem CJ6_bitCount_0f7a4 (a0 : Int32) (h : HI) (L : HL) : CG mJ6_bitCount_0f7a4 0 [aI a0] h L (lfI h L) (FJ6_bitCount_0f7a4 a0) := by
  unfold FJ6_bitCount_0f7a4
  refine cg_of [some (aI a0)] rfl (by decide) rfl rfl (fun T => ?_)
  refine g_iload_n (M := mJ6_bitCount_0f7a4) (pc := 0) 1 dJ6_bitCount_0f7a4_0 rfl rfl rfl ?_
  refine g_iload_n (M := mJ6_bitCount_0f7a4) (pc := 1) 2 dJ6_bitCount_0f7a4_1 rfl rfl rfl ?_
  refine g_iconst (M := mJ6_bitCount_0f7a4) (pc := 2) (v := 1) 3 dJ6_bitCount_0f7a4_2 rfl ic1 ?_
  refine g_iushr (M := mJ6_bitCount_0f7a4) (pc := 3) 4 dJ6_bitCount_0f7a4_3 rfl ?_
  refine g_ldcw (M := mJ6_bitCount_0f7a4) (pc := 4) 7 dJ6_bitCount_0f7a4_4 rfl cJ6_265 ?_
  refine g_iand (M := mJ6_bitCount_0f7a4) (pc := 7) 8 dJ6_bitCount_0f7a4_7 rfl ?_
  refine g_isub (M := mJ6_bitCount_0f7a4) (pc := 8) 9 dJ6_bitCount_0f7a4_8 rfl ?_
  refine g_nmI (fun t1 => ?_)
  refine g_istore_n (M := mJ6_bitCount_0f7a4) (pc := 9) (ls' := [some (aI t1)]) 10 dJ6_bitCount_0f7a4_9 rfl rfl rfl rfl ?_
  refine g_iload_n (M := mJ6_bitCount_0f7a4) (pc := 10) 11 dJ6_bitCount_0f7a4_10 rfl rfl rfl ?_
  refine g_ldcw (M := mJ6_bitCount_0f7a4) (pc := 11) 14 dJ6_bitCount_0f7a4_11 rfl cJ6_266 ?_
  refine g_iand (M := mJ6_bitCount_0f7a4) (pc := 14) 15 dJ6_bitCount_0f7a4_14 rfl ?_
  refine g_iload_n (M := mJ6_bitCount_0f7a4) (pc := 15) 16 dJ6_bitCount_0f7a4_15 rfl rfl rfl ?_
  refine g_iconst (M := mJ6_bitCount_0f7a4) (pc := 16) (v := 2) 17 dJ6_bitCount_0f7a4_16 rfl ic2 ?_
  refine g_iushr (M := mJ6_bitCount_0f7a4) (pc := 17) 18 dJ6_bitCount_0f7a4_17 rfl ?_
  refine g_ldcw (M := mJ6_bitCount_0f7a4) (pc := 18) 21 dJ6_bitCount_0f7a4_18 rfl cJ6_266 ?_
  refine g_iand (M := mJ6_bitCount_0f7a4) (pc := 21) 22 dJ6_bitCount_0f7a4_21 rfl ?_
  refine g_iadd (M := mJ6_bitCount_0f7a4) (pc := 22) 23 dJ6_bitCount_0f7a4_22 rfl ?_
  refine g_nmI (fun t2 => ?_)
  refine g_istore_n (M := mJ6_bitCount_0f7a4) (pc := 23) (ls' := [some (aI t2)]) 24 dJ6_bitCount_0f7a4_23 rfl rfl rfl rfl ?_
  refine g_iload_n (M := mJ6_bitCount_0f7a4) (pc := 24) 25 dJ6_bitCount_0f7a4_24 rfl rfl rfl ?_
  refine g_iload_n (M := mJ6_bitCount_0f7a4) (pc := 25) 26 dJ6_bitCount_0f7a4_25 rfl rfl rfl ?_
  refine g_iconst (M := mJ6_bitCount_0f7a4) (pc := 26) (v := 4) 27 dJ6_bitCount_0f7a4_26 rfl ic4 ?_
  refine g_iushr (M := mJ6_bitCount_0f7a4) (pc := 27) 28 dJ6_bitCount_0f7a4_27 rfl ?_
  refine g_iadd (M := mJ6_bitCount_0f7a4) (pc := 28) 29 dJ6_bitCount_0f7a4_28 rfl ?_
  refine g_ldcw (M := mJ6_bitCount_0f7a4) (pc := 29) 32 dJ6_bitCount_0f7a4_29 rfl cJ6_267 ?_
  refine g_iand (M := mJ6_bitCount_0f7a4) (pc := 32) 33 dJ6_bitCount_0f7a4_32 rfl ?_
  refine g_nmI (fun t3 => ?_)
  refine g_istore_n (M := mJ6_bitCount_0f7a4) (pc := 33) (ls' := [some (aI t3)]) 34 dJ6_bitCount_0f7a4_33 rfl rfl rfl rfl ?_
  refine g_iload_n (M := mJ6_bitCount_0f7a4) (pc := 34) 35 dJ6_bitCount_0f7a4_34 rfl rfl rfl ?_
  refine g_iload_n (M := mJ6_bitCount_0f7a4) (pc := 35) 36 dJ6_bitCount_0f7a4_35 rfl rfl rfl ?_
  refine g_bipush (M := mJ6_bitCount_0f7a4) (pc := 36) (v := 8) 38 dJ6_bitCount_0f7a4_36 rfl bp8 ?_
  refine g_iushr (M := mJ6_bitCount_0f7a4) (pc := 38) 39 dJ6_bitCount_0f7a4_38 rfl ?_
  refine g_iadd (M := mJ6_bitCount_0f7a4) (pc := 39) 40 dJ6_bitCount_0f7a4_39 rfl ?_
  refine g_nmI (fun t4 => ?_)
  refine g_istore_n (M := mJ6_bitCount_0f7a4) (pc := 40) (ls' := [some (aI t4)]) 41 dJ6_bitCount_0f7a4_40 rfl rfl rfl rfl ?_
  refine g_iload_n (M := mJ6_bitCount_0f7a4) (pc := 41) 42 dJ6_bitCount_0f7a4_41 rfl rfl rfl ?_
  refine g_iload_n (M := mJ6_bitCount_0f7a4) (pc := 42) 43 dJ6_bitCount_0f7a4_42 rfl rfl rfl ?_
  refine g_bipush (M := mJ6_bitCount_0f7a4) (pc := 43) (v := 16) 45 dJ6_bitCount_0f7a4_43 rfl bp16 ?_
  refine g_iushr (M := mJ6_bitCount_0f7a4) (pc := 45) 46 dJ6_bitCount_0f7a4_45 rfl ?_
  refine g_iadd (M := mJ6_bitCount_0f7a4) (pc := 46) 47 dJ6_bitCount_0f7a4_46 rfl ?_
  refine g_nmI (fun t5 => ?_)
  refine g_istore_n (M := mJ6_bitCount_0f7a4) (pc := 47) (ls' := [some (aI t5)]) 48 dJ6_bitCount_0f7a4_47 rfl rfl rfl rfl ?_
  refine g_iload_n (M := mJ6_bitCount_0f7a4) (pc := 48) 49 dJ6_bitCount_0f7a4_48 rfl rfl rfl ?_
  refine g_bipush (M := mJ6_bitCount_0f7a4) (pc := 49) (v := 63) 51 dJ6_bitCount_0f7a4_49 rfl bp63 ?_
  refine g_iand (M := mJ6_bitCount_0f7a4) (pc := 51) 52 dJ6_bitCount_0f7a4_51 rfl ?_
  exact g_iret (M := mJ6_bitCount_0f7a4) (pc := 52) dJ6_bitCount_0f7a4_52 rfl rfl (fun z => z)
def FX3_arrangements (a0 : Int32) (h : HI) : Option (Int32) :=
  Option.bind (FJ6_bitCount_0f7a4 a0) fun r1 =>
  gd (ixb (if 5 < r1 then 5 else r1) 6) <|
  some (([1, 1, 2, 6, 24, 120] : List Int32).getD (nC (if 5 < r1 then 5 else r1)) 0)
set_option maxRecDepth 100000 in
set_option maxHeartbeats 4000000 in
theorem CX3_arrangements (a0 : Int32) (h : HI) (L : HL) : CG mX3_arrangements 1 [aI a0] h L (lfI h L) (FX3_arrangements a0 h) := by
  unfold FX3_arrangements
  refine cg_of [some (aI a0)] rfl (by decide) rfl rfl (fun T => ?_)
  refine g_gets (M := mX3_arrangements) (pc := 0) (j := 4) 3 dX3_arrangements_0 rfl sX3_23 rfl ?_
  refine g_iload_n (M := mX3_arrangements) (pc := 3) 4 dX3_arrangements_3 rfl rfl rfl ?_
  refine g_cS_I (M := mX3_arrangements) (pc := 4) (M' := mJ6_bitCount_0f7a4) (rest := [aR 9 4]) 7 dX3_arrangements_4 rfl kX3_26 okJ6_bitCount_0f7a4 (CJ6_bitCount_0f7a4 a0 h L) rfl rfl rfl rfl (fun r1 => ?_)
  refine g_iconst (M := mX3_arrangements) (pc := 7) (v := 5) 8 dX3_arrangements_7 rfl ic5 ?_
  refine g_min (M := mX3_arrangements) (pc := 8) 11 dX3_arrangements_8 rfl kX3_31 rfl rfl ?_
  refine g_sald (M := mX3_arrangements) (pc := 11) (n := 6) 12 dX3_arrangements_11 rfl rfl rfl ?_
  exact g_iret (M := mX3_arrangements) (pc := 12) dX3_arrangements_12 rfl rfl (fun z => z)
def JJ6_numberOfTrailingZeros_0f7a4_62 (a0 : Int32) (a1 : Int32) : Option (Int32) :=
  if a0 ≤ 4 then
    some (a1 + ((Int32.toUInt32 a0 >>> (Int32.toUInt32 1 &&& Int32.toUInt32 31)).toInt32))
  else
    nm ((Int32.toUInt32 a0 >>> (Int32.toUInt32 2 &&& Int32.toUInt32 31)).toInt32) fun t2 =>
    some ((a1 + 2) + ((Int32.toUInt32 t2 >>> (Int32.toUInt32 1 &&& Int32.toUInt32 31)).toInt32))
def JJ6_numberOfTrailingZeros_0f7a4_49 (a0 : Int32) (a1 : Int32) : Option (Int32) :=
  if a0 ≤ 16 then
    JJ6_numberOfTrailingZeros_0f7a4_62 a0 a1
  else
    nm ((Int32.toUInt32 a0 >>> (Int32.toUInt32 4 &&& Int32.toUInt32 31)).toInt32) fun t3 =>
    JJ6_numberOfTrailingZeros_0f7a4_62 t3 (a1 + 4)
def JJ6_numberOfTrailingZeros_0f7a4_34 (a0 : Int32) (a1 : Int32) : Option (Int32) :=
  if a0 ≤ 256 then
    JJ6_numberOfTrailingZeros_0f7a4_49 a0 a1
  else
    nm ((Int32.toUInt32 a0 >>> (Int32.toUInt32 8 &&& Int32.toUInt32 31)).toInt32) fun t4 =>
    JJ6_numberOfTrailingZeros_0f7a4_49 t4 (a1 + 8)
def FJ6_numberOfTrailingZeros_0f7a4 (a0 : Int32) : Option (Int32) :=
  nm ((a0 ^^^ (-1)) &&& (a0 - 1)) fun t1 =>
  if 0 < t1 then
    if t1 ≤ 65536 then
      JJ6_numberOfTrailingZeros_0f7a4_34 t1 1
    else
      nm ((Int32.toUInt32 t1 >>> (Int32.toUInt32 16 &&& Int32.toUInt32 31)).toInt32) fun t5 =>
      JJ6_numberOfTrailingZeros_0f7a4_34 t5 (1 + 16)
  else
    some (t1 &&& 32)
set_option maxRecDepth 100000 in
set_option maxHeartbeats 4000000 in
theorem JJ6_numberOfTrailingZeros_0f7a4_62_ok (a0 : Int32) (a1 : Int32) (T : ZT) (h : HI) (L : HL) : VX mJ6_numberOfTrailingZeros_0f7a4 0 T (fun r => Zl (lfI h L) r = T) 62 [some (aI a0), some (aI a1)] [] h L (JJ6_numberOfTrailingZeros_0f7a4_62 a0 a1) := by
  unfold JJ6_numberOfTrailingZeros_0f7a4_62
  refine g_iload_n (M := mJ6_numberOfTrailingZeros_0f7a4) (pc := 62) 63 dJ6_numberOfTrailingZeros_0f7a4_62 rfl rfl rfl ?_
  refine g_iconst (M := mJ6_numberOfTrailingZeros_0f7a4) (pc := 63) (v := 4) 64 dJ6_numberOfTrailingZeros_0f7a4_63 rfl ic4 ?_
  refine g_icmp_le (M := mJ6_numberOfTrailingZeros_0f7a4) (pc := 64) 74 67 dJ6_numberOfTrailingZeros_0f7a4_64 (by decide) rfl (fun _ => ?_) (fun _ => ?_)
  · refine g_iload_n (M := mJ6_numberOfTrailingZeros_0f7a4) (pc := 74) 75 dJ6_numberOfTrailingZeros_0f7a4_74 rfl rfl rfl ?_
    refine g_iload_n (M := mJ6_numberOfTrailingZeros_0f7a4) (pc := 75) 76 dJ6_numberOfTrailingZeros_0f7a4_75 rfl rfl rfl ?_
    refine g_iconst (M := mJ6_numberOfTrailingZeros_0f7a4) (pc := 76) (v := 1) 77 dJ6_numberOfTrailingZeros_0f7a4_76 rfl ic1 ?_
    refine g_iushr (M := mJ6_numberOfTrailingZeros_0f7a4) (pc := 77) 78 dJ6_numberOfTrailingZeros_0f7a4_77 rfl ?_
    refine g_iadd (M := mJ6_numberOfTrailingZeros_0f7a4) (pc := 78) 79 dJ6_numberOfTrailingZeros_0f7a4_78 rfl ?_
    exact g_iret (M := mJ6_numberOfTrailingZeros_0f7a4) (pc := 79) dJ6_numberOfTrailingZeros_0f7a4_79 rfl rfl (fun z => z)
  · refine g_iinc (M := mJ6_numberOfTrailingZeros_0f7a4) (pc := 67) (c := 2) (ls' := [some (aI a0), some (aI (a1 + 2))]) 70 dJ6_numberOfTrailingZeros_0f7a4_67 rfl ic2 rfl rfl rfl ?_
    refine g_iload_n (M := mJ6_numberOfTrailingZeros_0f7a4) (pc := 70) 71 dJ6_numberOfTrailingZeros_0f7a4_70 rfl rfl rfl ?_
    refine g_iconst (M := mJ6_numberOfTrailingZeros_0f7a4) (pc := 71) (v := 2) 72 dJ6_numberOfTrailingZeros_0f7a4_71 rfl ic2 ?_
    refine g_iushr (M := mJ6_numberOfTrailingZeros_0f7a4) (pc := 72) 73 dJ6_numberOfTrailingZeros_0f7a4_72 rfl ?_
    refine g_nmI (fun t2 => ?_)
    refine g_istore_n (M := mJ6_numberOfTrailingZeros_0f7a4) (pc := 73) (ls' := [some (aI t2), some (aI (a1 + 2))]) 74 dJ6_numberOfTrailingZeros_0f7a4_73 rfl rfl rfl rfl ?_
    refine g_iload_n (M := mJ6_numberOfTrailingZeros_0f7a4) (pc := 74) 75 dJ6_numberOfTrailingZeros_0f7a4_74 rfl rfl rfl ?_
    refine g_iload_n (M := mJ6_numberOfTrailingZeros_0f7a4) (pc := 75) 76 dJ6_numberOfTrailingZeros_0f7a4_75 rfl rfl rfl ?_
    refine g_iconst (M := mJ6_numberOfTrailingZeros_0f7a4) (pc := 76) (v := 1) 77 dJ6_numberOfTrailingZeros_0f7a4_76 rfl ic1 ?_
    refine g_iushr (M := mJ6_numberOfTrailingZeros_0f7a4) (pc := 77) 78 dJ6_numberOfTrailingZeros_0f7a4_77 rfl ?_
    refine g_iadd (M := mJ6_numberOfTrailingZeros_0f7a4) (pc := 78) 79 dJ6_numberOfTrailingZeros_0f7a4_78 rfl ?_
    exact g_iret (M := mJ6_numberOfTrailingZeros_0f7a4) (pc := 79) dJ6_numberOfTrailingZeros_0f7a4_79 rfl rfl (fun z => z)
set_option maxRecDepth 100000 in
set_option maxHeartbeats 4000000 in
theorem JJ6_numberOfTrailingZeros_0f7a4_49_ok (a0 : Int32) (a1 : Int32) (T : ZT) (h : HI) (L : HL) : VX mJ6_numberOfTrailingZeros_0f7a4 0 T (fun r => Zl (lfI h L) r = T) 49 [some (aI a0), some (aI a1)] [] h L (JJ6_numberOfTrailingZeros_0f7a4_49 a0 a1) := by
  unfold JJ6_numberOfTrailingZeros_0f7a4_49
  refine g_iload_n (M := mJ6_numberOfTrailingZeros_0f7a4) (pc := 49) 50 dJ6_numberOfTrailingZeros_0f7a4_49 rfl rfl rfl ?_
  refine g_bipush (M := mJ6_numberOfTrailingZeros_0f7a4) (pc := 50) (v := 16) 52 dJ6_numberOfTrailingZeros_0f7a4_50 rfl bp16 ?_
  refine g_icmp_le (M := mJ6_numberOfTrailingZeros_0f7a4) (pc := 52) 62 55 dJ6_numberOfTrailingZeros_0f7a4_52 (by decide) rfl (fun _ => ?_) (fun _ => ?_)
  · exact g_fgt [true, true] (JJ6_numberOfTrailingZeros_0f7a4_62_ok a0 a1 T h L)
  · refine g_iinc (M := mJ6_numberOfTrailingZeros_0f7a4) (pc := 55) (c := 4) (ls' := [some (aI a0), some (aI (a1 + 4))]) 58 dJ6_numberOfTrailingZeros_0f7a4_55 rfl ic4 rfl rfl rfl ?_
    refine g_iload_n (M := mJ6_numberOfTrailingZeros_0f7a4) (pc := 58) 59 dJ6_numberOfTrailingZeros_0f7a4_58 rfl rfl rfl ?_
    refine g_iconst (M := mJ6_numberOfTrailingZeros_0f7a4) (pc := 59) (v := 4) 60 dJ6_numberOfTrailingZeros_0f7a4_59 rfl ic4 ?_
    refine g_iushr (M := mJ6_numberOfTrailingZeros_0f7a4) (pc := 60) 61 dJ6_numberOfTrailingZeros_0f7a4_60 rfl ?_
    refine g_nmI (fun t3 => ?_)
    refine g_istore_n (M := mJ6_numberOfTrailingZeros_0f7a4) (pc := 61) (ls' := [some (aI t3), some (aI (a1 + 4))]) 62 dJ6_numberOfTrailingZeros_0f7a4_61 rfl rfl rfl rfl ?_
    exact g_fgt [true, true] (JJ6_numberOfTrailingZeros_0f7a4_62_ok t3 (a1 + 4) T h L)
set_option maxRecDepth 100000 in
set_option maxHeartbeats 4000000 in
theorem JJ6_numberOfTrailingZeros_0f7a4_34_ok (a0 : Int32) (a1 : Int32) (T : ZT) (h : HI) (L : HL) : VX mJ6_numberOfTrailingZeros_0f7a4 0 T (fun r => Zl (lfI h L) r = T) 34 [some (aI a0), some (aI a1)] [] h L (JJ6_numberOfTrailingZeros_0f7a4_34 a0 a1) := by
  unfold JJ6_numberOfTrailingZeros_0f7a4_34
  refine g_iload_n (M := mJ6_numberOfTrailingZeros_0f7a4) (pc := 34) 35 dJ6_numberOfTrailingZeros_0f7a4_34 rfl rfl rfl ?_
  refine g_sipush (M := mJ6_numberOfTrailingZeros_0f7a4) (pc := 35) (v := 256) 38 dJ6_numberOfTrailingZeros_0f7a4_35 rfl sp256 ?_
  refine g_icmp_le (M := mJ6_numberOfTrailingZeros_0f7a4) (pc := 38) 49 41 dJ6_numberOfTrailingZeros_0f7a4_38 (by decide) rfl (fun _ => ?_) (fun _ => ?_)
  · exact g_fgt [true, true] (JJ6_numberOfTrailingZeros_0f7a4_49_ok a0 a1 T h L)
  · refine g_iinc (M := mJ6_numberOfTrailingZeros_0f7a4) (pc := 41) (c := 8) (ls' := [some (aI a0), some (aI (a1 + 8))]) 44 dJ6_numberOfTrailingZeros_0f7a4_41 rfl ic8 rfl rfl rfl ?_
    refine g_iload_n (M := mJ6_numberOfTrailingZeros_0f7a4) (pc := 44) 45 dJ6_numberOfTrailingZeros_0f7a4_44 rfl rfl rfl ?_
    refine g_bipush (M := mJ6_numberOfTrailingZeros_0f7a4) (pc := 45) (v := 8) 47 dJ6_numberOfTrailingZeros_0f7a4_45 rfl bp8 ?_
    refine g_iushr (M := mJ6_numberOfTrailingZeros_0f7a4) (pc := 47) 48 dJ6_numberOfTrailingZeros_0f7a4_47 rfl ?_
    refine g_nmI (fun t4 => ?_)
    refine g_istore_n (M := mJ6_numberOfTrailingZeros_0f7a4) (pc := 48) (ls' := [some (aI t4), some (aI (a1 + 8))]) 49 dJ6_numberOfTrailingZeros_0f7a4_48 rfl rfl rfl rfl ?_
    exact g_fgt [true, true] (JJ6_numberOfTrailingZeros_0f7a4_49_ok t4 (a1 + 8) T h L)
set_option maxRecDepth 100000 in
set_option maxHeartbeats 4000000 in
theorem CJ6_numberOfTrailingZeros_0f7a4 (a0 : Int32) (h : HI) (L : HL) : CG mJ6_numberOfTrailingZeros_0f7a4 0 [aI a0] h L (lfI h L) (FJ6_numberOfTrailingZeros_0f7a4 a0) := by
  unfold FJ6_numberOfTrailingZeros_0f7a4
  refine cg_of [some (aI a0), none] rfl (by decide) rfl rfl (fun T => ?_)
  refine g_iload_n (M := mJ6_numberOfTrailingZeros_0f7a4) (pc := 0) 1 dJ6_numberOfTrailingZeros_0f7a4_0 rfl rfl rfl ?_
  refine g_iconst (M := mJ6_numberOfTrailingZeros_0f7a4) (pc := 1) (v := (-1)) 2 dJ6_numberOfTrailingZeros_0f7a4_1 rfl icm1 ?_
  refine g_ixor (M := mJ6_numberOfTrailingZeros_0f7a4) (pc := 2) 3 dJ6_numberOfTrailingZeros_0f7a4_2 rfl ?_
  refine g_iload_n (M := mJ6_numberOfTrailingZeros_0f7a4) (pc := 3) 4 dJ6_numberOfTrailingZeros_0f7a4_3 rfl rfl rfl ?_
  refine g_iconst (M := mJ6_numberOfTrailingZeros_0f7a4) (pc := 4) (v := 1) 5 dJ6_numberOfTrailingZeros_0f7a4_4 rfl ic1 ?_
  refine g_isub (M := mJ6_numberOfTrailingZeros_0f7a4) (pc := 5) 6 dJ6_numberOfTrailingZeros_0f7a4_5 rfl ?_
  refine g_iand (M := mJ6_numberOfTrailingZeros_0f7a4) (pc := 6) 7 dJ6_numberOfTrailingZeros_0f7a4_6 rfl ?_
  refine g_nmI (fun t1 => ?_)
  refine g_istore_n (M := mJ6_numberOfTrailingZeros_0f7a4) (pc := 7) (ls' := [some (aI t1), none]) 8 dJ6_numberOfTrailingZeros_0f7a4_7 rfl rfl rfl rfl ?_
  refine g_iload_n (M := mJ6_numberOfTrailingZeros_0f7a4) (pc := 8) 9 dJ6_numberOfTrailingZeros_0f7a4_8 rfl rfl rfl ?_
  refine g_if_gt (M := mJ6_numberOfTrailingZeros_0f7a4) (pc := 9) 17 12 dJ6_numberOfTrailingZeros_0f7a4_9 (by decide) rfl (fun _ => ?_) (fun _ => ?_)
  · refine g_iconst (M := mJ6_numberOfTrailingZeros_0f7a4) (pc := 17) (v := 1) 18 dJ6_numberOfTrailingZeros_0f7a4_17 rfl ic1 ?_
    refine g_istore_n (M := mJ6_numberOfTrailingZeros_0f7a4) (pc := 18) (ls' := [some (aI t1), some (aI 1)]) 19 dJ6_numberOfTrailingZeros_0f7a4_18 rfl rfl rfl rfl ?_
    refine g_iload_n (M := mJ6_numberOfTrailingZeros_0f7a4) (pc := 19) 20 dJ6_numberOfTrailingZeros_0f7a4_19 rfl rfl rfl ?_
    refine g_ldcw (M := mJ6_numberOfTrailingZeros_0f7a4) (pc := 20) 23 dJ6_numberOfTrailingZeros_0f7a4_20 rfl cJ6_264 ?_
    refine g_icmp_le (M := mJ6_numberOfTrailingZeros_0f7a4) (pc := 23) 34 26 dJ6_numberOfTrailingZeros_0f7a4_23 (by decide) rfl (fun _ => ?_) (fun _ => ?_)
    · exact g_fgt [true, true] (JJ6_numberOfTrailingZeros_0f7a4_34_ok t1 1 T h L)
    · refine g_iinc (M := mJ6_numberOfTrailingZeros_0f7a4) (pc := 26) (c := 16) (ls' := [some (aI t1), some (aI (1 + 16))]) 29 dJ6_numberOfTrailingZeros_0f7a4_26 rfl ic16 rfl rfl rfl ?_
      refine g_iload_n (M := mJ6_numberOfTrailingZeros_0f7a4) (pc := 29) 30 dJ6_numberOfTrailingZeros_0f7a4_29 rfl rfl rfl ?_
      refine g_bipush (M := mJ6_numberOfTrailingZeros_0f7a4) (pc := 30) (v := 16) 32 dJ6_numberOfTrailingZeros_0f7a4_30 rfl bp16 ?_
      refine g_iushr (M := mJ6_numberOfTrailingZeros_0f7a4) (pc := 32) 33 dJ6_numberOfTrailingZeros_0f7a4_32 rfl ?_
      refine g_nmI (fun t5 => ?_)
      refine g_istore_n (M := mJ6_numberOfTrailingZeros_0f7a4) (pc := 33) (ls' := [some (aI t5), some (aI (1 + 16))]) 34 dJ6_numberOfTrailingZeros_0f7a4_33 rfl rfl rfl rfl ?_
      exact g_fgt [true, true] (JJ6_numberOfTrailingZeros_0f7a4_34_ok t5 (1 + 16) T h L)
  · refine g_iload_n (M := mJ6_numberOfTrailingZeros_0f7a4) (pc := 12) 13 dJ6_numberOfTrailingZeros_0f7a4_12 rfl rfl rfl ?_
    refine g_bipush (M := mJ6_numberOfTrailingZeros_0f7a4) (pc := 13) (v := 32) 15 dJ6_numberOfTrailingZeros_0f7a4_13 rfl bp32 ?_
    refine g_iand (M := mJ6_numberOfTrailingZeros_0f7a4) (pc := 15) 16 dJ6_numberOfTrailingZeros_0f7a4_15 rfl ?_
    exact g_iret (M := mJ6_numberOfTrailingZeros_0f7a4) (pc := 16) dJ6_numberOfTrailingZeros_0f7a4_16 rfl rfl (fun z => z)
def SX3_memberOf_4 (a1 : Int32) : (Int32 × Int32) → Option ((Int32 × Int32) ⊕ (Int32))
  | (a2, a3) =>
    if a1 ≤ a3 then
      some (Sum.inr a2)
    else
      if 12 ≤ a3 then
        some (Sum.inr a2)
      else
        nm (a2 &&& (a2 - 1)) fun t1 =>
        some (Sum.inl (t1, (a3 + 1)))
def FX3_memberOf (a0 : Int32) (a1 : Int32) : Option (Int32) :=
  Option.bind (loopN (SX3_memberOf_4 a1) FU (a0, 0)) fun e2 =>
    Option.bind (FJ6_numberOfTrailingZeros_0f7a4 e2) fun r3 =>
    some r3
set_option maxRecDepth 100000 in
set_option maxHeartbeats 4000000 in
theorem SX3_memberOf_4_ok (a1 : Int32) (h : HI) (L : HL) (T : ZT) (a2 : Int32) (a3 : Int32) : VX mX3_memberOf 1 T (gS (fun s : Int32 × Int32 => V mX3_memberOf 1 T 4 [none, some (aI a1), some (aI (s.1)), some (aI (s.2))] [] h L) (fun s : Int32 => V mX3_memberOf 1 T 27 [none, none, some (aI s), none] [] h L)) 4 [none, some (aI a1), some (aI a2), some (aI a3)] [] h L (SX3_memberOf_4 a1 (a2, a3)) := by
  unfold SX3_memberOf_4
  refine g_iload_n (M := mX3_memberOf) (pc := 4) 5 dX3_memberOf_4 rfl rfl rfl ?_
  refine g_iload_n (M := mX3_memberOf) (pc := 5) 6 dX3_memberOf_5 rfl rfl rfl ?_
  refine g_icmp_ge (M := mX3_memberOf) (pc := 6) 27 9 dX3_memberOf_6 (by decide) rfl (fun _ => ?_) (fun _ => ?_)
  · exact g_jmp (fun z => v_fgt [false, false, true, false] z)
  · refine g_iload_n (M := mX3_memberOf) (pc := 9) 10 dX3_memberOf_9 rfl rfl rfl ?_
    refine g_bipush (M := mX3_memberOf) (pc := 10) (v := 12) 12 dX3_memberOf_10 rfl bp12 ?_
    refine g_icmp_ge (M := mX3_memberOf) (pc := 12) 27 15 dX3_memberOf_12 (by decide) rfl (fun _ => ?_) (fun _ => ?_)
    · exact g_jmp (fun z => v_fgt [false, false, true, false] z)
    · refine g_iload_n (M := mX3_memberOf) (pc := 15) 16 dX3_memberOf_15 rfl rfl rfl ?_
      refine g_iload_n (M := mX3_memberOf) (pc := 16) 17 dX3_memberOf_16 rfl rfl rfl ?_
      refine g_iconst (M := mX3_memberOf) (pc := 17) (v := 1) 18 dX3_memberOf_17 rfl ic1 ?_
      refine g_isub (M := mX3_memberOf) (pc := 18) 19 dX3_memberOf_18 rfl ?_
      refine g_iand (M := mX3_memberOf) (pc := 19) 20 dX3_memberOf_19 rfl ?_
      refine g_nmI (fun t1 => ?_)
      refine g_istore_n (M := mX3_memberOf) (pc := 20) (ls' := [none, some (aI a1), some (aI t1), some (aI a3)]) 21 dX3_memberOf_20 rfl rfl rfl rfl ?_
      refine g_iinc (M := mX3_memberOf) (pc := 21) (c := 1) (ls' := [none, some (aI a1), some (aI t1), some (aI (a3 + 1))]) 24 dX3_memberOf_21 rfl ic1 rfl rfl rfl ?_
      refine g_goto (M := mX3_memberOf) (pc := 24) 4 dX3_memberOf_24 (by decide) ?_
      exact g_jmp (fun z => v_fgt [false, true, true, true] z)
set_option maxRecDepth 100000 in
set_option maxHeartbeats 4000000 in
theorem CX3_memberOf (a0 : Int32) (a1 : Int32) (h : HI) (L : HL) : CG mX3_memberOf 1 [aI a0, aI a1] h L (lfI h L) (FX3_memberOf a0 a1) := by
  unfold FX3_memberOf
  refine cg_of [some (aI a0), some (aI a1), none, none] rfl (by decide) rfl rfl (fun T => ?_)
  refine g_iload_n (M := mX3_memberOf) (pc := 0) 1 dX3_memberOf_0 rfl rfl rfl ?_
  refine g_istore_n (M := mX3_memberOf) (pc := 1) (ls' := [some (aI a0), some (aI a1), some (aI a0), none]) 2 dX3_memberOf_1 rfl rfl rfl rfl ?_
  refine g_iconst (M := mX3_memberOf) (pc := 2) (v := 0) 3 dX3_memberOf_2 rfl ic0 ?_
  refine g_istore_n (M := mX3_memberOf) (pc := 3) (ls' := [some (aI a0), some (aI a1), some (aI a0), some (aI 0)]) 4 dX3_memberOf_3 rfl rfl rfl rfl ?_
  refine g_loop (fun s => SX3_memberOf_4_ok a1 h L T s.1 s.2) ?_ (fun z => v_fgt [false, true, true, true] z)
  intro e2
  show VX mX3_memberOf 1 T _ 27 [none, none, some (aI e2), none] [] h L _
  refine g_iload_n (M := mX3_memberOf) (pc := 27) 28 dX3_memberOf_27 rfl rfl rfl ?_
  refine g_cS_I (M := mX3_memberOf) (pc := 28) (M' := mJ6_numberOfTrailingZeros_0f7a4) (rest := []) 31 dX3_memberOf_28 rfl kX3_47 okJ6_numberOfTrailingZeros_0f7a4 (CJ6_numberOfTrailingZeros_0f7a4 e2 h L) rfl rfl rfl rfl (fun r3 => ?_)
  exact g_iret (M := mX3_memberOf) (pc := 31) dX3_memberOf_31 rfl rfl (fun z => z)
def SX3_arrange_22 (g : Nat) : (Int32 × Int32 × Int32 × HI) → Option ((Int32 × Int32 × Int32 × HI) ⊕ (HI))
  | (a3, a4, a5, h) =>
    if a5 < 0 then
      some (Sum.inr h)
    else
      gd (ixb a5 6) <|
      nm (if 1 < (([1, 1, 2, 6, 24, 120] : List Int32).getD (nC a5) 0) then (([1, 1, 2, 6, 24, 120] : List Int32).getD (nC a5) 0) else 1) fun t4 =>
      gd (!decide (t4 = 0)) <|
      Option.bind (FX3_memberOf a3 (a4 / t4)) fun r5 =>
      gd (!decide (t4 = 0)) <|
      nm (a4 - a4 / t4 * t4) fun t6 =>
      nm (a3 &&& ((1 <<< (r5 &&& 31)) ^^^ (-1))) fun t7 =>
      Option.bind (FX3_append g r5 h) fun h8 =>
      some (Sum.inl (t7, t6, (a5 + (-1)), h8))
def FX3_arrange (g : Nat) (a1 : Int32) (a2 : Int32) (h : HI) : Option (HI) :=
  nm (hP1 h g 14 1 0) fun h1 =>
  Option.bind (FJ6_bitCount_0f7a4 a1) fun r2 =>
  nm ((if 5 < r2 then 5 else r2) - 1) fun t3 =>
  Option.bind (loopN (SX3_arrange_22 g) FU (a1, a2, t3, h1)) fun h9 =>
    some h9
set_option maxRecDepth 100000 in
set_option maxHeartbeats 4000000 in
theorem SX3_arrange_22_ok (g : Nat) (hg : g < 3) (L : HL) (T : ZT) (a3 : Int32) (a4 : Int32) (a5 : Int32) (h : HI) : VX mX3_arrange 2 T (gS (fun s : Int32 × Int32 × Int32 × HI => V mX3_arrange 2 T 22 [some (aR g 14), none, none, some (aI (s.1)), some (aI (s.2.1)), some (aI (s.2.2.1)), none, none] [] (s.2.2.2) L) (fun s : HI => V mX3_arrange 2 T 78 [none, none, none, none, none, none, none, none] [] s L)) 22 [some (aR g 14), none, none, some (aI a3), some (aI a4), some (aI a5), none, none] [] h L (SX3_arrange_22 g (a3, a4, a5, h)) := by
  unfold SX3_arrange_22
  refine g_iload (M := mX3_arrange) (pc := 22) 24 dX3_arrange_22 rfl rfl ?_
  refine g_if_lt (M := mX3_arrange) (pc := 24) 78 27 dX3_arrange_24 (by decide) rfl (fun _ => ?_) (fun _ => ?_)
  · exact g_jmp (fun z => v_fgt [false, false, false, false, false, false, false, false] z)
  · refine g_iconst (M := mX3_arrange) (pc := 27) (v := 1) 28 dX3_arrange_27 rfl ic1 ?_
    refine g_gets (M := mX3_arrange) (pc := 28) (j := 4) 31 dX3_arrange_28 rfl sX3_23 rfl ?_
    refine g_iload (M := mX3_arrange) (pc := 31) 33 dX3_arrange_31 rfl rfl ?_
    refine g_sald (M := mX3_arrange) (pc := 33) (n := 6) 34 dX3_arrange_33 rfl rfl rfl ?_
    refine g_max (M := mX3_arrange) (pc := 34) 37 dX3_arrange_34 rfl kX3_37 rfl rfl ?_
    refine g_nmI (fun t4 => ?_)
    refine g_istore (M := mX3_arrange) (pc := 37) (ls' := [some (aR g 14), none, none, some (aI a3), some (aI a4), some (aI a5), some (aI t4), none]) 39 dX3_arrange_37 rfl rfl rfl ?_
    refine g_iload_n (M := mX3_arrange) (pc := 39) 40 dX3_arrange_39 rfl rfl rfl ?_
    refine g_iload (M := mX3_arrange) (pc := 40) 42 dX3_arrange_40 rfl rfl ?_
    refine g_iload (M := mX3_arrange) (pc := 42) 44 dX3_arrange_42 rfl rfl ?_
    refine g_idiv (M := mX3_arrange) (pc := 44) 45 dX3_arrange_44 rfl ?_
    refine g_cS_I (M := mX3_arrange) (pc := 45) (M' := mX3_memberOf) (rest := []) 48 dX3_arrange_45 rfl kX3_40 okX3_memberOf (CX3_memberOf a3 (a4 / t4) h L) rfl rfl rfl rfl (fun r5 => ?_)
    refine g_istore (M := mX3_arrange) (pc := 48) (ls' := [some (aR g 14), none, none, some (aI a3), some (aI a4), some (aI a5), some (aI t4), some (aI r5)]) 50 dX3_arrange_48 rfl rfl rfl ?_
    refine g_iload (M := mX3_arrange) (pc := 50) 52 dX3_arrange_50 rfl rfl ?_
    refine g_iload (M := mX3_arrange) (pc := 52) 54 dX3_arrange_52 rfl rfl ?_
    refine g_irem (M := mX3_arrange) (pc := 54) 55 dX3_arrange_54 rfl ?_
    refine g_nmI (fun t6 => ?_)
    refine g_istore (M := mX3_arrange) (pc := 55) (ls' := [some (aR g 14), none, none, some (aI a3), some (aI t6), some (aI a5), some (aI t4), some (aI r5)]) 57 dX3_arrange_55 rfl rfl rfl ?_
    refine g_iload_n (M := mX3_arrange) (pc := 57) 58 dX3_arrange_57 rfl rfl rfl ?_
    refine g_iconst (M := mX3_arrange) (pc := 58) (v := 1) 59 dX3_arrange_58 rfl ic1 ?_
    refine g_iload (M := mX3_arrange) (pc := 59) 61 dX3_arrange_59 rfl rfl ?_
    refine g_ishl (M := mX3_arrange) (pc := 61) 62 dX3_arrange_61 rfl ?_
    refine g_iconst (M := mX3_arrange) (pc := 62) (v := (-1)) 63 dX3_arrange_62 rfl icm1 ?_
    refine g_ixor (M := mX3_arrange) (pc := 63) 64 dX3_arrange_63 rfl ?_
    refine g_iand (M := mX3_arrange) (pc := 64) 65 dX3_arrange_64 rfl ?_
    refine g_nmI (fun t7 => ?_)
    refine g_istore_n (M := mX3_arrange) (pc := 65) (ls' := [some (aR g 14), none, none, some (aI t7), some (aI t6), some (aI a5), some (aI t4), some (aI r5)]) 66 dX3_arrange_65 rfl rfl rfl rfl ?_
    refine g_aload_n (M := mX3_arrange) (pc := 66) 67 dX3_arrange_66 rfl rfl rfl ?_
    refine g_iload (M := mX3_arrange) (pc := 67) 69 dX3_arrange_67 rfl rfl ?_
    refine g_cV_VH (M := mX3_arrange) (pc := 69) (M' := mX3_append) (rest := []) 72 dX3_arrange_69 rfl kX3_43 okX3_append (CX3_append g hg r5 h L) (oO14 hg) rfl rfl rfl rfl (fun h8 => ?_)
    refine g_iinc (M := mX3_arrange) (pc := 72) (c := (-1)) (ls' := [some (aR g 14), none, none, some (aI t7), some (aI t6), some (aI (a5 + (-1))), some (aI t4), some (aI r5)]) 75 dX3_arrange_72 rfl icm1 rfl rfl rfl ?_
    refine g_goto (M := mX3_arrange) (pc := 75) 22 dX3_arrange_75 (by decide) ?_
    exact g_jmp (fun z => v_fgt [true, false, false, true, true, true, false, false] z)
set_option maxRecDepth 100000 in
set_option maxHeartbeats 4000000 in
theorem CX3_arrange (g : Nat) (hg : g < 3) (a1 : Int32) (a2 : Int32) (h : HI) (L : HL) : CG mX3_arrange 2 [aR g 14, aI a1, aI a2] h L (lfVH L) (FX3_arrange g a1 a2 h) := by
  unfold FX3_arrange
  refine cg_of [some (aR g 14), some (aI a1), some (aI a2), none, none, none, none, none] rfl (by decide) rfl rfl (fun T => ?_)
  refine g_aload_n (M := mX3_arrange) (pc := 0) 1 dX3_arrange_0 rfl rfl rfl ?_
  refine g_iconst (M := mX3_arrange) (pc := 1) (v := 0) 2 dX3_arrange_1 rfl ic0 ?_
  refine g_put (M := mX3_arrange) (pc := 2) 5 dX3_arrange_2 rfl pX3_15 (oF14_1 hg) rfl rfl (fun h1 => ?_)
  refine g_iload_n (M := mX3_arrange) (pc := 5) 6 dX3_arrange_5 rfl rfl rfl ?_
  refine g_istore_n (M := mX3_arrange) (pc := 6) (ls' := [some (aR g 14), some (aI a1), some (aI a2), some (aI a1), none, none, none, none]) 7 dX3_arrange_6 rfl rfl rfl rfl ?_
  refine g_iload_n (M := mX3_arrange) (pc := 7) 8 dX3_arrange_7 rfl rfl rfl ?_
  refine g_istore (M := mX3_arrange) (pc := 8) (ls' := [some (aR g 14), some (aI a1), some (aI a2), some (aI a1), some (aI a2), none, none, none]) 10 dX3_arrange_8 rfl rfl rfl ?_
  refine g_iload_n (M := mX3_arrange) (pc := 10) 11 dX3_arrange_10 rfl rfl rfl ?_
  refine g_cS_I (M := mX3_arrange) (pc := 11) (M' := mJ6_bitCount_0f7a4) (rest := []) 14 dX3_arrange_11 rfl kX3_26 okJ6_bitCount_0f7a4 (CJ6_bitCount_0f7a4 a1 h1 L) rfl rfl rfl rfl (fun r2 => ?_)
  refine g_iconst (M := mX3_arrange) (pc := 14) (v := 5) 15 dX3_arrange_14 rfl ic5 ?_
  refine g_min (M := mX3_arrange) (pc := 15) 18 dX3_arrange_15 rfl kX3_31 rfl rfl ?_
  refine g_iconst (M := mX3_arrange) (pc := 18) (v := 1) 19 dX3_arrange_18 rfl ic1 ?_
  refine g_isub (M := mX3_arrange) (pc := 19) 20 dX3_arrange_19 rfl ?_
  refine g_nmI (fun t3 => ?_)
  refine g_istore (M := mX3_arrange) (pc := 20) (ls' := [some (aR g 14), some (aI a1), some (aI a2), some (aI a1), some (aI a2), some (aI t3), none, none]) 22 dX3_arrange_20 rfl rfl rfl ?_
  refine g_loop (fun s => SX3_arrange_22_ok g hg L T s.1 s.2.1 s.2.2.1 s.2.2.2) ?_ (fun z => v_fgt [true, false, false, true, true, true, false, false] z)
  intro h9
  show VX mX3_arrange 2 T _ 78 [none, none, none, none, none, none, none, none] [] h9 L _
  exact g_vret (M := mX3_arrange) (pc := 78) dX3_arrange_78 rfl (fun z => z)
def FX4_lookAhead (g1 : Nat) (a2 : Int32) (h : HI) : Option (HI) :=
  Option.bind (FX0_takeFrom 2 g1 h) fun h1 =>
  Option.bind (FX0_goDays 2 a2 h1) fun h2 =>
  some h2
set_option maxRecDepth 100000 in
set_option maxHeartbeats 4000000 in
theorem CX4_lookAhead (g1 : Nat) (hg1 : g1 < 3) (a2 : Int32) (h : HI) (L : HL) : CG mX4_lookAhead 5 [aR 7 24, aR g1 0, aI a2] h L (lfVH L) (FX4_lookAhead g1 a2 h) := by
  unfold FX4_lookAhead
  refine cg_of [some (aR 7 24), some (aR g1 0), some (aI a2)] rfl (by decide) rfl rfl (fun T => ?_)
  refine g_aload_n (M := mX4_lookAhead) (pc := 0) 1 dX4_lookAhead_0 rfl rfl rfl ?_
  refine g_getR (M := mX4_lookAhead) (pc := 1) 4 dX4_lookAhead_1 rfl fX4_12 oR24_0 ?_
  refine g_aload_n (M := mX4_lookAhead) (pc := 4) 5 dX4_lookAhead_4 rfl rfl rfl ?_
  refine g_cV_VH (M := mX4_lookAhead) (pc := 5) (M' := mX0_takeFrom) (rest := []) 8 dX4_lookAhead_5 rfl kX4_18 okX0_takeFrom (CX0_takeFrom 2 g1 (by decide) hg1 h L) (oO0 (by decide)) rfl rfl rfl rfl (fun h1 => ?_)
  refine g_aload_n (M := mX4_lookAhead) (pc := 8) 9 dX4_lookAhead_8 rfl rfl rfl ?_
  refine g_getR (M := mX4_lookAhead) (pc := 9) 12 dX4_lookAhead_9 rfl fX4_12 oR24_0 ?_
  refine g_iload_n (M := mX4_lookAhead) (pc := 12) 13 dX4_lookAhead_12 rfl rfl rfl ?_
  refine g_cV_VH (M := mX4_lookAhead) (pc := 13) (M' := mX0_goDays) (rest := []) 16 dX4_lookAhead_13 rfl kX4_22 okX0_goDays (CX0_goDays 2 (by decide) a2 h1 L) (oO0 (by decide)) rfl rfl rfl rfl (fun h2 => ?_)
  exact g_vret (M := mX4_lookAhead) (pc := 16) dX4_lookAhead_16 rfl (fun z => z)
def SX4_daysTillForgotten_10 (g1 : Nat) (a2 : Int32) : (Int32 × HI) → Option ((Int32 × HI) ⊕ (Int32 × HI))
  | (a3, h) =>
    if 60 < a3 then
      some (Sum.inr ((-1), h))
    else
      Option.bind (FX0_isKnown 2 a2 h) fun r2 =>
      if r2 = 0 then
        some (Sum.inr (a3, h))
      else
        Option.bind (FX0_goDays 2 1 h) fun h3 =>
        some (Sum.inl ((a3 + 1), h3))
def FX4_daysTillForgotten (g1 : Nat) (a2 : Int32) (h : HI) : Option (Int32 × HI) :=
  Option.bind (FX0_takeFrom 2 g1 h) fun h1 =>
  Option.bind (loopN (SX4_daysTillForgotten_10 g1 a2) FU (0, h1)) fun r => some r
set_option maxRecDepth 100000 in
set_option maxHeartbeats 4000000 in
theorem SX4_daysTillForgotten_10_ok (g1 : Nat) (hg1 : g1 < 3) (a2 : Int32) (L : HL) (T : ZT) (a3 : Int32) (h : HI) : VX mX4_daysTillForgotten 5 T (gS (fun s : Int32 × HI => V mX4_daysTillForgotten 5 T 10 [some (aR 7 24), none, some (aI a2), some (aI (s.1))] [] (s.2) L) (fun r => Zl (lfIH L) r = T)) 10 [some (aR 7 24), none, some (aI a2), some (aI a3)] [] h L (SX4_daysTillForgotten_10 g1 a2 (a3, h)) := by
  unfold SX4_daysTillForgotten_10
  refine g_iload_n (M := mX4_daysTillForgotten) (pc := 10) 11 dX4_daysTillForgotten_10 rfl rfl rfl ?_
  refine g_bipush (M := mX4_daysTillForgotten) (pc := 11) (v := 60) 13 dX4_daysTillForgotten_11 rfl bp60 ?_
  refine g_icmp_gt (M := mX4_daysTillForgotten) (pc := 13) 43 16 dX4_daysTillForgotten_13 (by decide) rfl (fun _ => ?_) (fun _ => ?_)
  · refine g_iconst (M := mX4_daysTillForgotten) (pc := 43) (v := (-1)) 44 dX4_daysTillForgotten_43 rfl icm1 ?_
    exact g_iret (M := mX4_daysTillForgotten) (pc := 44) dX4_daysTillForgotten_44 rfl rfl (fun z => z)
  · refine g_aload_n (M := mX4_daysTillForgotten) (pc := 16) 17 dX4_daysTillForgotten_16 rfl rfl rfl ?_
    refine g_getR (M := mX4_daysTillForgotten) (pc := 17) 20 dX4_daysTillForgotten_17 rfl fX4_12 oR24_0 ?_
    refine g_iload_n (M := mX4_daysTillForgotten) (pc := 20) 21 dX4_daysTillForgotten_20 rfl rfl rfl ?_
    refine g_cV_I (M := mX4_daysTillForgotten) (pc := 21) (M' := mX0_isKnown) (rest := []) 24 dX4_daysTillForgotten_21 rfl kX4_26 okX0_isKnown (CX0_isKnown 2 (by decide) a2 h L) (oO0 (by decide)) rfl rfl rfl rfl (fun r2 => ?_)
    refine g_if_ne (M := mX4_daysTillForgotten) (pc := 24) 29 27 dX4_daysTillForgotten_24 (by decide) rfl (fun _ => ?_) (fun _ => ?_)
    · refine g_aload_n (M := mX4_daysTillForgotten) (pc := 29) 30 dX4_daysTillForgotten_29 rfl rfl rfl ?_
      refine g_getR (M := mX4_daysTillForgotten) (pc := 30) 33 dX4_daysTillForgotten_30 rfl fX4_12 oR24_0 ?_
      refine g_iconst (M := mX4_daysTillForgotten) (pc := 33) (v := 1) 34 dX4_daysTillForgotten_33 rfl ic1 ?_
      refine g_cV_VH (M := mX4_daysTillForgotten) (pc := 34) (M' := mX0_goDays) (rest := []) 37 dX4_daysTillForgotten_34 rfl kX4_22 okX0_goDays (CX0_goDays 2 (by decide) 1 h L) (oO0 (by decide)) rfl rfl rfl rfl (fun h3 => ?_)
      refine g_iinc (M := mX4_daysTillForgotten) (pc := 37) (c := 1) (ls' := [some (aR 7 24), none, some (aI a2), some (aI (a3 + 1))]) 40 dX4_daysTillForgotten_37 rfl ic1 rfl rfl rfl ?_
      refine g_goto (M := mX4_daysTillForgotten) (pc := 40) 10 dX4_daysTillForgotten_40 (by decide) ?_
      exact g_jmp (fun z => v_fgt [true, false, true, true] z)
    · refine g_iload_n (M := mX4_daysTillForgotten) (pc := 27) 28 dX4_daysTillForgotten_27 rfl rfl rfl ?_
      exact g_iret (M := mX4_daysTillForgotten) (pc := 28) dX4_daysTillForgotten_28 rfl rfl (fun z => z)
set_option maxRecDepth 100000 in
set_option maxHeartbeats 4000000 in
theorem CX4_daysTillForgotten (g1 : Nat) (hg1 : g1 < 3) (a2 : Int32) (h : HI) (L : HL) : CG mX4_daysTillForgotten 5 [aR 7 24, aR g1 0, aI a2] h L (lfIH L) (FX4_daysTillForgotten g1 a2 h) := by
  unfold FX4_daysTillForgotten
  refine cg_of [some (aR 7 24), some (aR g1 0), some (aI a2), none] rfl (by decide) rfl rfl (fun T => ?_)
  refine g_aload_n (M := mX4_daysTillForgotten) (pc := 0) 1 dX4_daysTillForgotten_0 rfl rfl rfl ?_
  refine g_getR (M := mX4_daysTillForgotten) (pc := 1) 4 dX4_daysTillForgotten_1 rfl fX4_12 oR24_0 ?_
  refine g_aload_n (M := mX4_daysTillForgotten) (pc := 4) 5 dX4_daysTillForgotten_4 rfl rfl rfl ?_
  refine g_cV_VH (M := mX4_daysTillForgotten) (pc := 5) (M' := mX0_takeFrom) (rest := []) 8 dX4_daysTillForgotten_5 rfl kX4_18 okX0_takeFrom (CX0_takeFrom 2 g1 (by decide) hg1 h L) (oO0 (by decide)) rfl rfl rfl rfl (fun h1 => ?_)
  refine g_iconst (M := mX4_daysTillForgotten) (pc := 8) (v := 0) 9 dX4_daysTillForgotten_8 rfl ic0 ?_
  refine g_istore_n (M := mX4_daysTillForgotten) (pc := 9) (ls' := [some (aR 7 24), some (aR g1 0), some (aI a2), some (aI 0)]) 10 dX4_daysTillForgotten_9 rfl rfl rfl rfl ?_
  exact g_loop (fun s => SX4_daysTillForgotten_10_ok g1 hg1 a2 L T s.1 s.2) (fun e b z1 z2 => by cases z1; exact z2) (fun z => v_fgt [true, false, true, true] z)
def SX4_neverUsed_11 (g1 : Nat) (h : HI) : (Int32 × Int32) → Option ((Int32 × Int32) ⊕ (Int32))
  | (a3, a4) =>
    if (h g1 1 6) ≤ a4 then
      some (Sum.inr a3)
    else
      gd (ixb a4 12) <|
      gd (ixb a4 12) <|
      if (h 2 7 (nC a4)) = (h g1 7 (nC a4)) then
        nm (a3 ||| (1 <<< (a4 &&& 31))) fun t2 =>
        some (Sum.inl (t2, (a4 + 1)))
      else
        some (Sum.inl (a3, (a4 + 1)))
def FX4_neverUsed (g1 : Nat) (a2 : Int32) (h : HI) : Option (Int32 × HI) :=
  Option.bind (FX4_lookAhead g1 a2 h) fun h1 =>
  Option.bind (loopN (SX4_neverUsed_11 g1 h1) FU (0, 0)) fun e3 =>
    some (e3, h1)
set_option maxRecDepth 100000 in
set_option maxHeartbeats 4000000 in
theorem SX4_neverUsed_11_ok (g1 : Nat) (hg1 : g1 < 3) (h : HI) (L : HL) (T : ZT) (a3 : Int32) (a4 : Int32) : VX mX4_neverUsed 6 T (gS (fun s : Int32 × Int32 => V mX4_neverUsed 6 T 11 [some (aR 7 24), some (aR g1 0), none, some (aI (s.1)), some (aI (s.2))] [] h L) (fun s : Int32 => V mX4_neverUsed 6 T 62 [none, none, none, some (aI s), none] [] h L)) 11 [some (aR 7 24), some (aR g1 0), none, some (aI a3), some (aI a4)] [] h L (SX4_neverUsed_11 g1 h (a3, a4)) := by
  unfold SX4_neverUsed_11
  refine g_iload (M := mX4_neverUsed) (pc := 11) 13 dX4_neverUsed_11 rfl rfl ?_
  refine g_aload_n (M := mX4_neverUsed) (pc := 13) 14 dX4_neverUsed_13 rfl rfl rfl ?_
  refine g_getR (M := mX4_neverUsed) (pc := 14) 17 dX4_neverUsed_14 rfl fX4_34 (oR0_0 hg1) ?_
  refine g_getI (M := mX4_neverUsed) (pc := 17) 20 dX4_neverUsed_17 rfl fX4_38 (oF1_6 hg1) ?_
  refine g_icmp_ge (M := mX4_neverUsed) (pc := 20) 62 23 dX4_neverUsed_20 (by decide) rfl (fun _ => ?_) (fun _ => ?_)
  · exact g_jmp (fun z => v_fgt [false, false, false, true, false] z)
  · refine g_aload_n (M := mX4_neverUsed) (pc := 23) 24 dX4_neverUsed_23 rfl rfl rfl ?_
    refine g_getR (M := mX4_neverUsed) (pc := 24) 27 dX4_neverUsed_24 rfl fX4_12 oR24_0 ?_
    refine g_getR (M := mX4_neverUsed) (pc := 27) 30 dX4_neverUsed_27 rfl fX4_34 (oR0_0 (by decide)) ?_
    refine g_getR (M := mX4_neverUsed) (pc := 30) 33 dX4_neverUsed_30 rfl fX4_44 (oR1_5 (by decide)) ?_
    refine g_iload (M := mX4_neverUsed) (pc := 33) 35 dX4_neverUsed_33 rfl rfl ?_
    refine g_iald (M := mX4_neverUsed) (pc := 35) 36 dX4_neverUsed_35 rfl (oA7 (by decide)) ?_
    refine g_aload_n (M := mX4_neverUsed) (pc := 36) 37 dX4_neverUsed_36 rfl rfl rfl ?_
    refine g_getR (M := mX4_neverUsed) (pc := 37) 40 dX4_neverUsed_37 rfl fX4_34 (oR0_0 hg1) ?_
    refine g_getR (M := mX4_neverUsed) (pc := 40) 43 dX4_neverUsed_40 rfl fX4_44 (oR1_5 hg1) ?_
    refine g_iload (M := mX4_neverUsed) (pc := 43) 45 dX4_neverUsed_43 rfl rfl ?_
    refine g_iald (M := mX4_neverUsed) (pc := 45) 46 dX4_neverUsed_45 rfl (oA7 hg1) ?_
    refine g_icmp_ne (M := mX4_neverUsed) (pc := 46) 56 49 dX4_neverUsed_46 (by decide) rfl (fun _ => ?_) (fun _ => ?_)
    · refine g_iinc (M := mX4_neverUsed) (pc := 56) (c := 1) (ls' := [some (aR 7 24), some (aR g1 0), none, some (aI a3), some (aI (a4 + 1))]) 59 dX4_neverUsed_56 rfl ic1 rfl rfl rfl ?_
      refine g_goto (M := mX4_neverUsed) (pc := 59) 11 dX4_neverUsed_59 (by decide) ?_
      exact g_jmp (fun z => v_fgt [true, true, false, true, true] z)
    · refine g_iload_n (M := mX4_neverUsed) (pc := 49) 50 dX4_neverUsed_49 rfl rfl rfl ?_
      refine g_iconst (M := mX4_neverUsed) (pc := 50) (v := 1) 51 dX4_neverUsed_50 rfl ic1 ?_
      refine g_iload (M := mX4_neverUsed) (pc := 51) 53 dX4_neverUsed_51 rfl rfl ?_
      refine g_ishl (M := mX4_neverUsed) (pc := 53) 54 dX4_neverUsed_53 rfl ?_
      refine g_ior (M := mX4_neverUsed) (pc := 54) 55 dX4_neverUsed_54 rfl ?_
      refine g_nmI (fun t2 => ?_)
      refine g_istore_n (M := mX4_neverUsed) (pc := 55) (ls' := [some (aR 7 24), some (aR g1 0), none, some (aI t2), some (aI a4)]) 56 dX4_neverUsed_55 rfl rfl rfl rfl ?_
      refine g_iinc (M := mX4_neverUsed) (pc := 56) (c := 1) (ls' := [some (aR 7 24), some (aR g1 0), none, some (aI t2), some (aI (a4 + 1))]) 59 dX4_neverUsed_56 rfl ic1 rfl rfl rfl ?_
      refine g_goto (M := mX4_neverUsed) (pc := 59) 11 dX4_neverUsed_59 (by decide) ?_
      exact g_jmp (fun z => v_fgt [true, true, false, true, true] z)
set_option maxRecDepth 100000 in
set_option maxHeartbeats 4000000 in
theorem CX4_neverUsed (g1 : Nat) (hg1 : g1 < 3) (a2 : Int32) (h : HI) (L : HL) : CG mX4_neverUsed 6 [aR 7 24, aR g1 0, aI a2] h L (lfIH L) (FX4_neverUsed g1 a2 h) := by
  unfold FX4_neverUsed
  refine cg_of [some (aR 7 24), some (aR g1 0), some (aI a2), none, none] rfl (by decide) rfl rfl (fun T => ?_)
  refine g_aload_n (M := mX4_neverUsed) (pc := 0) 1 dX4_neverUsed_0 rfl rfl rfl ?_
  refine g_aload_n (M := mX4_neverUsed) (pc := 1) 2 dX4_neverUsed_1 rfl rfl rfl ?_
  refine g_iload_n (M := mX4_neverUsed) (pc := 2) 3 dX4_neverUsed_2 rfl rfl rfl ?_
  refine g_cV_VH (M := mX4_neverUsed) (pc := 3) (M' := mX4_lookAhead) (rest := []) 6 dX4_neverUsed_3 rfl kX4_30 okX4_lookAhead (CX4_lookAhead g1 hg1 a2 h L) oO24 rfl rfl rfl rfl (fun h1 => ?_)
  refine g_iconst (M := mX4_neverUsed) (pc := 6) (v := 0) 7 dX4_neverUsed_6 rfl ic0 ?_
  refine g_istore_n (M := mX4_neverUsed) (pc := 7) (ls' := [some (aR 7 24), some (aR g1 0), some (aI a2), some (aI 0), none]) 8 dX4_neverUsed_7 rfl rfl rfl rfl ?_
  refine g_iconst (M := mX4_neverUsed) (pc := 8) (v := 0) 9 dX4_neverUsed_8 rfl ic0 ?_
  refine g_istore (M := mX4_neverUsed) (pc := 9) (ls' := [some (aR 7 24), some (aR g1 0), some (aI a2), some (aI 0), some (aI 0)]) 11 dX4_neverUsed_9 rfl rfl rfl ?_
  refine g_loop (fun s => SX4_neverUsed_11_ok g1 hg1 h1 L T s.1 s.2) ?_ (fun z => v_fgt [true, true, false, true, true] z)
  intro e3
  show VX mX4_neverUsed 6 T _ 62 [none, none, none, some (aI e3), none] [] h1 L _
  refine g_iload_n (M := mX4_neverUsed) (pc := 62) 63 dX4_neverUsed_62 rfl rfl rfl ?_
  exact g_iret (M := mX4_neverUsed) (pc := 63) dX4_neverUsed_63 rfl rfl (fun z => z)
def SX4_worthLearning_20 (g1 : Nat) (a2 : Int32) : (Int32 × Int32 × Int32 × HI) → Option ((Int32 × Int32 × Int32 × HI) ⊕ (Int32 × HI))
  | (a3, a4, a5, h) =>
    if (h g1 1 6) ≤ a5 then
      some (Sum.inr (a4, h))
    else
      Option.bind (FX0_takeFrom 2 g1 h) fun h3 =>
      gd (ixb a5 12) <|
      Option.bind (FX5_learnFor 2 a5 (h3 2 4 (nC a5)) h3) fun h4 =>
      Option.bind (FX0_goDays 2 a2 h4) fun h5 =>
      if (h5 2 0 5) ≤ a3 then
        some (Sum.inl (a3, a4, (a5 + 1), h5))
      else
        nm (h5 2 0 5) fun t6 =>
        some (Sum.inl (t6, a5, (a5 + 1), h5))
def FX4_worthLearning (g1 : Nat) (a2 : Int32) (h : HI) : Option (Int32 × HI) :=
  Option.bind (FX4_lookAhead g1 a2 h) fun h1 =>
  nm (h1 2 0 5) fun t2 =>
  Option.bind (loopN (SX4_worthLearning_20 g1 a2) FU (t2, (-1), 0, h1)) fun (e7, h8) =>
    some (e7, h8)
set_option maxRecDepth 100000 in
set_option maxHeartbeats 4000000 in
theorem SX4_worthLearning_20_ok (g1 : Nat) (hg1 : g1 < 3) (a2 : Int32) (L : HL) (T : ZT) (a3 : Int32) (a4 : Int32) (a5 : Int32) (h : HI) : VX mX4_worthLearning 6 T (gS (fun s : Int32 × Int32 × Int32 × HI => V mX4_worthLearning 6 T 20 [some (aR 7 24), some (aR g1 0), some (aI a2), some (aI (s.1)), some (aI (s.2.1)), some (aI (s.2.2.1))] [] (s.2.2.2) L) (fun s : Int32 × HI => V mX4_worthLearning 6 T 102 [none, none, none, none, some (aI (s.1)), none] [] (s.2) L)) 20 [some (aR 7 24), some (aR g1 0), some (aI a2), some (aI a3), some (aI a4), some (aI a5)] [] h L (SX4_worthLearning_20 g1 a2 (a3, a4, a5, h)) := by
  unfold SX4_worthLearning_20
  refine g_iload (M := mX4_worthLearning) (pc := 20) 22 dX4_worthLearning_20 rfl rfl ?_
  refine g_aload_n (M := mX4_worthLearning) (pc := 22) 23 dX4_worthLearning_22 rfl rfl rfl ?_
  refine g_getR (M := mX4_worthLearning) (pc := 23) 26 dX4_worthLearning_23 rfl fX4_34 (oR0_0 hg1) ?_
  refine g_getI (M := mX4_worthLearning) (pc := 26) 29 dX4_worthLearning_26 rfl fX4_38 (oF1_6 hg1) ?_
  refine g_icmp_ge (M := mX4_worthLearning) (pc := 29) 102 32 dX4_worthLearning_29 (by decide) rfl (fun _ => ?_) (fun _ => ?_)
  · exact g_jmp (fun z => v_fgt [false, false, false, false, true, false] z)
  · refine g_aload_n (M := mX4_worthLearning) (pc := 32) 33 dX4_worthLearning_32 rfl rfl rfl ?_
    refine g_getR (M := mX4_worthLearning) (pc := 33) 36 dX4_worthLearning_33 rfl fX4_12 oR24_0 ?_
    refine g_aload_n (M := mX4_worthLearning) (pc := 36) 37 dX4_worthLearning_36 rfl rfl rfl ?_
    refine g_cV_VH (M := mX4_worthLearning) (pc := 37) (M' := mX0_takeFrom) (rest := []) 40 dX4_worthLearning_37 rfl kX4_18 okX0_takeFrom (CX0_takeFrom 2 g1 (by decide) hg1 h L) (oO0 (by decide)) rfl rfl rfl rfl (fun h3 => ?_)
    refine g_aload_n (M := mX4_worthLearning) (pc := 40) 41 dX4_worthLearning_40 rfl rfl rfl ?_
    refine g_getR (M := mX4_worthLearning) (pc := 41) 44 dX4_worthLearning_41 rfl fX4_12 oR24_0 ?_
    refine g_getR (M := mX4_worthLearning) (pc := 44) 47 dX4_worthLearning_44 rfl fX4_34 (oR0_0 (by decide)) ?_
    refine g_iload (M := mX4_worthLearning) (pc := 47) 49 dX4_worthLearning_47 rfl rfl ?_
    refine g_aload_n (M := mX4_worthLearning) (pc := 49) 50 dX4_worthLearning_49 rfl rfl rfl ?_
    refine g_getR (M := mX4_worthLearning) (pc := 50) 53 dX4_worthLearning_50 rfl fX4_12 oR24_0 ?_
    refine g_getR (M := mX4_worthLearning) (pc := 53) 56 dX4_worthLearning_53 rfl fX4_34 (oR0_0 (by decide)) ?_
    refine g_getR (M := mX4_worthLearning) (pc := 56) 59 dX4_worthLearning_56 rfl fX4_51 (oR1_2 (by decide)) ?_
    refine g_iload (M := mX4_worthLearning) (pc := 59) 61 dX4_worthLearning_59 rfl rfl ?_
    refine g_iald (M := mX4_worthLearning) (pc := 61) 62 dX4_worthLearning_61 rfl (oA4 (by decide)) ?_
    refine g_cV_VH (M := mX4_worthLearning) (pc := 62) (M' := mX5_learnFor) (rest := []) 65 dX4_worthLearning_62 rfl kX4_54 okX5_learnFor (CX5_learnFor 2 (by decide) a5 (h3 2 4 (nC a5)) h3 L) (oO1 (by decide)) rfl rfl rfl rfl (fun h4 => ?_)
    refine g_aload_n (M := mX4_worthLearning) (pc := 65) 66 dX4_worthLearning_65 rfl rfl rfl ?_
    refine g_getR (M := mX4_worthLearning) (pc := 66) 69 dX4_worthLearning_66 rfl fX4_12 oR24_0 ?_
    refine g_iload_n (M := mX4_worthLearning) (pc := 69) 70 dX4_worthLearning_69 rfl rfl rfl ?_
    refine g_cV_VH (M := mX4_worthLearning) (pc := 70) (M' := mX0_goDays) (rest := []) 73 dX4_worthLearning_70 rfl kX4_22 okX0_goDays (CX0_goDays 2 (by decide) a2 h4 L) (oO0 (by decide)) rfl rfl rfl rfl (fun h5 => ?_)
    refine g_aload_n (M := mX4_worthLearning) (pc := 73) 74 dX4_worthLearning_73 rfl rfl rfl ?_
    refine g_getR (M := mX4_worthLearning) (pc := 74) 77 dX4_worthLearning_74 rfl fX4_12 oR24_0 ?_
    refine g_getI (M := mX4_worthLearning) (pc := 77) 80 dX4_worthLearning_77 rfl fX4_48 (oF0_5 (by decide)) ?_
    refine g_iload_n (M := mX4_worthLearning) (pc := 80) 81 dX4_worthLearning_80 rfl rfl rfl ?_
    refine g_icmp_le (M := mX4_worthLearning) (pc := 81) 96 84 dX4_worthLearning_81 (by decide) rfl (fun _ => ?_) (fun _ => ?_)
    · refine g_iinc (M := mX4_worthLearning) (pc := 96) (c := 1) (ls' := [some (aR 7 24), some (aR g1 0), some (aI a2), some (aI a3), some (aI a4), some (aI (a5 + 1))]) 99 dX4_worthLearning_96 rfl ic1 rfl rfl rfl ?_
      refine g_goto (M := mX4_worthLearning) (pc := 99) 20 dX4_worthLearning_99 (by decide) ?_
      exact g_jmp (fun z => v_fgt [true, true, true, true, true, true] z)
    · refine g_aload_n (M := mX4_worthLearning) (pc := 84) 85 dX4_worthLearning_84 rfl rfl rfl ?_
      refine g_getR (M := mX4_worthLearning) (pc := 85) 88 dX4_worthLearning_85 rfl fX4_12 oR24_0 ?_
      refine g_getI (M := mX4_worthLearning) (pc := 88) 91 dX4_worthLearning_88 rfl fX4_48 (oF0_5 (by decide)) ?_
      refine g_nmI (fun t6 => ?_)
      refine g_istore_n (M := mX4_worthLearning) (pc := 91) (ls' := [some (aR 7 24), some (aR g1 0), some (aI a2), some (aI t6), some (aI a4), some (aI a5)]) 92 dX4_worthLearning_91 rfl rfl rfl rfl ?_
      refine g_iload (M := mX4_worthLearning) (pc := 92) 94 dX4_worthLearning_92 rfl rfl ?_
      refine g_istore (M := mX4_worthLearning) (pc := 94) (ls' := [some (aR 7 24), some (aR g1 0), some (aI a2), some (aI t6), some (aI a5), some (aI a5)]) 96 dX4_worthLearning_94 rfl rfl rfl ?_
      refine g_iinc (M := mX4_worthLearning) (pc := 96) (c := 1) (ls' := [some (aR 7 24), some (aR g1 0), some (aI a2), some (aI t6), some (aI a5), some (aI (a5 + 1))]) 99 dX4_worthLearning_96 rfl ic1 rfl rfl rfl ?_
      refine g_goto (M := mX4_worthLearning) (pc := 99) 20 dX4_worthLearning_99 (by decide) ?_
      exact g_jmp (fun z => v_fgt [true, true, true, true, true, true] z)
set_option maxRecDepth 100000 in
set_option maxHeartbeats 4000000 in
theorem CX4_worthLearning (g1 : Nat) (hg1 : g1 < 3) (a2 : Int32) (h : HI) (L : HL) : CG mX4_worthLearning 6 [aR 7 24, aR g1 0, aI a2] h L (lfIH L) (FX4_worthLearning g1 a2 h) := by
  unfold FX4_worthLearning
  refine cg_of [some (aR 7 24), some (aR g1 0), some (aI a2), none, none, none] rfl (by decide) rfl rfl (fun T => ?_)
  refine g_aload_n (M := mX4_worthLearning) (pc := 0) 1 dX4_worthLearning_0 rfl rfl rfl ?_
  refine g_aload_n (M := mX4_worthLearning) (pc := 1) 2 dX4_worthLearning_1 rfl rfl rfl ?_
  refine g_iload_n (M := mX4_worthLearning) (pc := 2) 3 dX4_worthLearning_2 rfl rfl rfl ?_
  refine g_cV_VH (M := mX4_worthLearning) (pc := 3) (M' := mX4_lookAhead) (rest := []) 6 dX4_worthLearning_3 rfl kX4_30 okX4_lookAhead (CX4_lookAhead g1 hg1 a2 h L) oO24 rfl rfl rfl rfl (fun h1 => ?_)
  refine g_aload_n (M := mX4_worthLearning) (pc := 6) 7 dX4_worthLearning_6 rfl rfl rfl ?_
  refine g_getR (M := mX4_worthLearning) (pc := 7) 10 dX4_worthLearning_7 rfl fX4_12 oR24_0 ?_
  refine g_getI (M := mX4_worthLearning) (pc := 10) 13 dX4_worthLearning_10 rfl fX4_48 (oF0_5 (by decide)) ?_
  refine g_nmI (fun t2 => ?_)
  refine g_istore_n (M := mX4_worthLearning) (pc := 13) (ls' := [some (aR 7 24), some (aR g1 0), some (aI a2), some (aI t2), none, none]) 14 dX4_worthLearning_13 rfl rfl rfl rfl ?_
  refine g_iconst (M := mX4_worthLearning) (pc := 14) (v := (-1)) 15 dX4_worthLearning_14 rfl icm1 ?_
  refine g_istore (M := mX4_worthLearning) (pc := 15) (ls' := [some (aR 7 24), some (aR g1 0), some (aI a2), some (aI t2), some (aI (-1)), none]) 17 dX4_worthLearning_15 rfl rfl rfl ?_
  refine g_iconst (M := mX4_worthLearning) (pc := 17) (v := 0) 18 dX4_worthLearning_17 rfl ic0 ?_
  refine g_istore (M := mX4_worthLearning) (pc := 18) (ls' := [some (aR 7 24), some (aR g1 0), some (aI a2), some (aI t2), some (aI (-1)), some (aI 0)]) 20 dX4_worthLearning_18 rfl rfl rfl ?_
  refine g_loop (fun s => SX4_worthLearning_20_ok g1 hg1 a2 L T s.1 s.2.1 s.2.2.1 s.2.2.2) ?_ (fun z => v_fgt [true, true, true, true, true, true] z)
  rintro ⟨e7, h8⟩
  show VX mX4_worthLearning 6 T _ 102 [none, none, none, none, some (aI e7), none] [] h8 L _
  refine g_iload (M := mX4_worthLearning) (pc := 102) 104 dX4_worthLearning_102 rfl rfl ?_
  exact g_iret (M := mX4_worthLearning) (pc := 104) dX4_worthLearning_104 rfl rfl (fun z => z)
def FX4_scoreByOrder (g1 : Nat) (a2 : Int32) (a3 : Int32) (a4 : Int32) (a5 : Int32) (h : HI) : Option (Int32 × HI) :=
  Option.bind (FX0_takeFrom 2 g1 h) fun h1 =>
  Option.bind (FX3_arrange 2 a2 a3 h1) fun h2 =>
  Option.bind (FX0_spendEvening 2 a4 h2) fun (r3, h4) =>
  Option.bind (FX0_goDays 2 a5 h4) fun h5 =>
  some ((h5 2 0 5), h5)
set_option maxRecDepth 100000 in
set_option maxHeartbeats 4000000 in
theorem CX4_scoreByOrder (g1 : Nat) (hg1 : g1 < 3) (a2 : Int32) (a3 : Int32) (a4 : Int32) (a5 : Int32) (h : HI) (L : HL) : CG mX4_scoreByOrder 5 [aR 7 24, aR g1 0, aI a2, aI a3, aI a4, aI a5] h L (lfIH L) (FX4_scoreByOrder g1 a2 a3 a4 a5 h) := by
  unfold FX4_scoreByOrder
  refine cg_of [some (aR 7 24), some (aR g1 0), some (aI a2), some (aI a3), some (aI a4), some (aI a5)] rfl (by decide) rfl rfl (fun T => ?_)
  refine g_aload_n (M := mX4_scoreByOrder) (pc := 0) 1 dX4_scoreByOrder_0 rfl rfl rfl ?_
  refine g_getR (M := mX4_scoreByOrder) (pc := 1) 4 dX4_scoreByOrder_1 rfl fX4_12 oR24_0 ?_
  refine g_aload_n (M := mX4_scoreByOrder) (pc := 4) 5 dX4_scoreByOrder_4 rfl rfl rfl ?_
  refine g_cV_VH (M := mX4_scoreByOrder) (pc := 5) (M' := mX0_takeFrom) (rest := []) 8 dX4_scoreByOrder_5 rfl kX4_18 okX0_takeFrom (CX0_takeFrom 2 g1 (by decide) hg1 h L) (oO0 (by decide)) rfl rfl rfl rfl (fun h1 => ?_)
  refine g_aload_n (M := mX4_scoreByOrder) (pc := 8) 9 dX4_scoreByOrder_8 rfl rfl rfl ?_
  refine g_getR (M := mX4_scoreByOrder) (pc := 9) 12 dX4_scoreByOrder_9 rfl fX4_12 oR24_0 ?_
  refine g_getR (M := mX4_scoreByOrder) (pc := 12) 15 dX4_scoreByOrder_12 rfl fX4_68 (oR0_2 (by decide)) ?_
  refine g_iload_n (M := mX4_scoreByOrder) (pc := 15) 16 dX4_scoreByOrder_15 rfl rfl rfl ?_
  refine g_iload_n (M := mX4_scoreByOrder) (pc := 16) 17 dX4_scoreByOrder_16 rfl rfl rfl ?_
  refine g_cV_VH (M := mX4_scoreByOrder) (pc := 17) (M' := mX3_arrange) (rest := []) 20 dX4_scoreByOrder_17 rfl kX4_72 okX3_arrange (CX3_arrange 2 (by decide) a2 a3 h1 L) (oO14 (by decide)) rfl rfl rfl rfl (fun h2 => ?_)
  refine g_aload_n (M := mX4_scoreByOrder) (pc := 20) 21 dX4_scoreByOrder_20 rfl rfl rfl ?_
  refine g_getR (M := mX4_scoreByOrder) (pc := 21) 24 dX4_scoreByOrder_21 rfl fX4_12 oR24_0 ?_
  refine g_iload (M := mX4_scoreByOrder) (pc := 24) 26 dX4_scoreByOrder_24 rfl rfl ?_
  refine g_cV_IH (M := mX4_scoreByOrder) (pc := 26) (M' := mX0_spendEvening) (rest := []) 29 dX4_scoreByOrder_26 rfl kX4_75 okX0_spendEvening (CX0_spendEvening 2 (by decide) a4 h2 L) (oO0 (by decide)) rfl rfl rfl rfl (fun r3 h4 => ?_)
  refine g_pop (M := mX4_scoreByOrder) (pc := 29) 30 dX4_scoreByOrder_29 rfl rfl ?_
  refine g_aload_n (M := mX4_scoreByOrder) (pc := 30) 31 dX4_scoreByOrder_30 rfl rfl rfl ?_
  refine g_getR (M := mX4_scoreByOrder) (pc := 31) 34 dX4_scoreByOrder_31 rfl fX4_12 oR24_0 ?_
  refine g_iload (M := mX4_scoreByOrder) (pc := 34) 36 dX4_scoreByOrder_34 rfl rfl ?_
  refine g_cV_VH (M := mX4_scoreByOrder) (pc := 36) (M' := mX0_goDays) (rest := []) 39 dX4_scoreByOrder_36 rfl kX4_22 okX0_goDays (CX0_goDays 2 (by decide) a5 h4 L) (oO0 (by decide)) rfl rfl rfl rfl (fun h5 => ?_)
  refine g_aload_n (M := mX4_scoreByOrder) (pc := 39) 40 dX4_scoreByOrder_39 rfl rfl rfl ?_
  refine g_getR (M := mX4_scoreByOrder) (pc := 40) 43 dX4_scoreByOrder_40 rfl fX4_12 oR24_0 ?_
  refine g_getI (M := mX4_scoreByOrder) (pc := 43) 46 dX4_scoreByOrder_43 rfl fX4_48 (oF0_5 (by decide)) ?_
  exact g_iret (M := mX4_scoreByOrder) (pc := 46) dX4_scoreByOrder_46 rfl rfl (fun z => z)
def SX4_placeOfBestOrder_9 (g1 : Nat) (a2 : Int32) (a3 : Int32) (a4 : Int32) : (Int32 × Int32 × Int32 × HI) → Option ((Int32 × Int32 × Int32 × HI) ⊕ (Int32 × HI))
  | (a5, a6, a7, h) =>
    Option.bind (FX3_arrangements a2 h) fun r1 =>
    if r1 ≤ a7 then
      some (Sum.inr (a6, h))
    else
      Option.bind (FX4_scoreByOrder g1 a2 a7 a3 a4 h) fun (r2, h3) =>
      if r2 ≤ a5 then
        some (Sum.inl (a5, a6, (a7 + 1), h3))
      else
        some (Sum.inl (r2, a7, (a7 + 1), h3))
def FX4_placeOfBestOrder (g1 : Nat) (a2 : Int32) (a3 : Int32) (a4 : Int32) (h : HI) : Option (Int32 × HI) :=
  Option.bind (loopN (SX4_placeOfBestOrder_9 g1 a2 a3 a4) FU ((-1), 0, 0, h)) fun (e4, h5) =>
    some (e4, h5)
set_option maxRecDepth 100000 in
set_option maxHeartbeats 4000000 in
theorem SX4_placeOfBestOrder_9_ok (g1 : Nat) (hg1 : g1 < 3) (a2 : Int32) (a3 : Int32) (a4 : Int32) (L : HL) (T : ZT) (a5 : Int32) (a6 : Int32) (a7 : Int32) (h : HI) : VX mX4_placeOfBestOrder 6 T (gS (fun s : Int32 × Int32 × Int32 × HI => V mX4_placeOfBestOrder 6 T 9 [some (aR 7 24), some (aR g1 0), some (aI a2), some (aI a3), some (aI a4), some (aI (s.1)), some (aI (s.2.1)), some (aI (s.2.2.1)), none] [] (s.2.2.2) L) (fun s : Int32 × HI => V mX4_placeOfBestOrder 6 T 52 [none, none, none, none, none, none, some (aI (s.1)), none, none] [] (s.2) L)) 9 [some (aR 7 24), some (aR g1 0), some (aI a2), some (aI a3), some (aI a4), some (aI a5), some (aI a6), some (aI a7), none] [] h L (SX4_placeOfBestOrder_9 g1 a2 a3 a4 (a5, a6, a7, h)) := by
  unfold SX4_placeOfBestOrder_9
  refine g_iload (M := mX4_placeOfBestOrder) (pc := 9) 11 dX4_placeOfBestOrder_9 rfl rfl ?_
  refine g_iload_n (M := mX4_placeOfBestOrder) (pc := 11) 12 dX4_placeOfBestOrder_11 rfl rfl rfl ?_
  refine g_cS_I (M := mX4_placeOfBestOrder) (pc := 12) (M' := mX3_arrangements) (rest := [aI a7]) 15 dX4_placeOfBestOrder_12 rfl kX4_58 okX3_arrangements (CX3_arrangements a2 h L) rfl rfl rfl rfl (fun r1 => ?_)
  refine g_icmp_ge (M := mX4_placeOfBestOrder) (pc := 15) 52 18 dX4_placeOfBestOrder_15 (by decide) rfl (fun _ => ?_) (fun _ => ?_)
  · exact g_jmp (fun z => v_fgt [false, false, false, false, false, false, true, false, false] z)
  · refine g_aload_n (M := mX4_placeOfBestOrder) (pc := 18) 19 dX4_placeOfBestOrder_18 rfl rfl rfl ?_
    refine g_aload_n (M := mX4_placeOfBestOrder) (pc := 19) 20 dX4_placeOfBestOrder_19 rfl rfl rfl ?_
    refine g_iload_n (M := mX4_placeOfBestOrder) (pc := 20) 21 dX4_placeOfBestOrder_20 rfl rfl rfl ?_
    refine g_iload (M := mX4_placeOfBestOrder) (pc := 21) 23 dX4_placeOfBestOrder_21 rfl rfl ?_
    refine g_iload_n (M := mX4_placeOfBestOrder) (pc := 23) 24 dX4_placeOfBestOrder_23 rfl rfl rfl ?_
    refine g_iload (M := mX4_placeOfBestOrder) (pc := 24) 26 dX4_placeOfBestOrder_24 rfl rfl ?_
    refine g_cV_IH (M := mX4_placeOfBestOrder) (pc := 26) (M' := mX4_scoreByOrder) (rest := []) 29 dX4_placeOfBestOrder_26 rfl kX4_64 okX4_scoreByOrder (CX4_scoreByOrder g1 hg1 a2 a7 a3 a4 h L) oO24 rfl rfl rfl rfl (fun r2 h3 => ?_)
    refine g_istore (M := mX4_placeOfBestOrder) (pc := 29) (ls' := [some (aR 7 24), some (aR g1 0), some (aI a2), some (aI a3), some (aI a4), some (aI a5), some (aI a6), some (aI a7), some (aI r2)]) 31 dX4_placeOfBestOrder_29 rfl rfl rfl ?_
    refine g_iload (M := mX4_placeOfBestOrder) (pc := 31) 33 dX4_placeOfBestOrder_31 rfl rfl ?_
    refine g_iload (M := mX4_placeOfBestOrder) (pc := 33) 35 dX4_placeOfBestOrder_33 rfl rfl ?_
    refine g_icmp_le (M := mX4_placeOfBestOrder) (pc := 35) 46 38 dX4_placeOfBestOrder_35 (by decide) rfl (fun _ => ?_) (fun _ => ?_)
    · refine g_iinc (M := mX4_placeOfBestOrder) (pc := 46) (c := 1) (ls' := [some (aR 7 24), some (aR g1 0), some (aI a2), some (aI a3), some (aI a4), some (aI a5), some (aI a6), some (aI (a7 + 1)), some (aI r2)]) 49 dX4_placeOfBestOrder_46 rfl ic1 rfl rfl rfl ?_
      refine g_goto (M := mX4_placeOfBestOrder) (pc := 49) 9 dX4_placeOfBestOrder_49 (by decide) ?_
      exact g_jmp (fun z => v_fgt [true, true, true, true, true, true, true, true, false] z)
    · refine g_iload (M := mX4_placeOfBestOrder) (pc := 38) 40 dX4_placeOfBestOrder_38 rfl rfl ?_
      refine g_istore (M := mX4_placeOfBestOrder) (pc := 40) (ls' := [some (aR 7 24), some (aR g1 0), some (aI a2), some (aI a3), some (aI a4), some (aI r2), some (aI a6), some (aI a7), some (aI r2)]) 42 dX4_placeOfBestOrder_40 rfl rfl rfl ?_
      refine g_iload (M := mX4_placeOfBestOrder) (pc := 42) 44 dX4_placeOfBestOrder_42 rfl rfl ?_
      refine g_istore (M := mX4_placeOfBestOrder) (pc := 44) (ls' := [some (aR 7 24), some (aR g1 0), some (aI a2), some (aI a3), some (aI a4), some (aI r2), some (aI a7), some (aI a7), some (aI r2)]) 46 dX4_placeOfBestOrder_44 rfl rfl rfl ?_
      refine g_iinc (M := mX4_placeOfBestOrder) (pc := 46) (c := 1) (ls' := [some (aR 7 24), some (aR g1 0), some (aI a2), some (aI a3), some (aI a4), some (aI r2), some (aI a7), some (aI (a7 + 1)), some (aI r2)]) 49 dX4_placeOfBestOrder_46 rfl ic1 rfl rfl rfl ?_
      refine g_goto (M := mX4_placeOfBestOrder) (pc := 49) 9 dX4_placeOfBestOrder_49 (by decide) ?_
      exact g_jmp (fun z => v_fgt [true, true, true, true, true, true, true, true, false] z)
set_option maxRecDepth 100000 in
set_option maxHeartbeats 4000000 in
theorem CX4_placeOfBestOrder (g1 : Nat) (hg1 : g1 < 3) (a2 : Int32) (a3 : Int32) (a4 : Int32) (h : HI) (L : HL) : CG mX4_placeOfBestOrder 6 [aR 7 24, aR g1 0, aI a2, aI a3, aI a4] h L (lfIH L) (FX4_placeOfBestOrder g1 a2 a3 a4 h) := by
  unfold FX4_placeOfBestOrder
  refine cg_of [some (aR 7 24), some (aR g1 0), some (aI a2), some (aI a3), some (aI a4), none, none, none, none] rfl (by decide) rfl rfl (fun T => ?_)
  refine g_iconst (M := mX4_placeOfBestOrder) (pc := 0) (v := (-1)) 1 dX4_placeOfBestOrder_0 rfl icm1 ?_
  refine g_istore (M := mX4_placeOfBestOrder) (pc := 1) (ls' := [some (aR 7 24), some (aR g1 0), some (aI a2), some (aI a3), some (aI a4), some (aI (-1)), none, none, none]) 3 dX4_placeOfBestOrder_1 rfl rfl rfl ?_
  refine g_iconst (M := mX4_placeOfBestOrder) (pc := 3) (v := 0) 4 dX4_placeOfBestOrder_3 rfl ic0 ?_
  refine g_istore (M := mX4_placeOfBestOrder) (pc := 4) (ls' := [some (aR 7 24), some (aR g1 0), some (aI a2), some (aI a3), some (aI a4), some (aI (-1)), some (aI 0), none, none]) 6 dX4_placeOfBestOrder_4 rfl rfl rfl ?_
  refine g_iconst (M := mX4_placeOfBestOrder) (pc := 6) (v := 0) 7 dX4_placeOfBestOrder_6 rfl ic0 ?_
  refine g_istore (M := mX4_placeOfBestOrder) (pc := 7) (ls' := [some (aR 7 24), some (aR g1 0), some (aI a2), some (aI a3), some (aI a4), some (aI (-1)), some (aI 0), some (aI 0), none]) 9 dX4_placeOfBestOrder_7 rfl rfl rfl ?_
  refine g_loop (fun s => SX4_placeOfBestOrder_9_ok g1 hg1 a2 a3 a4 L T s.1 s.2.1 s.2.2.1 s.2.2.2) ?_ (fun z => v_fgt [true, true, true, true, true, true, true, true, false] z)
  rintro ⟨e4, h5⟩
  show VX mX4_placeOfBestOrder 6 T _ 52 [none, none, none, none, none, none, some (aI e4), none, none] [] h5 L _
  refine g_iload (M := mX4_placeOfBestOrder) (pc := 52) 54 dX4_placeOfBestOrder_52 rfl rfl ?_
  exact g_iret (M := mX4_placeOfBestOrder) (pc := 54) dX4_placeOfBestOrder_54 rfl rfl (fun z => z)
def FX6_at (a1 : Int32) (a2 : Int32) (L : HL) : Option (Int64) :=
  gd (ixb ((a1 * 40) + a2) 160) <|
  some (L 6 31 (nC ((a1 * 40) + a2)))
set_option maxRecDepth 100000 in
set_option maxHeartbeats 4000000 in
theorem CX6_at (a1 : Int32) (a2 : Int32) (h : HI) (L : HL) : CG mX6_at 0 [aR 6 28, aI a1, aI a2] h L (lfJ h L) (FX6_at a1 a2 L) := by
  unfold FX6_at
  refine cg_of [some (aR 6 28), some (aI a1), some (aI a2)] rfl (by decide) rfl rfl (fun T => ?_)
  refine g_aload_n (M := mX6_at) (pc := 0) 1 dX6_at_0 rfl rfl rfl ?_
  refine g_getR (M := mX6_at) (pc := 1) 4 dX6_at_1 rfl fX6_16 oR28_2 ?_
  refine g_iload_n (M := mX6_at) (pc := 4) 5 dX6_at_4 rfl rfl rfl ?_
  refine g_bipush (M := mX6_at) (pc := 5) (v := 40) 7 dX6_at_5 rfl bp40 ?_
  refine g_imul (M := mX6_at) (pc := 7) 8 dX6_at_7 rfl ?_
  refine g_iload_n (M := mX6_at) (pc := 8) 9 dX6_at_8 rfl rfl rfl ?_
  refine g_iadd (M := mX6_at) (pc := 9) 10 dX6_at_9 rfl ?_
  refine g_lald (M := mX6_at) (pc := 10) 11 dX6_at_10 rfl oA31 ?_
  exact g_lret (M := mX6_at) (pc := 11) dX6_at_11 rfl (fun z => z)
def SX4_firstWrong_11 (g1 : Nat) (a3 : Int32) (L : HL) : (Int32 × HI) → Option ((Int32 × HI) ⊕ (Int32 × HI))
  | (a4, h) =>
    gd (ixb a3 4) <|
    if (h 6 30 (nC a3)) ≤ a4 then
      some (Sum.inr (0, h))
    else
      Option.bind (FX6_at a3 a4 L) fun r2 =>
      if (lg_cmp r2 (Int32.toInt64 (h 2 0 5))) = 0 then
        Option.bind (FX0_goDays 2 1 h) fun h3 =>
        some (Sum.inl ((a4 + 1), h3))
      else
        some (Sum.inr ((1 + a4), h))
def FX4_firstWrong (g1 : Nat) (a3 : Int32) (h : HI) (L : HL) : Option (Int32 × HI) :=
  Option.bind (FX0_takeFrom 2 g1 h) fun h1 =>
  Option.bind (loopN (SX4_firstWrong_11 g1 a3 L) FU (0, h1)) fun r => some r
set_option maxRecDepth 100000 in
set_option maxHeartbeats 4000000 in
theorem SX4_firstWrong_11_ok (g1 : Nat) (hg1 : g1 < 3) (a3 : Int32) (L : HL) (T : ZT) (a4 : Int32) (h : HI) : VX mX4_firstWrong 5 T (gS (fun s : Int32 × HI => V mX4_firstWrong 5 T 11 [some (aR 7 24), none, some (aR 6 28), some (aI a3), some (aI (s.1))] [] (s.2) L) (fun r => Zl (lfIH L) r = T)) 11 [some (aR 7 24), none, some (aR 6 28), some (aI a3), some (aI a4)] [] h L (SX4_firstWrong_11 g1 a3 L (a4, h)) := by
  unfold SX4_firstWrong_11
  refine g_iload (M := mX4_firstWrong) (pc := 11) 13 dX4_firstWrong_11 rfl rfl ?_
  refine g_aload_n (M := mX4_firstWrong) (pc := 13) 14 dX4_firstWrong_13 rfl rfl rfl ?_
  refine g_getR (M := mX4_firstWrong) (pc := 14) 17 dX4_firstWrong_14 rfl fX4_78 oR28_1 ?_
  refine g_iload_n (M := mX4_firstWrong) (pc := 17) 18 dX4_firstWrong_17 rfl rfl rfl ?_
  refine g_iald (M := mX4_firstWrong) (pc := 18) 19 dX4_firstWrong_18 rfl oA30 ?_
  refine g_icmp_ge (M := mX4_firstWrong) (pc := 19) 60 22 dX4_firstWrong_19 (by decide) rfl (fun _ => ?_) (fun _ => ?_)
  · refine g_iconst (M := mX4_firstWrong) (pc := 60) (v := 0) 61 dX4_firstWrong_60 rfl ic0 ?_
    exact g_iret (M := mX4_firstWrong) (pc := 61) dX4_firstWrong_61 rfl rfl (fun z => z)
  · refine g_aload_n (M := mX4_firstWrong) (pc := 22) 23 dX4_firstWrong_22 rfl rfl rfl ?_
    refine g_iload_n (M := mX4_firstWrong) (pc := 23) 24 dX4_firstWrong_23 rfl rfl rfl ?_
    refine g_iload (M := mX4_firstWrong) (pc := 24) 26 dX4_firstWrong_24 rfl rfl ?_
    refine g_cV_J (M := mX4_firstWrong) (pc := 26) (M' := mX6_at) (rest := []) 29 dX4_firstWrong_26 rfl kX4_82 okX6_at (CX6_at a3 a4 h L) oO28 rfl rfl rfl rfl (fun r2 => ?_)
    refine g_aload_n (M := mX4_firstWrong) (pc := 29) 30 dX4_firstWrong_29 rfl rfl rfl ?_
    refine g_getR (M := mX4_firstWrong) (pc := 30) 33 dX4_firstWrong_30 rfl fX4_12 oR24_0 ?_
    refine g_getI (M := mX4_firstWrong) (pc := 33) 36 dX4_firstWrong_33 rfl fX4_48 (oF0_5 (by decide)) ?_
    refine g_i2l (M := mX4_firstWrong) (pc := 36) 37 dX4_firstWrong_36 rfl ?_
    refine g_lcmp (M := mX4_firstWrong) (pc := 37) 38 dX4_firstWrong_37 rfl ?_
    refine g_if_eq (M := mX4_firstWrong) (pc := 38) 46 41 dX4_firstWrong_38 (by decide) rfl (fun _ => ?_) (fun _ => ?_)
    · refine g_aload_n (M := mX4_firstWrong) (pc := 46) 47 dX4_firstWrong_46 rfl rfl rfl ?_
      refine g_getR (M := mX4_firstWrong) (pc := 47) 50 dX4_firstWrong_47 rfl fX4_12 oR24_0 ?_
      refine g_iconst (M := mX4_firstWrong) (pc := 50) (v := 1) 51 dX4_firstWrong_50 rfl ic1 ?_
      refine g_cV_VH (M := mX4_firstWrong) (pc := 51) (M' := mX0_goDays) (rest := []) 54 dX4_firstWrong_51 rfl kX4_22 okX0_goDays (CX0_goDays 2 (by decide) 1 h L) (oO0 (by decide)) rfl rfl rfl rfl (fun h3 => ?_)
      refine g_iinc (M := mX4_firstWrong) (pc := 54) (c := 1) (ls' := [some (aR 7 24), none, some (aR 6 28), some (aI a3), some (aI (a4 + 1))]) 57 dX4_firstWrong_54 rfl ic1 rfl rfl rfl ?_
      refine g_goto (M := mX4_firstWrong) (pc := 57) 11 dX4_firstWrong_57 (by decide) ?_
      exact g_jmp (fun z => v_fgt [true, false, true, true, true] z)
    · refine g_iconst (M := mX4_firstWrong) (pc := 41) (v := 1) 42 dX4_firstWrong_41 rfl ic1 ?_
      refine g_iload (M := mX4_firstWrong) (pc := 42) 44 dX4_firstWrong_42 rfl rfl ?_
      refine g_iadd (M := mX4_firstWrong) (pc := 44) 45 dX4_firstWrong_44 rfl ?_
      exact g_iret (M := mX4_firstWrong) (pc := 45) dX4_firstWrong_45 rfl rfl (fun z => z)
set_option maxRecDepth 100000 in
set_option maxHeartbeats 4000000 in
theorem CX4_firstWrong (g1 : Nat) (hg1 : g1 < 3) (a3 : Int32) (h : HI) (L : HL) : CG mX4_firstWrong 5 [aR 7 24, aR g1 0, aR 6 28, aI a3] h L (lfIH L) (FX4_firstWrong g1 a3 h L) := by
  unfold FX4_firstWrong
  refine cg_of [some (aR 7 24), some (aR g1 0), some (aR 6 28), some (aI a3), none] rfl (by decide) rfl rfl (fun T => ?_)
  refine g_aload_n (M := mX4_firstWrong) (pc := 0) 1 dX4_firstWrong_0 rfl rfl rfl ?_
  refine g_getR (M := mX4_firstWrong) (pc := 1) 4 dX4_firstWrong_1 rfl fX4_12 oR24_0 ?_
  refine g_aload_n (M := mX4_firstWrong) (pc := 4) 5 dX4_firstWrong_4 rfl rfl rfl ?_
  refine g_cV_VH (M := mX4_firstWrong) (pc := 5) (M' := mX0_takeFrom) (rest := []) 8 dX4_firstWrong_5 rfl kX4_18 okX0_takeFrom (CX0_takeFrom 2 g1 (by decide) hg1 h L) (oO0 (by decide)) rfl rfl rfl rfl (fun h1 => ?_)
  refine g_iconst (M := mX4_firstWrong) (pc := 8) (v := 0) 9 dX4_firstWrong_8 rfl ic0 ?_
  refine g_istore (M := mX4_firstWrong) (pc := 9) (ls' := [some (aR 7 24), some (aR g1 0), some (aR 6 28), some (aI a3), some (aI 0)]) 11 dX4_firstWrong_9 rfl rfl rfl ?_
  exact g_loop (fun s => SX4_firstWrong_11_ok g1 hg1 a3 L T s.1 s.2) (fun e b z1 z2 => by cases z1; exact z2) (fun z => v_fgt [true, false, true, true, true] z)
def FX5_row (g : Nat) (a1 : Int32) : Option (Nat) :=
  if a1 = 0 then
    some 2
  else
  if a1 = 1 then
    some 3
  else
  if a1 = 2 then
    some 4
  else
  if a1 = 3 then
    some 5
  else
  if a1 = 4 then
    some 6
  else
  some 7
set_option maxRecDepth 100000 in
set_option maxHeartbeats 4000000 in
theorem CX5_row (g : Nat) (hg : g < 3) (a1 : Int32) (h : HI) (L : HL) : CG mX5_row 0 [aR g 1, aI a1] h L (lfR g h L) (FX5_row g a1) := by
  unfold FX5_row
  refine cg_of [some (aR g 1), some (aI a1)] rfl (by decide) rfl rfl (fun T => ?_)
  refine g_iload_n (M := mX5_row) (pc := 0) 1 dX5_row_0 rfl rfl rfl ?_
  refine g_tsc (M := mX5_row) (pc := 1) (v := 0) 36 dX5_row_1 (by decide) (by decide) rfl (by decide) (fun _ => ?_) (fun z0 => ?_)
  · refine g_aload_n (M := mX5_row) (pc := 36) 37 dX5_row_36 rfl rfl rfl ?_
    refine g_getR (M := mX5_row) (pc := 37) 40 dX5_row_37 rfl fX5_9 (oR1_0 hg) ?_
    exact g_aret (M := mX5_row) (pc := 40) dX5_row_40 rfl (fun z => z)
  refine g_tsc (M := mX5_row) (pc := 1) (v := 1) 41 dX5_row_1 (by decide) (by decide) rfl (by decide) (fun _ => ?_) (fun z1 => ?_)
  · refine g_aload_n (M := mX5_row) (pc := 41) 42 dX5_row_41 rfl rfl rfl ?_
    refine g_getR (M := mX5_row) (pc := 42) 45 dX5_row_42 rfl fX5_15 (oR1_1 hg) ?_
    exact g_aret (M := mX5_row) (pc := 45) dX5_row_45 rfl (fun z => z)
  refine g_tsc (M := mX5_row) (pc := 1) (v := 2) 46 dX5_row_1 (by decide) (by decide) rfl (by decide) (fun _ => ?_) (fun z2 => ?_)
  · refine g_aload_n (M := mX5_row) (pc := 46) 47 dX5_row_46 rfl rfl rfl ?_
    refine g_getR (M := mX5_row) (pc := 47) 50 dX5_row_47 rfl fX5_18 (oR1_2 hg) ?_
    exact g_aret (M := mX5_row) (pc := 50) dX5_row_50 rfl (fun z => z)
  refine g_tsc (M := mX5_row) (pc := 1) (v := 3) 51 dX5_row_1 (by decide) (by decide) rfl (by decide) (fun _ => ?_) (fun z3 => ?_)
  · refine g_aload_n (M := mX5_row) (pc := 51) 52 dX5_row_51 rfl rfl rfl ?_
    refine g_getR (M := mX5_row) (pc := 52) 55 dX5_row_52 rfl fX5_21 (oR1_3 hg) ?_
    exact g_aret (M := mX5_row) (pc := 55) dX5_row_55 rfl (fun z => z)
  refine g_tsc (M := mX5_row) (pc := 1) (v := 4) 56 dX5_row_1 (by decide) (by decide) rfl (by decide) (fun _ => ?_) (fun z4 => ?_)
  · refine g_aload_n (M := mX5_row) (pc := 56) 57 dX5_row_56 rfl rfl rfl ?_
    refine g_getR (M := mX5_row) (pc := 57) 60 dX5_row_57 rfl fX5_24 (oR1_4 hg) ?_
    exact g_aret (M := mX5_row) (pc := 60) dX5_row_60 rfl (fun z => z)
  refine g_tsOut (M := mX5_row) (pc := 1) 61 dX5_row_1 (by have y0 := lv_neT z0 (a := 0) rfl; have y1 := lv_neT z1 (a := 1) rfl; have y2 := lv_neT z2 (a := 2) rfl; have y3 := lv_neT z3 (a := 3) rfl; have y4 := lv_neT z4 (a := 4) rfl; omega) (by decide) ?_
  refine g_aload_n (M := mX5_row) (pc := 61) 62 dX5_row_61 rfl rfl rfl ?_
  refine g_getR (M := mX5_row) (pc := 62) 65 dX5_row_62 rfl fX5_27 (oR1_5 hg) ?_
  exact g_aret (M := mX5_row) (pc := 65) dX5_row_65 rfl (fun z => z)
