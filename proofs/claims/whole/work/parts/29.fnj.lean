-- functions of the methods and their contracts, by program (wip/whole/dec.py): X10_book X10_isOne X10_sheet X10_narrowed X10_wrong X10_write X10_copy X10_lays X10_read X10_image X10_undo X10_tear X10_count X10_status
def SX10_book_24 : (Int32 × HI) → Option ((Int32 × HI) ⊕ (Int32 × HI))
  | (a1, h) =>
    if (h 8 32 16) = 0 then
      if (h 8 32 12) ≤ (h 8 32 13) then
        some (Sum.inr (a1, h))
      else
        Option.bind (FX10_byteAt (h 8 32 13) h) fun r6 =>
        if r6 = 59 then
          Option.bind (FX10_needs 1 h) fun h9 =>
          Option.bind (FX10_item h9) fun h10 =>
          some (Sum.inl ((a1 + 1), h10))
        else
          Option.bind (FX10_needs 0 h) fun h7 =>
          Option.bind (FX10_item h7) fun h8 =>
          some (Sum.inl ((a1 + 1), h8))
    else
      some (Sum.inr (a1, h))
def JX10_book_74 (a1 : Int32) (h : HI) : Option (Int32 × HI) :=
  nm (hP1 h 8 32 12 0) fun h13 =>
  if (h13 8 32 16) = 0 then
    some (a1, h13)
  else
    Option.bind (FX10_putsBack h13) fun h14 =>
    some (((-1) - (h14 8 32 13)), h14)
def FX10_book (h : HI) : Option (Int32 × HI) :=
  Option.bind (FX10_puts h) fun h1 =>
  nm (hP1 h1 8 32 14 0) fun h2 =>
  nm (hP1 h2 8 32 16 0) fun h3 =>
  Option.bind (FX10_token h3) fun h4 =>
  Option.bind (FX10_item h4) fun h5 =>
  Option.bind (loopN (SX10_book_24) FU (1, h5)) fun (e11, h12) =>
    JX10_book_74 e11 h12
set_option maxRecDepth 100000 in
set_option maxHeartbeats 4000000 in
theorem SX10_book_24_ok (L : HL) (T : ZT) (a1 : Int32) (h : HI) : VX mX10_book 8 T (gS (fun s : Int32 × HI => V mX10_book 8 T 24 [some (aR 8 32), some (aI (s.1))] [] (s.2) L) (fun s : Int32 × HI => V mX10_book 8 T 74 [some (aR 8 32), some (aI (s.1))] [] (s.2) L)) 24 [some (aR 8 32), some (aI a1)] [] h L (SX10_book_24 (a1, h)) := by
  unfold SX10_book_24
  refine g_aload_n (M := mX10_book) (pc := 24) 25 dX10_book_24 rfl rfl rfl ?_
  refine g_getI (M := mX10_book) (pc := 25) 28 dX10_book_25 rfl fX10_245 oF32_16 ?_
  refine g_if_ne (M := mX10_book) (pc := 28) 74 31 dX10_book_28 (by decide) rfl (fun _ => ?_) (fun _ => ?_)
  · exact g_jmp (fun z => v_fgt [true, true] z)
  · refine g_aload_n (M := mX10_book) (pc := 31) 32 dX10_book_31 rfl rfl rfl ?_
    refine g_getI (M := mX10_book) (pc := 32) 35 dX10_book_32 rfl fX10_233 oF32_13 ?_
    refine g_aload_n (M := mX10_book) (pc := 35) 36 dX10_book_35 rfl rfl rfl ?_
    refine g_getI (M := mX10_book) (pc := 36) 39 dX10_book_36 rfl fX10_219 oF32_12 ?_
    refine g_icmp_ge (M := mX10_book) (pc := 39) 74 42 dX10_book_39 (by decide) rfl (fun _ => ?_) (fun _ => ?_)
    · exact g_jmp (fun z => v_fgt [true, true] z)
    · refine g_aload_n (M := mX10_book) (pc := 42) 43 dX10_book_42 rfl rfl rfl ?_
      refine g_aload_n (M := mX10_book) (pc := 43) 44 dX10_book_43 rfl rfl rfl ?_
      refine g_aload_n (M := mX10_book) (pc := 44) 45 dX10_book_44 rfl rfl rfl ?_
      refine g_getI (M := mX10_book) (pc := 45) 48 dX10_book_45 rfl fX10_233 oF32_13 ?_
      refine g_cV_I (M := mX10_book) (pc := 48) (M' := mX10_byteAt) (rest := [aR 8 32]) 51 dX10_book_48 rfl kX10_236 okX10_byteAt (CX10_byteAt (h 8 32 13) h L) oO32 rfl rfl rfl rfl (fun r6 => ?_)
      refine g_bipush (M := mX10_book) (pc := 51) (v := 59) 53 dX10_book_51 rfl bp59 ?_
      refine g_icmp_ne (M := mX10_book) (pc := 53) 60 56 dX10_book_53 (by decide) rfl (fun _ => ?_) (fun _ => ?_)
      · refine g_iconst (M := mX10_book) (pc := 60) (v := 0) 61 dX10_book_60 rfl ic0 ?_
        refine g_cV_VH (M := mX10_book) (pc := 61) (M' := mX10_needs) (rest := []) 64 dX10_book_61 rfl kX10_259 okX10_needs (CX10_needs 0 h L) oO32 rfl rfl rfl rfl (fun h7 => ?_)
        refine g_aload_n (M := mX10_book) (pc := 64) 65 dX10_book_64 rfl rfl rfl ?_
        refine g_cV_VH (M := mX10_book) (pc := 65) (M' := mX10_item) (rest := []) 68 dX10_book_65 rfl kX10_318 okX10_item (CX10_item h7 L) oO32 rfl rfl rfl rfl (fun h8 => ?_)
        refine g_iinc (M := mX10_book) (pc := 68) (c := 1) (ls' := [some (aR 8 32), some (aI (a1 + 1))]) 71 dX10_book_68 rfl ic1 rfl rfl rfl ?_
        refine g_goto (M := mX10_book) (pc := 71) 24 dX10_book_71 (by decide) ?_
        exact g_jmp (fun z => v_fgt [true, true] z)
      · refine g_iconst (M := mX10_book) (pc := 56) (v := 1) 57 dX10_book_56 rfl ic1 ?_
        refine g_goto (M := mX10_book) (pc := 57) 61 dX10_book_57 (by decide) ?_
        refine g_cV_VH (M := mX10_book) (pc := 61) (M' := mX10_needs) (rest := []) 64 dX10_book_61 rfl kX10_259 okX10_needs (CX10_needs 1 h L) oO32 rfl rfl rfl rfl (fun h9 => ?_)
        refine g_aload_n (M := mX10_book) (pc := 64) 65 dX10_book_64 rfl rfl rfl ?_
        refine g_cV_VH (M := mX10_book) (pc := 65) (M' := mX10_item) (rest := []) 68 dX10_book_65 rfl kX10_318 okX10_item (CX10_item h9 L) oO32 rfl rfl rfl rfl (fun h10 => ?_)
        refine g_iinc (M := mX10_book) (pc := 68) (c := 1) (ls' := [some (aR 8 32), some (aI (a1 + 1))]) 71 dX10_book_68 rfl ic1 rfl rfl rfl ?_
        refine g_goto (M := mX10_book) (pc := 71) 24 dX10_book_71 (by decide) ?_
        exact g_jmp (fun z => v_fgt [true, true] z)
set_option maxRecDepth 100000 in
set_option maxHeartbeats 4000000 in
theorem JX10_book_74_ok (a1 : Int32) (T : ZT) (h : HI) (L : HL) : VX mX10_book 8 T (fun r => Zl (lfIH L) r = T) 74 [some (aR 8 32), some (aI a1)] [] h L (JX10_book_74 a1 h) := by
  unfold JX10_book_74
  refine g_aload_n (M := mX10_book) (pc := 74) 75 dX10_book_74 rfl rfl rfl ?_
  refine g_iconst (M := mX10_book) (pc := 75) (v := 0) 76 dX10_book_75 rfl ic0 ?_
  refine g_put (M := mX10_book) (pc := 76) 79 dX10_book_76 rfl pX10_219 oF32_12 rfl rfl (fun h13 => ?_)
  refine g_aload_n (M := mX10_book) (pc := 79) 80 dX10_book_79 rfl rfl rfl ?_
  refine g_getI (M := mX10_book) (pc := 80) 83 dX10_book_80 rfl fX10_245 oF32_16 ?_
  refine g_if_eq (M := mX10_book) (pc := 83) 97 86 dX10_book_83 (by decide) rfl (fun _ => ?_) (fun _ => ?_)
  · refine g_iload_n (M := mX10_book) (pc := 97) 98 dX10_book_97 rfl rfl rfl ?_
    exact g_iret (M := mX10_book) (pc := 98) dX10_book_98 rfl rfl (fun z => z)
  · refine g_aload_n (M := mX10_book) (pc := 86) 87 dX10_book_86 rfl rfl rfl ?_
    refine g_cV_VH (M := mX10_book) (pc := 87) (M' := mX10_putsBack) (rest := []) 90 dX10_book_87 rfl kX10_194 okX10_putsBack (CX10_putsBack h13 L) oO32 rfl rfl rfl rfl (fun h14 => ?_)
    refine g_iconst (M := mX10_book) (pc := 90) (v := (-1)) 91 dX10_book_90 rfl icm1 ?_
    refine g_aload_n (M := mX10_book) (pc := 91) 92 dX10_book_91 rfl rfl rfl ?_
    refine g_getI (M := mX10_book) (pc := 92) 95 dX10_book_92 rfl fX10_233 oF32_13 ?_
    refine g_isub (M := mX10_book) (pc := 95) 96 dX10_book_95 rfl ?_
    exact g_iret (M := mX10_book) (pc := 96) dX10_book_96 rfl rfl (fun z => z)
set_option maxRecDepth 100000 in
set_option maxHeartbeats 4000000 in
theorem CX10_book (h : HI) (L : HL) : CG mX10_book 8 [aR 8 32] h L (lfIH L) (FX10_book h) := by
  unfold FX10_book
  refine cg_of [some (aR 8 32), none] rfl (by decide) rfl rfl (fun T => ?_)
  refine g_aload_n (M := mX10_book) (pc := 0) 1 dX10_book_0 rfl rfl rfl ?_
  refine g_cV_VH (M := mX10_book) (pc := 1) (M' := mX10_puts) (rest := []) 4 dX10_book_1 rfl kX10_188 okX10_puts (CX10_puts h L) oO32 rfl rfl rfl rfl (fun h1 => ?_)
  refine g_aload_n (M := mX10_book) (pc := 4) 5 dX10_book_4 rfl rfl rfl ?_
  refine g_iconst (M := mX10_book) (pc := 5) (v := 0) 6 dX10_book_5 rfl ic0 ?_
  refine g_put (M := mX10_book) (pc := 6) 9 dX10_book_6 rfl pX10_230 oF32_14 rfl rfl (fun h2 => ?_)
  refine g_aload_n (M := mX10_book) (pc := 9) 10 dX10_book_9 rfl rfl rfl ?_
  refine g_iconst (M := mX10_book) (pc := 10) (v := 0) 11 dX10_book_10 rfl ic0 ?_
  refine g_put (M := mX10_book) (pc := 11) 14 dX10_book_11 rfl pX10_245 oF32_16 nz0 fz0 (fun h3 => ?_)
  refine g_aload_n (M := mX10_book) (pc := 14) 15 dX10_book_14 rfl rfl rfl ?_
  refine g_cV_VH (M := mX10_book) (pc := 15) (M' := mX10_token) (rest := []) 18 dX10_book_15 rfl kX10_249 okX10_token (CX10_token h3 L) oO32 rfl rfl rfl rfl (fun h4 => ?_)
  refine g_iconst (M := mX10_book) (pc := 18) (v := 1) 19 dX10_book_18 rfl ic1 ?_
  refine g_istore_n (M := mX10_book) (pc := 19) (ls' := [some (aR 8 32), some (aI 1)]) 20 dX10_book_19 rfl rfl rfl rfl ?_
  refine g_aload_n (M := mX10_book) (pc := 20) 21 dX10_book_20 rfl rfl rfl ?_
  refine g_cV_VH (M := mX10_book) (pc := 21) (M' := mX10_item) (rest := []) 24 dX10_book_21 rfl kX10_318 okX10_item (CX10_item h4 L) oO32 rfl rfl rfl rfl (fun h5 => ?_)
  refine g_loop (fun s => SX10_book_24_ok L T s.1 s.2) ?_ (fun z => v_fgt [true, true] z)
  rintro ⟨e11, h12⟩
  show VX mX10_book 8 T _ 74 [some (aR 8 32), some (aI e11)] [] h12 L _
  exact g_fgt [true, true] (JX10_book_74_ok e11 T h12 L)
def FX10_isOne (a0 : Int32) : Option (Int32) :=
  Option.bind (FX10_in (Int32.toInt64 a0) 0 3) fun r1 =>
  gd (isB r1) (some r1)
set_option maxRecDepth 100000 in
set_option maxHeartbeats 4000000 in
theorem CX10_isOne (a0 : Int32) (h : HI) (L : HL) : CG mX10_isOne 1 [aI a0] h L (lfI h L) (FX10_isOne a0) := by
  unfold FX10_isOne
  refine cg_of [some (aI a0)] rfl (by decide) rfl rfl (fun T => ?_)
  refine g_iload_n (M := mX10_isOne) (pc := 0) 1 dX10_isOne_0 rfl rfl rfl ?_
  refine g_i2l (M := mX10_isOne) (pc := 1) 2 dX10_isOne_1 rfl ?_
  refine g_lconst (M := mX10_isOne) (pc := 2) (v := 0) 3 dX10_isOne_2 rfl rfl ?_
  refine g_ldc2 (M := mX10_isOne) (pc := 3) 6 dX10_isOne_3 rfl cX10_321 ?_
  refine g_cS_I (M := mX10_isOne) (pc := 6) (M' := mX10_in) (rest := []) 9 dX10_isOne_6 rfl kX10_45 okX10_in (CX10_in (Int32.toInt64 a0) 0 3 h L) rfl rfl rfl rfl (fun r1 => ?_)
  exact g_zret (M := mX10_isOne) (pc := 9) dX10_isOne_9 rfl (fun z => z)
def SX10_sheet_85 (a1 : Int32) (h : HI) : (Int32 × HL) → Option ((Int32 × HL) ⊕ (HL))
  | (a4, L) =>
    if 40 ≤ a4 then
      some (Sum.inr L)
    else
      gd (ixb ((40 * a1) + a4) 160) <|
      nm (lP1 L 8 42 (nC ((40 * a1) + a4)) 0) fun L6 =>
      some (Sum.inl ((a4 + 1), L6))
def JX10_sheet_36 (a1 : Int32) (a2 : Int32) (a3 : Int32) (h : HI) (L : HL) : Option (Int32 × HI × HL) :=
  if 0 ≤ a3 then
    if a3 ≤ 40 then
      gd (ixb a1 4) <|
      nm (hP1 h 8 40 (nC a1) a2) fun h4 =>
      if a2 = 0 then
        gd (ixb a1 4) <|
        nm (hP1 h4 8 41 (nC a1) 0) fun h8 =>
        Option.bind (loopN (SX10_sheet_85 a1 h8) FU (0, L)) fun L9 =>
          gd (ixb a1 4) <|
          some ((h8 8 41 (nC a1)), h8, L9)
      else
        gd (ixb a1 4) <|
        nm (hP1 h4 8 41 (nC a1) a3) fun h5 =>
        Option.bind (loopN (SX10_sheet_85 a1 h5) FU (0, L)) fun L7 =>
          gd (ixb a1 4) <|
          some ((h5 8 41 (nC a1)), h5, L7)
    else
      Option.bind (FX10_finds (-1000000001) h) fun (r10, h11) =>
      some (r10, h11, L)
  else
    Option.bind (FX10_finds (-1000000007) h) fun (r12, h13) =>
    some (r12, h13, L)
def FX10_sheet (a1 : Int32) (a2 : Int32) (a3 : Int32) (h : HI) (L : HL) : Option (Int32 × HI × HL) :=
  Option.bind (FX10_isOne a1) fun r1 =>
  if r1 = 0 then
    Option.bind (FX10_finds (-1000000001) h) fun (r2, h3) =>
    some (r2, h3, L)
  else
    if a2 = 0 then
      JX10_sheet_36 a1 a2 a3 h L
    else
      if a2 = 8 then
        JX10_sheet_36 a1 a2 a3 h L
      else
        if a2 = 16 then
          JX10_sheet_36 a1 a2 a3 h L
        else
          if a2 = 64 then
            JX10_sheet_36 a1 a2 a3 h L
          else
            Option.bind (FX10_finds (-1000000001) h) fun (r14, h15) =>
            some (r14, h15, L)
set_option maxRecDepth 100000 in
set_option maxHeartbeats 4000000 in
theorem SX10_sheet_85_ok (a1 : Int32) (h : HI) (T : ZT) (a4 : Int32) (L : HL) : VX mX10_sheet 2 T (gS (fun s : Int32 × HL => V mX10_sheet 2 T 85 [some (aR 8 32), some (aI a1), none, none, some (aI (s.1))] [] h (s.2)) (fun s : HL => V mX10_sheet 2 T 111 [some (aR 8 32), some (aI a1), none, none, none] [] h s)) 85 [some (aR 8 32), some (aI a1), none, none, some (aI a4)] [] h L (SX10_sheet_85 a1 h (a4, L)) := by
  unfold SX10_sheet_85
  refine g_iload (M := mX10_sheet) (pc := 85) 87 dX10_sheet_85 rfl rfl ?_
  refine g_bipush (M := mX10_sheet) (pc := 87) (v := 40) 89 dX10_sheet_87 rfl bp40 ?_
  refine g_icmp_ge (M := mX10_sheet) (pc := 89) 111 92 dX10_sheet_89 (by decide) rfl (fun _ => ?_) (fun _ => ?_)
  · exact g_jmp (fun z => v_fgt [true, true, false, false, false] z)
  · refine g_aload_n (M := mX10_sheet) (pc := 92) 93 dX10_sheet_92 rfl rfl rfl ?_
    refine g_getR (M := mX10_sheet) (pc := 93) 96 dX10_sheet_93 rfl fX10_37 oR32_19 ?_
    refine g_bipush (M := mX10_sheet) (pc := 96) (v := 40) 98 dX10_sheet_96 rfl bp40 ?_
    refine g_iload_n (M := mX10_sheet) (pc := 98) 99 dX10_sheet_98 rfl rfl rfl ?_
    refine g_imul (M := mX10_sheet) (pc := 99) 100 dX10_sheet_99 rfl ?_
    refine g_iload (M := mX10_sheet) (pc := 100) 102 dX10_sheet_100 rfl rfl ?_
    refine g_iadd (M := mX10_sheet) (pc := 102) 103 dX10_sheet_102 rfl ?_
    refine g_lconst (M := mX10_sheet) (pc := 103) (v := 0) 104 dX10_sheet_103 rfl rfl ?_
    refine g_last (M := mX10_sheet) (pc := 104) 105 dX10_sheet_104 rfl oA42 (fun L6 => ?_)
    refine g_iinc (M := mX10_sheet) (pc := 105) (c := 1) (ls' := [some (aR 8 32), some (aI a1), none, none, some (aI (a4 + 1))]) 108 dX10_sheet_105 rfl ic1 rfl rfl rfl ?_
    refine g_goto (M := mX10_sheet) (pc := 108) 85 dX10_sheet_108 (by decide) ?_
    exact g_jmp (fun z => v_fgt [true, true, false, false, true] z)
set_option maxRecDepth 100000 in
set_option maxHeartbeats 4000000 in
theorem JX10_sheet_36_ok (a1 : Int32) (a2 : Int32) (a3 : Int32) (T : ZT) (h : HI) (L : HL) : VX mX10_sheet 2 T (fun r => Zl (lfIHL) r = T) 36 [some (aR 8 32), some (aI a1), some (aI a2), some (aI a3), none] [] h L (JX10_sheet_36 a1 a2 a3 h L) := by
  unfold JX10_sheet_36
  refine g_iload_n (M := mX10_sheet) (pc := 36) 37 dX10_sheet_36 rfl rfl rfl ?_
  refine g_if_ge (M := mX10_sheet) (pc := 37) 47 40 dX10_sheet_37 (by decide) rfl (fun _ => ?_) (fun _ => ?_)
  · refine g_iload_n (M := mX10_sheet) (pc := 47) 48 dX10_sheet_47 rfl rfl rfl ?_
    refine g_bipush (M := mX10_sheet) (pc := 48) (v := 40) 50 dX10_sheet_48 rfl bp40 ?_
    refine g_icmp_le (M := mX10_sheet) (pc := 50) 60 53 dX10_sheet_50 (by decide) rfl (fun _ => ?_) (fun _ => ?_)
    · refine g_aload_n (M := mX10_sheet) (pc := 60) 61 dX10_sheet_60 rfl rfl rfl ?_
      refine g_getR (M := mX10_sheet) (pc := 61) 64 dX10_sheet_61 rfl fX10_31 oR32_17 ?_
      refine g_iload_n (M := mX10_sheet) (pc := 64) 65 dX10_sheet_64 rfl rfl rfl ?_
      refine g_iload_n (M := mX10_sheet) (pc := 65) 66 dX10_sheet_65 rfl rfl rfl ?_
      refine g_iast (M := mX10_sheet) (pc := 66) 67 dX10_sheet_66 rfl oA40 (fun h4 => ?_)
      refine g_aload_n (M := mX10_sheet) (pc := 67) 68 dX10_sheet_67 rfl rfl rfl ?_
      refine g_getR (M := mX10_sheet) (pc := 68) 71 dX10_sheet_68 rfl fX10_34 oR32_18 ?_
      refine g_iload_n (M := mX10_sheet) (pc := 71) 72 dX10_sheet_71 rfl rfl rfl ?_
      refine g_iload_n (M := mX10_sheet) (pc := 72) 73 dX10_sheet_72 rfl rfl rfl ?_
      refine g_if_ne (M := mX10_sheet) (pc := 73) 80 76 dX10_sheet_73 (by decide) rfl (fun _ => ?_) (fun _ => ?_)
      · refine g_iload_n (M := mX10_sheet) (pc := 80) 81 dX10_sheet_80 rfl rfl rfl ?_
        refine g_iast (M := mX10_sheet) (pc := 81) 82 dX10_sheet_81 rfl oA41 (fun h5 => ?_)
        refine g_iconst (M := mX10_sheet) (pc := 82) (v := 0) 83 dX10_sheet_82 rfl ic0 ?_
        refine g_istore (M := mX10_sheet) (pc := 83) (ls' := [some (aR 8 32), some (aI a1), some (aI a2), some (aI a3), some (aI 0)]) 85 dX10_sheet_83 rfl rfl rfl ?_
        refine g_loop (fun s => SX10_sheet_85_ok a1 h5 T s.1 s.2) ?_ (fun z => v_fgt [true, true, false, false, true] z)
        intro L7
        show VX mX10_sheet 2 T _ 111 [some (aR 8 32), some (aI a1), none, none, none] [] h5 L7 _
        refine g_aload_n (M := mX10_sheet) (pc := 111) 112 dX10_sheet_111 rfl rfl rfl ?_
        refine g_getR (M := mX10_sheet) (pc := 112) 115 dX10_sheet_112 rfl fX10_34 oR32_18 ?_
        refine g_iload_n (M := mX10_sheet) (pc := 115) 116 dX10_sheet_115 rfl rfl rfl ?_
        refine g_iald (M := mX10_sheet) (pc := 116) 117 dX10_sheet_116 rfl oA41 ?_
        exact g_iret (M := mX10_sheet) (pc := 117) dX10_sheet_117 rfl rfl (fun z => z)
      · refine g_iconst (M := mX10_sheet) (pc := 76) (v := 0) 77 dX10_sheet_76 rfl ic0 ?_
        refine g_goto (M := mX10_sheet) (pc := 77) 81 dX10_sheet_77 (by decide) ?_
        refine g_iast (M := mX10_sheet) (pc := 81) 82 dX10_sheet_81 rfl oA41 (fun h8 => ?_)
        refine g_iconst (M := mX10_sheet) (pc := 82) (v := 0) 83 dX10_sheet_82 rfl ic0 ?_
        refine g_istore (M := mX10_sheet) (pc := 83) (ls' := [some (aR 8 32), some (aI a1), some (aI a2), some (aI a3), some (aI 0)]) 85 dX10_sheet_83 rfl rfl rfl ?_
        refine g_loop (fun s => SX10_sheet_85_ok a1 h8 T s.1 s.2) ?_ (fun z => v_fgt [true, true, false, false, true] z)
        intro L9
        show VX mX10_sheet 2 T _ 111 [some (aR 8 32), some (aI a1), none, none, none] [] h8 L9 _
        refine g_aload_n (M := mX10_sheet) (pc := 111) 112 dX10_sheet_111 rfl rfl rfl ?_
        refine g_getR (M := mX10_sheet) (pc := 112) 115 dX10_sheet_112 rfl fX10_34 oR32_18 ?_
        refine g_iload_n (M := mX10_sheet) (pc := 115) 116 dX10_sheet_115 rfl rfl rfl ?_
        refine g_iald (M := mX10_sheet) (pc := 116) 117 dX10_sheet_116 rfl oA41 ?_
        exact g_iret (M := mX10_sheet) (pc := 117) dX10_sheet_117 rfl rfl (fun z => z)
    · refine g_aload_n (M := mX10_sheet) (pc := 53) 54 dX10_sheet_53 rfl rfl rfl ?_
      refine g_ldc (M := mX10_sheet) (pc := 54) 56 dX10_sheet_54 rfl cX10_44 ?_
      refine g_cV_IH (M := mX10_sheet) (pc := 56) (M' := mX10_finds) (rest := []) 59 dX10_sheet_56 rfl kX10_67 okX10_finds (CX10_finds (-1000000001) h L) oO32 rfl rfl rfl rfl (fun r10 h11 => ?_)
      exact g_iret (M := mX10_sheet) (pc := 59) dX10_sheet_59 rfl rfl (fun z => z)
  · refine g_aload_n (M := mX10_sheet) (pc := 40) 41 dX10_sheet_40 rfl rfl rfl ?_
    refine g_ldc (M := mX10_sheet) (pc := 41) 43 dX10_sheet_41 rfl cX10_211 ?_
    refine g_cV_IH (M := mX10_sheet) (pc := 43) (M' := mX10_finds) (rest := []) 46 dX10_sheet_43 rfl kX10_67 okX10_finds (CX10_finds (-1000000007) h L) oO32 rfl rfl rfl rfl (fun r12 h13 => ?_)
    exact g_iret (M := mX10_sheet) (pc := 46) dX10_sheet_46 rfl rfl (fun z => z)
set_option maxRecDepth 100000 in
set_option maxHeartbeats 4000000 in
theorem CX10_sheet (a1 : Int32) (a2 : Int32) (a3 : Int32) (h : HI) (L : HL) : CG mX10_sheet 2 [aR 8 32, aI a1, aI a2, aI a3] h L (lfIHL) (FX10_sheet a1 a2 a3 h L) := by
  unfold FX10_sheet
  refine cg_of [some (aR 8 32), some (aI a1), some (aI a2), some (aI a3), none] rfl (by decide) rfl rfl (fun T => ?_)
  refine g_iload_n (M := mX10_sheet) (pc := 0) 1 dX10_sheet_0 rfl rfl rfl ?_
  refine g_cS_I (M := mX10_sheet) (pc := 1) (M' := mX10_isOne) (rest := []) 4 dX10_sheet_1 rfl kX10_323 okX10_isOne (CX10_isOne a1 h L) rfl rfl rfl rfl (fun r1 => ?_)
  refine g_if_eq (M := mX10_sheet) (pc := 4) 29 7 dX10_sheet_4 (by decide) rfl (fun _ => ?_) (fun _ => ?_)
  · refine g_aload_n (M := mX10_sheet) (pc := 29) 30 dX10_sheet_29 rfl rfl rfl ?_
    refine g_ldc (M := mX10_sheet) (pc := 30) 32 dX10_sheet_30 rfl cX10_44 ?_
    refine g_cV_IH (M := mX10_sheet) (pc := 32) (M' := mX10_finds) (rest := []) 35 dX10_sheet_32 rfl kX10_67 okX10_finds (CX10_finds (-1000000001) h L) oO32 rfl rfl rfl rfl (fun r2 h3 => ?_)
    exact g_iret (M := mX10_sheet) (pc := 35) dX10_sheet_35 rfl rfl (fun z => z)
  · refine g_iload_n (M := mX10_sheet) (pc := 7) 8 dX10_sheet_7 rfl rfl rfl ?_
    refine g_if_eq (M := mX10_sheet) (pc := 8) 36 11 dX10_sheet_8 (by decide) rfl (fun _ => ?_) (fun _ => ?_)
    · exact g_fgt [true, true, true, true, false] (JX10_sheet_36_ok a1 a2 a3 T h L)
    · refine g_iload_n (M := mX10_sheet) (pc := 11) 12 dX10_sheet_11 rfl rfl rfl ?_
      refine g_bipush (M := mX10_sheet) (pc := 12) (v := 8) 14 dX10_sheet_12 rfl bp8 ?_
      refine g_icmp_eq (M := mX10_sheet) (pc := 14) 36 17 dX10_sheet_14 (by decide) rfl (fun _ => ?_) (fun _ => ?_)
      · exact g_fgt [true, true, true, true, false] (JX10_sheet_36_ok a1 a2 a3 T h L)
      · refine g_iload_n (M := mX10_sheet) (pc := 17) 18 dX10_sheet_17 rfl rfl rfl ?_
        refine g_bipush (M := mX10_sheet) (pc := 18) (v := 16) 20 dX10_sheet_18 rfl bp16 ?_
        refine g_icmp_eq (M := mX10_sheet) (pc := 20) 36 23 dX10_sheet_20 (by decide) rfl (fun _ => ?_) (fun _ => ?_)
        · exact g_fgt [true, true, true, true, false] (JX10_sheet_36_ok a1 a2 a3 T h L)
        · refine g_iload_n (M := mX10_sheet) (pc := 23) 24 dX10_sheet_23 rfl rfl rfl ?_
          refine g_bipush (M := mX10_sheet) (pc := 24) (v := 64) 26 dX10_sheet_24 rfl bp64 ?_
          refine g_icmp_eq (M := mX10_sheet) (pc := 26) 36 29 dX10_sheet_26 (by decide) rfl (fun _ => ?_) (fun _ => ?_)
          · exact g_fgt [true, true, true, true, false] (JX10_sheet_36_ok a1 a2 a3 T h L)
          · refine g_aload_n (M := mX10_sheet) (pc := 29) 30 dX10_sheet_29 rfl rfl rfl ?_
            refine g_ldc (M := mX10_sheet) (pc := 30) 32 dX10_sheet_30 rfl cX10_44 ?_
            refine g_cV_IH (M := mX10_sheet) (pc := 32) (M' := mX10_finds) (rest := []) 35 dX10_sheet_32 rfl kX10_67 okX10_finds (CX10_finds (-1000000001) h L) oO32 rfl rfl rfl rfl (fun r14 h15 => ?_)
            exact g_iret (M := mX10_sheet) (pc := 35) dX10_sheet_35 rfl rfl (fun z => z)
def FX10_narrowed (a0 : Int32) (a1 : Int64) : Option (Int64) :=
  if a0 = 8 then
    some (Int32.toInt64 (Int8.toInt32 (Int32.toInt8 (Int64.toInt32 a1))))
  else
    if a0 = 16 then
      some (Int32.toInt64 (Int16.toInt32 (Int32.toInt16 (Int64.toInt32 a1))))
    else
      some a1
set_option maxRecDepth 100000 in
set_option maxHeartbeats 4000000 in
theorem CX10_narrowed (a0 : Int32) (a1 : Int64) (h : HI) (L : HL) : CG mX10_narrowed 0 [aI a0, aL a1] h L (lfJ h L) (FX10_narrowed a0 a1) := by
  unfold FX10_narrowed
  refine cg_of [some (aI a0), some (aL a1), none] rfl (by decide) rfl rfl (fun T => ?_)
  refine g_iload_n (M := mX10_narrowed) (pc := 0) 1 dX10_narrowed_0 rfl rfl rfl ?_
  refine g_bipush (M := mX10_narrowed) (pc := 1) (v := 8) 3 dX10_narrowed_1 rfl bp8 ?_
  refine g_icmp_ne (M := mX10_narrowed) (pc := 3) 13 6 dX10_narrowed_3 (by decide) rfl (fun _ => ?_) (fun _ => ?_)
  · refine g_iload_n (M := mX10_narrowed) (pc := 13) 14 dX10_narrowed_13 rfl rfl rfl ?_
    refine g_bipush (M := mX10_narrowed) (pc := 14) (v := 16) 16 dX10_narrowed_14 rfl bp16 ?_
    refine g_icmp_ne (M := mX10_narrowed) (pc := 16) 26 19 dX10_narrowed_16 (by decide) rfl (fun _ => ?_) (fun _ => ?_)
    · refine g_lload_n (M := mX10_narrowed) (pc := 26) 27 dX10_narrowed_26 rfl rfl rfl ?_
      exact g_lret (M := mX10_narrowed) (pc := 27) dX10_narrowed_27 rfl (fun z => z)
    · refine g_lload_n (M := mX10_narrowed) (pc := 19) 20 dX10_narrowed_19 rfl rfl rfl ?_
      refine g_l2i (M := mX10_narrowed) (pc := 20) 21 dX10_narrowed_20 rfl ?_
      refine g_i2s (M := mX10_narrowed) (pc := 21) 22 dX10_narrowed_21 rfl ?_
      refine g_i2l (M := mX10_narrowed) (pc := 22) 23 dX10_narrowed_22 rfl ?_
      refine g_goto (M := mX10_narrowed) (pc := 23) 27 dX10_narrowed_23 (by decide) ?_
      exact g_lret (M := mX10_narrowed) (pc := 27) dX10_narrowed_27 rfl (fun z => z)
  · refine g_lload_n (M := mX10_narrowed) (pc := 6) 7 dX10_narrowed_6 rfl rfl rfl ?_
    refine g_l2i (M := mX10_narrowed) (pc := 7) 8 dX10_narrowed_7 rfl ?_
    refine g_i2b (M := mX10_narrowed) (pc := 8) 9 dX10_narrowed_8 rfl ?_
    refine g_i2l (M := mX10_narrowed) (pc := 9) 10 dX10_narrowed_9 rfl ?_
    refine g_goto (M := mX10_narrowed) (pc := 10) 27 dX10_narrowed_10 (by decide) ?_
    exact g_lret (M := mX10_narrowed) (pc := 27) dX10_narrowed_27 rfl (fun z => z)
def FX10_wrong (a1 : Int32) (h : HI) : Option (Int32) :=
  Option.bind (FX10_isOne a1) fun r1 =>
  if r1 = 0 then
    some (-1000000001)
  else
    gd (ixb a1 4) <|
    if (h 8 40 (nC a1)) = 0 then
      some (-1000000006)
    else
      some 0
set_option maxRecDepth 100000 in
set_option maxHeartbeats 4000000 in
theorem CX10_wrong (a1 : Int32) (h : HI) (L : HL) : CG mX10_wrong 2 [aR 8 32, aI a1] h L (lfI h L) (FX10_wrong a1 h) := by
  unfold FX10_wrong
  refine cg_of [some (aR 8 32), some (aI a1)] rfl (by decide) rfl rfl (fun T => ?_)
  refine g_iload_n (M := mX10_wrong) (pc := 0) 1 dX10_wrong_0 rfl rfl rfl ?_
  refine g_cS_I (M := mX10_wrong) (pc := 1) (M' := mX10_isOne) (rest := []) 4 dX10_wrong_1 rfl kX10_323 okX10_isOne (CX10_isOne a1 h L) rfl rfl rfl rfl (fun r1 => ?_)
  refine g_if_ne (M := mX10_wrong) (pc := 4) 12 7 dX10_wrong_4 (by decide) rfl (fun _ => ?_) (fun _ => ?_)
  · refine g_aload_n (M := mX10_wrong) (pc := 12) 13 dX10_wrong_12 rfl rfl rfl ?_
    refine g_getR (M := mX10_wrong) (pc := 13) 16 dX10_wrong_13 rfl fX10_31 oR32_17 ?_
    refine g_iload_n (M := mX10_wrong) (pc := 16) 17 dX10_wrong_16 rfl rfl rfl ?_
    refine g_iald (M := mX10_wrong) (pc := 17) 18 dX10_wrong_17 rfl oA40 ?_
    refine g_if_ne (M := mX10_wrong) (pc := 18) 27 21 dX10_wrong_18 (by decide) rfl (fun _ => ?_) (fun _ => ?_)
    · refine g_iconst (M := mX10_wrong) (pc := 27) (v := 0) 28 dX10_wrong_27 rfl ic0 ?_
      exact g_iret (M := mX10_wrong) (pc := 28) dX10_wrong_28 rfl rfl (fun z => z)
    · refine g_ldcw (M := mX10_wrong) (pc := 21) 24 dX10_wrong_21 rfl cX10_326 ?_
      refine g_goto (M := mX10_wrong) (pc := 24) 28 dX10_wrong_24 (by decide) ?_
      exact g_iret (M := mX10_wrong) (pc := 28) dX10_wrong_28 rfl rfl (fun z => z)
  · refine g_ldc (M := mX10_wrong) (pc := 7) 9 dX10_wrong_7 rfl cX10_44 ?_
    refine g_goto (M := mX10_wrong) (pc := 9) 28 dX10_wrong_9 (by decide) ?_
    exact g_iret (M := mX10_wrong) (pc := 28) dX10_wrong_28 rfl rfl (fun z => z)
def FX10_write (a1 : Int32) (a2 : Int32) (a3 : Int64) (h : HI) (L : HL) : Option (Int64 × HI × HL) :=
  Option.bind (FX10_wrong a1 h) fun r1 =>
  if r1 = 0 then
    gd (ixb a1 4) <|
    Option.bind (FX10_in (Int32.toInt64 a2) 0 (Int32.toInt64 ((h 8 41 (nC a1)) - 1))) fun r2 =>
    if r2 = 0 then
      Option.bind (FX10_finds (-1000000001) h) fun (r6, h7) =>
      some ((Int32.toInt64 r6), h7, L)
    else
      gd (ixb ((40 * a1) + a2) 160) <|
      nm (L 8 42 (nC ((40 * a1) + a2))) fun t3 =>
      gd (ixb a1 4) <|
      Option.bind (FX10_narrowed (h 8 40 (nC a1)) a3) fun r4 =>
      gd (ixb ((40 * a1) + a2) 160) <|
      nm (lP1 L 8 42 (nC ((40 * a1) + a2)) r4) fun L5 =>
      some (t3, h, L5)
  else
    Option.bind (FX10_finds r1 h) fun (r8, h9) =>
    some ((Int32.toInt64 r8), h9, L)
set_option maxRecDepth 100000 in
set_option maxHeartbeats 4000000 in
theorem CX10_write (a1 : Int32) (a2 : Int32) (a3 : Int64) (h : HI) (L : HL) : CG mX10_write 3 [aR 8 32, aI a1, aI a2, aL a3] h L (lfJHL) (FX10_write a1 a2 a3 h L) := by
  unfold FX10_write
  refine cg_of [some (aR 8 32), some (aI a1), some (aI a2), some (aL a3), none, none, none, none] rfl (by decide) rfl rfl (fun T => ?_)
  refine g_aload_n (M := mX10_write) (pc := 0) 1 dX10_write_0 rfl rfl rfl ?_
  refine g_iload_n (M := mX10_write) (pc := 1) 2 dX10_write_1 rfl rfl rfl ?_
  refine g_cV_I (M := mX10_write) (pc := 2) (M' := mX10_wrong) (rest := []) 5 dX10_write_2 rfl kX10_327 okX10_wrong (CX10_wrong a1 h L) oO32 rfl rfl rfl rfl (fun r1 => ?_)
  refine g_istore (M := mX10_write) (pc := 5) (ls' := [some (aR 8 32), some (aI a1), some (aI a2), some (aL a3), none, some (aI r1), none, none]) 7 dX10_write_5 rfl rfl rfl ?_
  refine g_iload (M := mX10_write) (pc := 7) 9 dX10_write_7 rfl rfl ?_
  refine g_if_eq (M := mX10_write) (pc := 9) 20 12 dX10_write_9 (by decide) rfl (fun _ => ?_) (fun _ => ?_)
  · refine g_iload_n (M := mX10_write) (pc := 20) 21 dX10_write_20 rfl rfl rfl ?_
    refine g_i2l (M := mX10_write) (pc := 21) 22 dX10_write_21 rfl ?_
    refine g_lconst (M := mX10_write) (pc := 22) (v := 0) 23 dX10_write_22 rfl rfl ?_
    refine g_aload_n (M := mX10_write) (pc := 23) 24 dX10_write_23 rfl rfl rfl ?_
    refine g_getR (M := mX10_write) (pc := 24) 27 dX10_write_24 rfl fX10_34 oR32_18 ?_
    refine g_iload_n (M := mX10_write) (pc := 27) 28 dX10_write_27 rfl rfl rfl ?_
    refine g_iald (M := mX10_write) (pc := 28) 29 dX10_write_28 rfl oA41 ?_
    refine g_iconst (M := mX10_write) (pc := 29) (v := 1) 30 dX10_write_29 rfl ic1 ?_
    refine g_isub (M := mX10_write) (pc := 30) 31 dX10_write_30 rfl ?_
    refine g_i2l (M := mX10_write) (pc := 31) 32 dX10_write_31 rfl ?_
    refine g_cS_I (M := mX10_write) (pc := 32) (M' := mX10_in) (rest := []) 35 dX10_write_32 rfl kX10_45 okX10_in (CX10_in (Int32.toInt64 a2) 0 (Int32.toInt64 ((h 8 41 (nC a1)) - 1)) h L) rfl rfl rfl rfl (fun r2 => ?_)
    refine g_if_ne (M := mX10_write) (pc := 35) 46 38 dX10_write_35 (by decide) rfl (fun _ => ?_) (fun _ => ?_)
    · refine g_aload_n (M := mX10_write) (pc := 46) 47 dX10_write_46 rfl rfl rfl ?_
      refine g_getR (M := mX10_write) (pc := 47) 50 dX10_write_47 rfl fX10_37 oR32_19 ?_
      refine g_bipush (M := mX10_write) (pc := 50) (v := 40) 52 dX10_write_50 rfl bp40 ?_
      refine g_iload_n (M := mX10_write) (pc := 52) 53 dX10_write_52 rfl rfl rfl ?_
      refine g_imul (M := mX10_write) (pc := 53) 54 dX10_write_53 rfl ?_
      refine g_iload_n (M := mX10_write) (pc := 54) 55 dX10_write_54 rfl rfl rfl ?_
      refine g_iadd (M := mX10_write) (pc := 55) 56 dX10_write_55 rfl ?_
      refine g_lald (M := mX10_write) (pc := 56) 57 dX10_write_56 rfl oA42 ?_
      refine g_nmJ (fun t3 => ?_)
      refine g_lstore (M := mX10_write) (pc := 57) (ls' := [some (aR 8 32), some (aI a1), some (aI a2), some (aL a3), none, some (aI r1), some (aL t3), none]) 59 dX10_write_57 rfl rfl rfl ?_
      refine g_aload_n (M := mX10_write) (pc := 59) 60 dX10_write_59 rfl rfl rfl ?_
      refine g_getR (M := mX10_write) (pc := 60) 63 dX10_write_60 rfl fX10_37 oR32_19 ?_
      refine g_bipush (M := mX10_write) (pc := 63) (v := 40) 65 dX10_write_63 rfl bp40 ?_
      refine g_iload_n (M := mX10_write) (pc := 65) 66 dX10_write_65 rfl rfl rfl ?_
      refine g_imul (M := mX10_write) (pc := 66) 67 dX10_write_66 rfl ?_
      refine g_iload_n (M := mX10_write) (pc := 67) 68 dX10_write_67 rfl rfl rfl ?_
      refine g_iadd (M := mX10_write) (pc := 68) 69 dX10_write_68 rfl ?_
      refine g_aload_n (M := mX10_write) (pc := 69) 70 dX10_write_69 rfl rfl rfl ?_
      refine g_getR (M := mX10_write) (pc := 70) 73 dX10_write_70 rfl fX10_31 oR32_17 ?_
      refine g_iload_n (M := mX10_write) (pc := 73) 74 dX10_write_73 rfl rfl rfl ?_
      refine g_iald (M := mX10_write) (pc := 74) 75 dX10_write_74 rfl oA40 ?_
      refine g_lload_n (M := mX10_write) (pc := 75) 76 dX10_write_75 rfl rfl rfl ?_
      refine g_cS_J (M := mX10_write) (pc := 76) (M' := mX10_narrowed) (rest := [aI ((40 * a1) + a2), aR 8 42]) 79 dX10_write_76 rfl kX10_330 okX10_narrowed (CX10_narrowed (h 8 40 (nC a1)) a3 h L) rfl rfl rfl rfl (fun r4 => ?_)
      refine g_last (M := mX10_write) (pc := 79) 80 dX10_write_79 rfl oA42 (fun L5 => ?_)
      refine g_lload (M := mX10_write) (pc := 80) 82 dX10_write_80 rfl rfl ?_
      exact g_lret (M := mX10_write) (pc := 82) dX10_write_82 rfl (fun z => z)
    · refine g_aload_n (M := mX10_write) (pc := 38) 39 dX10_write_38 rfl rfl rfl ?_
      refine g_ldc (M := mX10_write) (pc := 39) 41 dX10_write_39 rfl cX10_44 ?_
      refine g_cV_IH (M := mX10_write) (pc := 41) (M' := mX10_finds) (rest := []) 44 dX10_write_41 rfl kX10_67 okX10_finds (CX10_finds (-1000000001) h L) oO32 rfl rfl rfl rfl (fun r6 h7 => ?_)
      refine g_i2l (M := mX10_write) (pc := 44) 45 dX10_write_44 rfl ?_
      exact g_lret (M := mX10_write) (pc := 45) dX10_write_45 rfl (fun z => z)
  · refine g_aload_n (M := mX10_write) (pc := 12) 13 dX10_write_12 rfl rfl rfl ?_
    refine g_iload (M := mX10_write) (pc := 13) 15 dX10_write_13 rfl rfl ?_
    refine g_cV_IH (M := mX10_write) (pc := 15) (M' := mX10_finds) (rest := []) 18 dX10_write_15 rfl kX10_67 okX10_finds (CX10_finds r1 h L) oO32 rfl rfl rfl rfl (fun r8 h9 => ?_)
    refine g_i2l (M := mX10_write) (pc := 18) 19 dX10_write_18 rfl ?_
    exact g_lret (M := mX10_write) (pc := 19) dX10_write_19 rfl (fun z => z)
def SX10_copy_120 (a1 : Int32) (a2 : Int32) (a3 : Int32) (a4 : Int32) (a5 : Int32) (h : HI) : (Int32 × HL) → Option ((Int32 × HL) ⊕ (HL))
  | (a6, L) =>
    if a5 ≤ a6 then
      some (Sum.inr L)
    else
      gd (ixb (((40 * a1) + a2) + a6) 160) <|
      gd (ixb a6 40) <|
      nm (lP1 L 8 43 (nC a6) (L 8 42 (nC (((40 * a1) + a2) + a6)))) fun L15 =>
      some (Sum.inl ((a6 + 1), L15))
def SX10_copy_157 (a3 : Int32) (a4 : Int32) (a5 : Int32) (h : HI) : (Int32 × HL) → Option ((Int32 × HL) ⊕ (HL))
  | (a6, L) =>
    if a5 ≤ a6 then
      some (Sum.inr L)
    else
      gd (ixb a6 40) <|
      gd (ixb (((40 * a3) + a4) + a6) 160) <|
      nm (lP1 L 8 42 (nC (((40 * a3) + a4) + a6)) (L 8 43 (nC a6))) fun L17 =>
      some (Sum.inl ((a6 + 1), L17))
def FX10_copy (a1 : Int32) (a2 : Int32) (a3 : Int32) (a4 : Int32) (a5 : Int32) (h : HI) (L : HL) : Option (Int32 × HI × HL) :=
  Option.bind (FX10_isOne a1) fun r1 =>
  if r1 = 0 then
    Option.bind (FX10_finds (-1000000001) h) fun (r2, h3) =>
    some (r2, h3, L)
  else
    Option.bind (FX10_isOne a3) fun r4 =>
    if r4 = 0 then
      Option.bind (FX10_finds (-1000000001) h) fun (r25, h26) =>
      some (r25, h26, L)
    else
      gd (ixb a1 4) <|
      if (h 8 40 (nC a1)) = 0 then
        Option.bind (FX10_finds (-1000000006) h) fun (r5, h6) =>
        some (r5, h6, L)
      else
        gd (ixb a3 4) <|
        if (h 8 40 (nC a3)) = 0 then
          Option.bind (FX10_finds (-1000000006) h) fun (r23, h24) =>
          some (r23, h24, L)
        else
          gd (ixb a1 4) <|
          gd (ixb a3 4) <|
          if (h 8 40 (nC a1)) = (h 8 40 (nC a3)) then
            if a2 < 0 then
              Option.bind (FX10_finds (-1000000001) h) fun (r7, h8) =>
              some (r7, h8, L)
            else
              if a4 < 0 then
                Option.bind (FX10_finds (-1000000001) h) fun (r9, h10) =>
                some (r9, h10, L)
              else
                if a5 < 0 then
                  Option.bind (FX10_finds (-1000000001) h) fun (r11, h12) =>
                  some (r11, h12, L)
                else
                  gd (ixb a1 4) <|
                  if ((h 8 41 (nC a1)) - a2) < a5 then
                    Option.bind (FX10_finds (-1000000001) h) fun (r13, h14) =>
                    some (r13, h14, L)
                  else
                    gd (ixb a3 4) <|
                    if a5 ≤ ((h 8 41 (nC a3)) - a4) then
                      Option.bind (loopN (SX10_copy_120 a1 a2 a3 a4 a5 h) FU (0, L)) fun L16 =>
                        Option.bind (loopN (SX10_copy_157 a3 a4 a5 h) FU (0, L16)) fun L18 =>
                          some (a5, h, L18)
                    else
                      Option.bind (FX10_finds (-1000000001) h) fun (r19, h20) =>
                      some (r19, h20, L)
          else
            Option.bind (FX10_finds (-1000000003) h) fun (r21, h22) =>
            some (r21, h22, L)
set_option maxRecDepth 100000 in
set_option maxHeartbeats 4000000 in
theorem SX10_copy_120_ok (a1 : Int32) (a2 : Int32) (a3 : Int32) (a4 : Int32) (a5 : Int32) (h : HI) (T : ZT) (a6 : Int32) (L : HL) : VX mX10_copy 2 T (gS (fun s : Int32 × HL => V mX10_copy 2 T 120 [some (aR 8 32), some (aI a1), some (aI a2), some (aI a3), some (aI a4), some (aI a5), some (aI (s.1))] [] h (s.2)) (fun s : HL => V mX10_copy 2 T 154 [some (aR 8 32), none, none, some (aI a3), some (aI a4), some (aI a5), none] [] h s)) 120 [some (aR 8 32), some (aI a1), some (aI a2), some (aI a3), some (aI a4), some (aI a5), some (aI a6)] [] h L (SX10_copy_120 a1 a2 a3 a4 a5 h (a6, L)) := by
  unfold SX10_copy_120
  refine g_iload (M := mX10_copy) (pc := 120) 122 dX10_copy_120 rfl rfl ?_
  refine g_iload (M := mX10_copy) (pc := 122) 124 dX10_copy_122 rfl rfl ?_
  refine g_icmp_ge (M := mX10_copy) (pc := 124) 154 127 dX10_copy_124 (by decide) rfl (fun _ => ?_) (fun _ => ?_)
  · exact g_jmp (fun z => v_fgt [true, false, false, true, true, true, false] z)
  · refine g_aload_n (M := mX10_copy) (pc := 127) 128 dX10_copy_127 rfl rfl rfl ?_
    refine g_getR (M := mX10_copy) (pc := 128) 131 dX10_copy_128 rfl fX10_41 oR32_20 ?_
    refine g_iload (M := mX10_copy) (pc := 131) 133 dX10_copy_131 rfl rfl ?_
    refine g_aload_n (M := mX10_copy) (pc := 133) 134 dX10_copy_133 rfl rfl rfl ?_
    refine g_getR (M := mX10_copy) (pc := 134) 137 dX10_copy_134 rfl fX10_37 oR32_19 ?_
    refine g_bipush (M := mX10_copy) (pc := 137) (v := 40) 139 dX10_copy_137 rfl bp40 ?_
    refine g_iload_n (M := mX10_copy) (pc := 139) 140 dX10_copy_139 rfl rfl rfl ?_
    refine g_imul (M := mX10_copy) (pc := 140) 141 dX10_copy_140 rfl ?_
    refine g_iload_n (M := mX10_copy) (pc := 141) 142 dX10_copy_141 rfl rfl rfl ?_
    refine g_iadd (M := mX10_copy) (pc := 142) 143 dX10_copy_142 rfl ?_
    refine g_iload (M := mX10_copy) (pc := 143) 145 dX10_copy_143 rfl rfl ?_
    refine g_iadd (M := mX10_copy) (pc := 145) 146 dX10_copy_145 rfl ?_
    refine g_lald (M := mX10_copy) (pc := 146) 147 dX10_copy_146 rfl oA42 ?_
    refine g_last (M := mX10_copy) (pc := 147) 148 dX10_copy_147 rfl oA43 (fun L15 => ?_)
    refine g_iinc (M := mX10_copy) (pc := 148) (c := 1) (ls' := [some (aR 8 32), some (aI a1), some (aI a2), some (aI a3), some (aI a4), some (aI a5), some (aI (a6 + 1))]) 151 dX10_copy_148 rfl ic1 rfl rfl rfl ?_
    refine g_goto (M := mX10_copy) (pc := 151) 120 dX10_copy_151 (by decide) ?_
    exact g_jmp (fun z => v_fgt [true, true, true, true, true, true, true] z)
set_option maxRecDepth 100000 in
set_option maxHeartbeats 4000000 in
theorem SX10_copy_157_ok (a3 : Int32) (a4 : Int32) (a5 : Int32) (h : HI) (T : ZT) (a6 : Int32) (L : HL) : VX mX10_copy 2 T (gS (fun s : Int32 × HL => V mX10_copy 2 T 157 [some (aR 8 32), none, none, some (aI a3), some (aI a4), some (aI a5), some (aI (s.1))] [] h (s.2)) (fun s : HL => V mX10_copy 2 T 192 [none, none, none, none, none, some (aI a5), none] [] h s)) 157 [some (aR 8 32), none, none, some (aI a3), some (aI a4), some (aI a5), some (aI a6)] [] h L (SX10_copy_157 a3 a4 a5 h (a6, L)) := by
  unfold SX10_copy_157
  refine g_iload (M := mX10_copy) (pc := 157) 159 dX10_copy_157 rfl rfl ?_
  refine g_iload (M := mX10_copy) (pc := 159) 161 dX10_copy_159 rfl rfl ?_
  refine g_icmp_ge (M := mX10_copy) (pc := 161) 192 164 dX10_copy_161 (by decide) rfl (fun _ => ?_) (fun _ => ?_)
  · exact g_jmp (fun z => v_fgt [false, false, false, false, false, true, false] z)
  · refine g_aload_n (M := mX10_copy) (pc := 164) 165 dX10_copy_164 rfl rfl rfl ?_
    refine g_getR (M := mX10_copy) (pc := 165) 168 dX10_copy_165 rfl fX10_37 oR32_19 ?_
    refine g_bipush (M := mX10_copy) (pc := 168) (v := 40) 170 dX10_copy_168 rfl bp40 ?_
    refine g_iload_n (M := mX10_copy) (pc := 170) 171 dX10_copy_170 rfl rfl rfl ?_
    refine g_imul (M := mX10_copy) (pc := 171) 172 dX10_copy_171 rfl ?_
    refine g_iload (M := mX10_copy) (pc := 172) 174 dX10_copy_172 rfl rfl ?_
    refine g_iadd (M := mX10_copy) (pc := 174) 175 dX10_copy_174 rfl ?_
    refine g_iload (M := mX10_copy) (pc := 175) 177 dX10_copy_175 rfl rfl ?_
    refine g_iadd (M := mX10_copy) (pc := 177) 178 dX10_copy_177 rfl ?_
    refine g_aload_n (M := mX10_copy) (pc := 178) 179 dX10_copy_178 rfl rfl rfl ?_
    refine g_getR (M := mX10_copy) (pc := 179) 182 dX10_copy_179 rfl fX10_41 oR32_20 ?_
    refine g_iload (M := mX10_copy) (pc := 182) 184 dX10_copy_182 rfl rfl ?_
    refine g_lald (M := mX10_copy) (pc := 184) 185 dX10_copy_184 rfl oA43 ?_
    refine g_last (M := mX10_copy) (pc := 185) 186 dX10_copy_185 rfl oA42 (fun L17 => ?_)
    refine g_iinc (M := mX10_copy) (pc := 186) (c := 1) (ls' := [some (aR 8 32), none, none, some (aI a3), some (aI a4), some (aI a5), some (aI (a6 + 1))]) 189 dX10_copy_186 rfl ic1 rfl rfl rfl ?_
    refine g_goto (M := mX10_copy) (pc := 189) 157 dX10_copy_189 (by decide) ?_
    exact g_jmp (fun z => v_fgt [true, false, false, true, true, true, true] z)
set_option maxRecDepth 100000 in
set_option maxHeartbeats 4000000 in
theorem CX10_copy (a1 : Int32) (a2 : Int32) (a3 : Int32) (a4 : Int32) (a5 : Int32) (h : HI) (L : HL) : CG mX10_copy 2 [aR 8 32, aI a1, aI a2, aI a3, aI a4, aI a5] h L (lfIHL) (FX10_copy a1 a2 a3 a4 a5 h L) := by
  unfold FX10_copy
  refine cg_of [some (aR 8 32), some (aI a1), some (aI a2), some (aI a3), some (aI a4), some (aI a5), none] rfl (by decide) rfl rfl (fun T => ?_)
  refine g_iload_n (M := mX10_copy) (pc := 0) 1 dX10_copy_0 rfl rfl rfl ?_
  refine g_cS_I (M := mX10_copy) (pc := 1) (M' := mX10_isOne) (rest := []) 4 dX10_copy_1 rfl kX10_323 okX10_isOne (CX10_isOne a1 h L) rfl rfl rfl rfl (fun r1 => ?_)
  refine g_if_eq (M := mX10_copy) (pc := 4) 14 7 dX10_copy_4 (by decide) rfl (fun _ => ?_) (fun _ => ?_)
  · refine g_aload_n (M := mX10_copy) (pc := 14) 15 dX10_copy_14 rfl rfl rfl ?_
    refine g_ldc (M := mX10_copy) (pc := 15) 17 dX10_copy_15 rfl cX10_44 ?_
    refine g_cV_IH (M := mX10_copy) (pc := 17) (M' := mX10_finds) (rest := []) 20 dX10_copy_17 rfl kX10_67 okX10_finds (CX10_finds (-1000000001) h L) oO32 rfl rfl rfl rfl (fun r2 h3 => ?_)
    exact g_iret (M := mX10_copy) (pc := 20) dX10_copy_20 rfl rfl (fun z => z)
  · refine g_iload_n (M := mX10_copy) (pc := 7) 8 dX10_copy_7 rfl rfl rfl ?_
    refine g_cS_I (M := mX10_copy) (pc := 8) (M' := mX10_isOne) (rest := []) 11 dX10_copy_8 rfl kX10_323 okX10_isOne (CX10_isOne a3 h L) rfl rfl rfl rfl (fun r4 => ?_)
    refine g_if_ne (M := mX10_copy) (pc := 11) 21 14 dX10_copy_11 (by decide) rfl (fun _ => ?_) (fun _ => ?_)
    · refine g_aload_n (M := mX10_copy) (pc := 21) 22 dX10_copy_21 rfl rfl rfl ?_
      refine g_getR (M := mX10_copy) (pc := 22) 25 dX10_copy_22 rfl fX10_31 oR32_17 ?_
      refine g_iload_n (M := mX10_copy) (pc := 25) 26 dX10_copy_25 rfl rfl rfl ?_
      refine g_iald (M := mX10_copy) (pc := 26) 27 dX10_copy_26 rfl oA40 ?_
      refine g_if_eq (M := mX10_copy) (pc := 27) 39 30 dX10_copy_27 (by decide) rfl (fun _ => ?_) (fun _ => ?_)
      · refine g_aload_n (M := mX10_copy) (pc := 39) 40 dX10_copy_39 rfl rfl rfl ?_
        refine g_ldcw (M := mX10_copy) (pc := 40) 43 dX10_copy_40 rfl cX10_326 ?_
        refine g_cV_IH (M := mX10_copy) (pc := 43) (M' := mX10_finds) (rest := []) 46 dX10_copy_43 rfl kX10_67 okX10_finds (CX10_finds (-1000000006) h L) oO32 rfl rfl rfl rfl (fun r5 h6 => ?_)
        exact g_iret (M := mX10_copy) (pc := 46) dX10_copy_46 rfl rfl (fun z => z)
      · refine g_aload_n (M := mX10_copy) (pc := 30) 31 dX10_copy_30 rfl rfl rfl ?_
        refine g_getR (M := mX10_copy) (pc := 31) 34 dX10_copy_31 rfl fX10_31 oR32_17 ?_
        refine g_iload_n (M := mX10_copy) (pc := 34) 35 dX10_copy_34 rfl rfl rfl ?_
        refine g_iald (M := mX10_copy) (pc := 35) 36 dX10_copy_35 rfl oA40 ?_
        refine g_if_ne (M := mX10_copy) (pc := 36) 47 39 dX10_copy_36 (by decide) rfl (fun _ => ?_) (fun _ => ?_)
        · refine g_aload_n (M := mX10_copy) (pc := 47) 48 dX10_copy_47 rfl rfl rfl ?_
          refine g_getR (M := mX10_copy) (pc := 48) 51 dX10_copy_48 rfl fX10_31 oR32_17 ?_
          refine g_iload_n (M := mX10_copy) (pc := 51) 52 dX10_copy_51 rfl rfl rfl ?_
          refine g_iald (M := mX10_copy) (pc := 52) 53 dX10_copy_52 rfl oA40 ?_
          refine g_aload_n (M := mX10_copy) (pc := 53) 54 dX10_copy_53 rfl rfl rfl ?_
          refine g_getR (M := mX10_copy) (pc := 54) 57 dX10_copy_54 rfl fX10_31 oR32_17 ?_
          refine g_iload_n (M := mX10_copy) (pc := 57) 58 dX10_copy_57 rfl rfl rfl ?_
          refine g_iald (M := mX10_copy) (pc := 58) 59 dX10_copy_58 rfl oA40 ?_
          refine g_icmp_eq (M := mX10_copy) (pc := 59) 69 62 dX10_copy_59 (by decide) rfl (fun _ => ?_) (fun _ => ?_)
          · refine g_iload_n (M := mX10_copy) (pc := 69) 70 dX10_copy_69 rfl rfl rfl ?_
            refine g_if_lt (M := mX10_copy) (pc := 70) 110 73 dX10_copy_70 (by decide) rfl (fun _ => ?_) (fun _ => ?_)
            · refine g_aload_n (M := mX10_copy) (pc := 110) 111 dX10_copy_110 rfl rfl rfl ?_
              refine g_ldc (M := mX10_copy) (pc := 111) 113 dX10_copy_111 rfl cX10_44 ?_
              refine g_cV_IH (M := mX10_copy) (pc := 113) (M' := mX10_finds) (rest := []) 116 dX10_copy_113 rfl kX10_67 okX10_finds (CX10_finds (-1000000001) h L) oO32 rfl rfl rfl rfl (fun r7 h8 => ?_)
              exact g_iret (M := mX10_copy) (pc := 116) dX10_copy_116 rfl rfl (fun z => z)
            · refine g_iload (M := mX10_copy) (pc := 73) 75 dX10_copy_73 rfl rfl ?_
              refine g_if_lt (M := mX10_copy) (pc := 75) 110 78 dX10_copy_75 (by decide) rfl (fun _ => ?_) (fun _ => ?_)
              · refine g_aload_n (M := mX10_copy) (pc := 110) 111 dX10_copy_110 rfl rfl rfl ?_
                refine g_ldc (M := mX10_copy) (pc := 111) 113 dX10_copy_111 rfl cX10_44 ?_
                refine g_cV_IH (M := mX10_copy) (pc := 113) (M' := mX10_finds) (rest := []) 116 dX10_copy_113 rfl kX10_67 okX10_finds (CX10_finds (-1000000001) h L) oO32 rfl rfl rfl rfl (fun r9 h10 => ?_)
                exact g_iret (M := mX10_copy) (pc := 116) dX10_copy_116 rfl rfl (fun z => z)
              · refine g_iload (M := mX10_copy) (pc := 78) 80 dX10_copy_78 rfl rfl ?_
                refine g_if_lt (M := mX10_copy) (pc := 80) 110 83 dX10_copy_80 (by decide) rfl (fun _ => ?_) (fun _ => ?_)
                · refine g_aload_n (M := mX10_copy) (pc := 110) 111 dX10_copy_110 rfl rfl rfl ?_
                  refine g_ldc (M := mX10_copy) (pc := 111) 113 dX10_copy_111 rfl cX10_44 ?_
                  refine g_cV_IH (M := mX10_copy) (pc := 113) (M' := mX10_finds) (rest := []) 116 dX10_copy_113 rfl kX10_67 okX10_finds (CX10_finds (-1000000001) h L) oO32 rfl rfl rfl rfl (fun r11 h12 => ?_)
                  exact g_iret (M := mX10_copy) (pc := 116) dX10_copy_116 rfl rfl (fun z => z)
                · refine g_iload (M := mX10_copy) (pc := 83) 85 dX10_copy_83 rfl rfl ?_
                  refine g_aload_n (M := mX10_copy) (pc := 85) 86 dX10_copy_85 rfl rfl rfl ?_
                  refine g_getR (M := mX10_copy) (pc := 86) 89 dX10_copy_86 rfl fX10_34 oR32_18 ?_
                  refine g_iload_n (M := mX10_copy) (pc := 89) 90 dX10_copy_89 rfl rfl rfl ?_
                  refine g_iald (M := mX10_copy) (pc := 90) 91 dX10_copy_90 rfl oA41 ?_
                  refine g_iload_n (M := mX10_copy) (pc := 91) 92 dX10_copy_91 rfl rfl rfl ?_
                  refine g_isub (M := mX10_copy) (pc := 92) 93 dX10_copy_92 rfl ?_
                  refine g_icmp_gt (M := mX10_copy) (pc := 93) 110 96 dX10_copy_93 (by decide) rfl (fun _ => ?_) (fun _ => ?_)
                  · refine g_aload_n (M := mX10_copy) (pc := 110) 111 dX10_copy_110 rfl rfl rfl ?_
                    refine g_ldc (M := mX10_copy) (pc := 111) 113 dX10_copy_111 rfl cX10_44 ?_
                    refine g_cV_IH (M := mX10_copy) (pc := 113) (M' := mX10_finds) (rest := []) 116 dX10_copy_113 rfl kX10_67 okX10_finds (CX10_finds (-1000000001) h L) oO32 rfl rfl rfl rfl (fun r13 h14 => ?_)
                    exact g_iret (M := mX10_copy) (pc := 116) dX10_copy_116 rfl rfl (fun z => z)
                  · refine g_iload (M := mX10_copy) (pc := 96) 98 dX10_copy_96 rfl rfl ?_
                    refine g_aload_n (M := mX10_copy) (pc := 98) 99 dX10_copy_98 rfl rfl rfl ?_
                    refine g_getR (M := mX10_copy) (pc := 99) 102 dX10_copy_99 rfl fX10_34 oR32_18 ?_
                    refine g_iload_n (M := mX10_copy) (pc := 102) 103 dX10_copy_102 rfl rfl rfl ?_
                    refine g_iald (M := mX10_copy) (pc := 103) 104 dX10_copy_103 rfl oA41 ?_
                    refine g_iload (M := mX10_copy) (pc := 104) 106 dX10_copy_104 rfl rfl ?_
                    refine g_isub (M := mX10_copy) (pc := 106) 107 dX10_copy_106 rfl ?_
                    refine g_icmp_le (M := mX10_copy) (pc := 107) 117 110 dX10_copy_107 (by decide) rfl (fun _ => ?_) (fun _ => ?_)
                    · refine g_iconst (M := mX10_copy) (pc := 117) (v := 0) 118 dX10_copy_117 rfl ic0 ?_
                      refine g_istore (M := mX10_copy) (pc := 118) (ls' := [some (aR 8 32), some (aI a1), some (aI a2), some (aI a3), some (aI a4), some (aI a5), some (aI 0)]) 120 dX10_copy_118 rfl rfl rfl ?_
                      refine g_loop (fun s => SX10_copy_120_ok a1 a2 a3 a4 a5 h T s.1 s.2) ?_ (fun z => v_fgt [true, true, true, true, true, true, true] z)
                      intro L16
                      show VX mX10_copy 2 T _ 154 [some (aR 8 32), none, none, some (aI a3), some (aI a4), some (aI a5), none] [] h L16 _
                      refine g_iconst (M := mX10_copy) (pc := 154) (v := 0) 155 dX10_copy_154 rfl ic0 ?_
                      refine g_istore (M := mX10_copy) (pc := 155) (ls' := [some (aR 8 32), none, none, some (aI a3), some (aI a4), some (aI a5), some (aI 0)]) 157 dX10_copy_155 rfl rfl rfl ?_
                      refine g_loop (fun s => SX10_copy_157_ok a3 a4 a5 h T s.1 s.2) ?_ (fun z => v_fgt [true, false, false, true, true, true, true] z)
                      intro L18
                      show VX mX10_copy 2 T _ 192 [none, none, none, none, none, some (aI a5), none] [] h L18 _
                      refine g_iload (M := mX10_copy) (pc := 192) 194 dX10_copy_192 rfl rfl ?_
                      exact g_iret (M := mX10_copy) (pc := 194) dX10_copy_194 rfl rfl (fun z => z)
                    · refine g_aload_n (M := mX10_copy) (pc := 110) 111 dX10_copy_110 rfl rfl rfl ?_
                      refine g_ldc (M := mX10_copy) (pc := 111) 113 dX10_copy_111 rfl cX10_44 ?_
                      refine g_cV_IH (M := mX10_copy) (pc := 113) (M' := mX10_finds) (rest := []) 116 dX10_copy_113 rfl kX10_67 okX10_finds (CX10_finds (-1000000001) h L) oO32 rfl rfl rfl rfl (fun r19 h20 => ?_)
                      exact g_iret (M := mX10_copy) (pc := 116) dX10_copy_116 rfl rfl (fun z => z)
          · refine g_aload_n (M := mX10_copy) (pc := 62) 63 dX10_copy_62 rfl rfl rfl ?_
            refine g_ldc (M := mX10_copy) (pc := 63) 65 dX10_copy_63 rfl cX10_93 ?_
            refine g_cV_IH (M := mX10_copy) (pc := 65) (M' := mX10_finds) (rest := []) 68 dX10_copy_65 rfl kX10_67 okX10_finds (CX10_finds (-1000000003) h L) oO32 rfl rfl rfl rfl (fun r21 h22 => ?_)
            exact g_iret (M := mX10_copy) (pc := 68) dX10_copy_68 rfl rfl (fun z => z)
        · refine g_aload_n (M := mX10_copy) (pc := 39) 40 dX10_copy_39 rfl rfl rfl ?_
          refine g_ldcw (M := mX10_copy) (pc := 40) 43 dX10_copy_40 rfl cX10_326 ?_
          refine g_cV_IH (M := mX10_copy) (pc := 43) (M' := mX10_finds) (rest := []) 46 dX10_copy_43 rfl kX10_67 okX10_finds (CX10_finds (-1000000006) h L) oO32 rfl rfl rfl rfl (fun r23 h24 => ?_)
          exact g_iret (M := mX10_copy) (pc := 46) dX10_copy_46 rfl rfl (fun z => z)
    · refine g_aload_n (M := mX10_copy) (pc := 14) 15 dX10_copy_14 rfl rfl rfl ?_
      refine g_ldc (M := mX10_copy) (pc := 15) 17 dX10_copy_15 rfl cX10_44 ?_
      refine g_cV_IH (M := mX10_copy) (pc := 17) (M' := mX10_finds) (rest := []) 20 dX10_copy_17 rfl kX10_67 okX10_finds (CX10_finds (-1000000001) h L) oO32 rfl rfl rfl rfl (fun r25 h26 => ?_)
      exact g_iret (M := mX10_copy) (pc := 20) dX10_copy_20 rfl rfl (fun z => z)
def SX10_lays_21 (a1 : Int32) (L : HL) : (Int32 × Int32 × HI) → Option ((Int32 × Int32 × HI) ⊕ (Int32 × HI))
  | (a3, a4, h) =>
    gd (ixb a1 4) <|
    if (h 8 41 (nC a1)) ≤ a4 then
      some (Sum.inr (a3, h))
    else
      if (h 8 33 0) ≤ a4 then
        some (Sum.inr (a3, h))
      else
        gd (ixb ((40 * a1) + a4) 160) <|
        Option.bind (FX10_in (L 8 42 (nC ((40 * a1) + a4))) 0 100) fun r2 =>
        if r2 = 0 then
          some (Sum.inl (a3, (a4 + 1), h))
        else
          Option.bind (FX10_at a4 4) fun r3 =>
          gd (ixb ((40 * a1) + a4) 160) <|
          gd (ixb r3 150) <|
          nm (hP1 h 8 33 (nC r3) (Int64.toInt32 (L 8 42 (nC ((40 * a1) + a4))))) fun h4 =>
          some (Sum.inl ((a3 + 1), (a4 + 1), h4))
def FX10_lays (a1 : Int32) (h : HI) (L : HL) : Option (Int32 × HI) :=
  Option.bind (FX10_wrong a1 h) fun r1 =>
  if r1 = 0 then
    Option.bind (loopN (SX10_lays_21 a1 L) FU (0, 0, h)) fun (e5, h6) =>
      some (e5, h6)
  else
    Option.bind (FX10_finds r1 h) fun (r7, h8) =>
    some (r7, h8)
set_option maxRecDepth 100000 in
set_option maxHeartbeats 4000000 in
theorem SX10_lays_21_ok (a1 : Int32) (L : HL) (T : ZT) (a3 : Int32) (a4 : Int32) (h : HI) : VX mX10_lays 3 T (gS (fun s : Int32 × Int32 × HI => V mX10_lays 3 T 21 [some (aR 8 32), some (aI a1), none, some (aI (s.1)), some (aI (s.2.1))] [] (s.2.2) L) (fun s : Int32 × HI => V mX10_lays 3 T 98 [none, none, none, some (aI (s.1)), none] [] (s.2) L)) 21 [some (aR 8 32), some (aI a1), none, some (aI a3), some (aI a4)] [] h L (SX10_lays_21 a1 L (a3, a4, h)) := by
  unfold SX10_lays_21
  refine g_iload (M := mX10_lays) (pc := 21) 23 dX10_lays_21 rfl rfl ?_
  refine g_aload_n (M := mX10_lays) (pc := 23) 24 dX10_lays_23 rfl rfl rfl ?_
  refine g_getR (M := mX10_lays) (pc := 24) 27 dX10_lays_24 rfl fX10_34 oR32_18 ?_
  refine g_iload_n (M := mX10_lays) (pc := 27) 28 dX10_lays_27 rfl rfl rfl ?_
  refine g_iald (M := mX10_lays) (pc := 28) 29 dX10_lays_28 rfl oA41 ?_
  refine g_icmp_ge (M := mX10_lays) (pc := 29) 98 32 dX10_lays_29 (by decide) rfl (fun _ => ?_) (fun _ => ?_)
  · exact g_jmp (fun z => v_fgt [false, false, false, true, false] z)
  · refine g_iload (M := mX10_lays) (pc := 32) 34 dX10_lays_32 rfl rfl ?_
    refine g_aload_n (M := mX10_lays) (pc := 34) 35 dX10_lays_34 rfl rfl rfl ?_
    refine g_getR (M := mX10_lays) (pc := 35) 38 dX10_lays_35 rfl fX10_7 oR32_0 ?_
    refine g_iconst (M := mX10_lays) (pc := 38) (v := 0) 39 dX10_lays_38 rfl ic0 ?_
    refine g_ialdC (M := mX10_lays) (pc := 39) (j := 0) 40 dX10_lays_39 rfl oA33 rfl rfl ?_
    refine g_icmp_ge (M := mX10_lays) (pc := 40) 98 43 dX10_lays_40 (by decide) rfl (fun _ => ?_) (fun _ => ?_)
    · exact g_jmp (fun z => v_fgt [false, false, false, true, false] z)
    · refine g_aload_n (M := mX10_lays) (pc := 43) 44 dX10_lays_43 rfl rfl rfl ?_
      refine g_getR (M := mX10_lays) (pc := 44) 47 dX10_lays_44 rfl fX10_37 oR32_19 ?_
      refine g_bipush (M := mX10_lays) (pc := 47) (v := 40) 49 dX10_lays_47 rfl bp40 ?_
      refine g_iload_n (M := mX10_lays) (pc := 49) 50 dX10_lays_49 rfl rfl rfl ?_
      refine g_imul (M := mX10_lays) (pc := 50) 51 dX10_lays_50 rfl ?_
      refine g_iload (M := mX10_lays) (pc := 51) 53 dX10_lays_51 rfl rfl ?_
      refine g_iadd (M := mX10_lays) (pc := 53) 54 dX10_lays_53 rfl ?_
      refine g_lald (M := mX10_lays) (pc := 54) 55 dX10_lays_54 rfl oA42 ?_
      refine g_lconst (M := mX10_lays) (pc := 55) (v := 0) 56 dX10_lays_55 rfl rfl ?_
      refine g_ldc2 (M := mX10_lays) (pc := 56) 59 dX10_lays_56 rfl cX10_61 ?_
      refine g_cS_I (M := mX10_lays) (pc := 59) (M' := mX10_in) (rest := []) 62 dX10_lays_59 rfl kX10_45 okX10_in (CX10_in (L 8 42 (nC ((40 * a1) + a4))) 0 100 h L) rfl rfl rfl rfl (fun r2 => ?_)
      refine g_if_eq (M := mX10_lays) (pc := 62) 92 65 dX10_lays_62 (by decide) rfl (fun _ => ?_) (fun _ => ?_)
      · refine g_iinc (M := mX10_lays) (pc := 92) (c := 1) (ls' := [some (aR 8 32), some (aI a1), none, some (aI a3), some (aI (a4 + 1))]) 95 dX10_lays_92 rfl ic1 rfl rfl rfl ?_
        refine g_goto (M := mX10_lays) (pc := 95) 21 dX10_lays_95 (by decide) ?_
        exact g_jmp (fun z => v_fgt [true, true, false, true, true] z)
      · refine g_aload_n (M := mX10_lays) (pc := 65) 66 dX10_lays_65 rfl rfl rfl ?_
        refine g_getR (M := mX10_lays) (pc := 66) 69 dX10_lays_66 rfl fX10_7 oR32_0 ?_
        refine g_iload (M := mX10_lays) (pc := 69) 71 dX10_lays_69 rfl rfl ?_
        refine g_iconst (M := mX10_lays) (pc := 71) (v := 4) 72 dX10_lays_71 rfl ic4 ?_
        refine g_cS_I (M := mX10_lays) (pc := 72) (M' := mX10_at) (rest := [aR 8 33]) 75 dX10_lays_72 rfl kX10_49 okX10_at (CX10_at a4 4 h L) rfl rfl rfl rfl (fun r3 => ?_)
        refine g_aload_n (M := mX10_lays) (pc := 75) 76 dX10_lays_75 rfl rfl rfl ?_
        refine g_getR (M := mX10_lays) (pc := 76) 79 dX10_lays_76 rfl fX10_37 oR32_19 ?_
        refine g_bipush (M := mX10_lays) (pc := 79) (v := 40) 81 dX10_lays_79 rfl bp40 ?_
        refine g_iload_n (M := mX10_lays) (pc := 81) 82 dX10_lays_81 rfl rfl rfl ?_
        refine g_imul (M := mX10_lays) (pc := 82) 83 dX10_lays_82 rfl ?_
        refine g_iload (M := mX10_lays) (pc := 83) 85 dX10_lays_83 rfl rfl ?_
        refine g_iadd (M := mX10_lays) (pc := 85) 86 dX10_lays_85 rfl ?_
        refine g_lald (M := mX10_lays) (pc := 86) 87 dX10_lays_86 rfl oA42 ?_
        refine g_l2i (M := mX10_lays) (pc := 87) 88 dX10_lays_87 rfl ?_
        refine g_iast (M := mX10_lays) (pc := 88) 89 dX10_lays_88 rfl oA33 (fun h4 => ?_)
        refine g_iinc (M := mX10_lays) (pc := 89) (c := 1) (ls' := [some (aR 8 32), some (aI a1), none, some (aI (a3 + 1)), some (aI a4)]) 92 dX10_lays_89 rfl ic1 rfl rfl rfl ?_
        refine g_iinc (M := mX10_lays) (pc := 92) (c := 1) (ls' := [some (aR 8 32), some (aI a1), none, some (aI (a3 + 1)), some (aI (a4 + 1))]) 95 dX10_lays_92 rfl ic1 rfl rfl rfl ?_
        refine g_goto (M := mX10_lays) (pc := 95) 21 dX10_lays_95 (by decide) ?_
        exact g_jmp (fun z => v_fgt [true, true, false, true, true] z)
set_option maxRecDepth 100000 in
set_option maxHeartbeats 4000000 in
theorem CX10_lays (a1 : Int32) (h : HI) (L : HL) : CG mX10_lays 3 [aR 8 32, aI a1] h L (lfIH L) (FX10_lays a1 h L) := by
  unfold FX10_lays
  refine cg_of [some (aR 8 32), some (aI a1), none, none, none] rfl (by decide) rfl rfl (fun T => ?_)
  refine g_aload_n (M := mX10_lays) (pc := 0) 1 dX10_lays_0 rfl rfl rfl ?_
  refine g_iload_n (M := mX10_lays) (pc := 1) 2 dX10_lays_1 rfl rfl rfl ?_
  refine g_cV_I (M := mX10_lays) (pc := 2) (M' := mX10_wrong) (rest := []) 5 dX10_lays_2 rfl kX10_327 okX10_wrong (CX10_wrong a1 h L) oO32 rfl rfl rfl rfl (fun r1 => ?_)
  refine g_istore_n (M := mX10_lays) (pc := 5) (ls' := [some (aR 8 32), some (aI a1), some (aI r1), none, none]) 6 dX10_lays_5 rfl rfl rfl rfl ?_
  refine g_iload_n (M := mX10_lays) (pc := 6) 7 dX10_lays_6 rfl rfl rfl ?_
  refine g_if_eq (M := mX10_lays) (pc := 7) 16 10 dX10_lays_7 (by decide) rfl (fun _ => ?_) (fun _ => ?_)
  · refine g_iconst (M := mX10_lays) (pc := 16) (v := 0) 17 dX10_lays_16 rfl ic0 ?_
    refine g_istore_n (M := mX10_lays) (pc := 17) (ls' := [some (aR 8 32), some (aI a1), some (aI r1), some (aI 0), none]) 18 dX10_lays_17 rfl rfl rfl rfl ?_
    refine g_iconst (M := mX10_lays) (pc := 18) (v := 0) 19 dX10_lays_18 rfl ic0 ?_
    refine g_istore (M := mX10_lays) (pc := 19) (ls' := [some (aR 8 32), some (aI a1), some (aI r1), some (aI 0), some (aI 0)]) 21 dX10_lays_19 rfl rfl rfl ?_
    refine g_loop (fun s => SX10_lays_21_ok a1 L T s.1 s.2.1 s.2.2) ?_ (fun z => v_fgt [true, true, false, true, true] z)
    rintro ⟨e5, h6⟩
    show VX mX10_lays 3 T _ 98 [none, none, none, some (aI e5), none] [] h6 L _
    refine g_iload_n (M := mX10_lays) (pc := 98) 99 dX10_lays_98 rfl rfl rfl ?_
    exact g_iret (M := mX10_lays) (pc := 99) dX10_lays_99 rfl rfl (fun z => z)
  · refine g_aload_n (M := mX10_lays) (pc := 10) 11 dX10_lays_10 rfl rfl rfl ?_
    refine g_iload_n (M := mX10_lays) (pc := 11) 12 dX10_lays_11 rfl rfl rfl ?_
    refine g_cV_IH (M := mX10_lays) (pc := 12) (M' := mX10_finds) (rest := []) 15 dX10_lays_12 rfl kX10_67 okX10_finds (CX10_finds r1 h L) oO32 rfl rfl rfl rfl (fun r7 h8 => ?_)
    exact g_iret (M := mX10_lays) (pc := 15) dX10_lays_15 rfl rfl (fun z => z)
def SX10_read_40 (a1 : Int32) (L : HL) : (Int32 × HI) → Option ((Int32 × HI) ⊕ (Int32 × HI))
  | (a3, h) =>
    gd (ixb a1 4) <|
    if (h 8 41 (nC a1)) ≤ a3 then
      some (Sum.inr (a3, h))
    else
      gd (ixb ((40 * a1) + a3) 160) <|
      if (lg_cmp (L 8 42 (nC ((40 * a1) + a3))) (Int32.toInt64 (h 8 33 4))) = 0 then
        Option.bind (FX10_day h) fun (r3, h4) =>
        some (Sum.inl ((a3 + 1), h4))
      else
        some (Sum.inr (a3, h))
def JX10_read_84 (a1 : Int32) (a3 : Int32) (h : HI) (L : HL) : Option (Int32 × HI) :=
  Option.bind (FX10_putsBack h) fun h7 =>
  gd (ixb a1 4) <|
  if a3 = (h7 8 41 (nC a1)) then
    some (0, h7)
  else
    some ((1 + a3), h7)
def FX10_read (a1 : Int32) (h : HI) (L : HL) : Option (Int32 × HI) :=
  Option.bind (FX10_wrong a1 h) fun r1 =>
  if r1 = 0 then
    if (h 8 33 3) ≤ 59 then
      Option.bind (FX10_puts h) fun h2 =>
      Option.bind (loopN (SX10_read_40 a1 L) FU (0, h2)) fun (e5, h6) =>
        JX10_read_84 a1 e5 h6 L
    else
      Option.bind (FX10_finds (-1000000005) h) fun (r8, h9) =>
      some (r8, h9)
  else
    Option.bind (FX10_finds r1 h) fun (r10, h11) =>
    some (r10, h11)
set_option maxRecDepth 100000 in
set_option maxHeartbeats 4000000 in
theorem SX10_read_40_ok (a1 : Int32) (L : HL) (T : ZT) (a3 : Int32) (h : HI) : VX mX10_read 5 T (gS (fun s : Int32 × HI => V mX10_read 5 T 40 [some (aR 8 32), some (aI a1), none, some (aI (s.1)), none] [] (s.2) L) (fun s : Int32 × HI => V mX10_read 5 T 84 [some (aR 8 32), some (aI a1), none, some (aI (s.1)), none] [] (s.2) L)) 40 [some (aR 8 32), some (aI a1), none, some (aI a3), none] [] h L (SX10_read_40 a1 L (a3, h)) := by
  unfold SX10_read_40
  refine g_iload_n (M := mX10_read) (pc := 40) 41 dX10_read_40 rfl rfl rfl ?_
  refine g_aload_n (M := mX10_read) (pc := 41) 42 dX10_read_41 rfl rfl rfl ?_
  refine g_getR (M := mX10_read) (pc := 42) 45 dX10_read_42 rfl fX10_34 oR32_18 ?_
  refine g_iload_n (M := mX10_read) (pc := 45) 46 dX10_read_45 rfl rfl rfl ?_
  refine g_iald (M := mX10_read) (pc := 46) 47 dX10_read_46 rfl oA41 ?_
  refine g_icmp_ge (M := mX10_read) (pc := 47) 84 50 dX10_read_47 (by decide) rfl (fun _ => ?_) (fun _ => ?_)
  · exact g_jmp (fun z => v_fgt [true, true, false, true, false] z)
  · refine g_aload_n (M := mX10_read) (pc := 50) 51 dX10_read_50 rfl rfl rfl ?_
    refine g_getR (M := mX10_read) (pc := 51) 54 dX10_read_51 rfl fX10_37 oR32_19 ?_
    refine g_bipush (M := mX10_read) (pc := 54) (v := 40) 56 dX10_read_54 rfl bp40 ?_
    refine g_iload_n (M := mX10_read) (pc := 56) 57 dX10_read_56 rfl rfl rfl ?_
    refine g_imul (M := mX10_read) (pc := 57) 58 dX10_read_57 rfl ?_
    refine g_iload_n (M := mX10_read) (pc := 58) 59 dX10_read_58 rfl rfl rfl ?_
    refine g_iadd (M := mX10_read) (pc := 59) 60 dX10_read_59 rfl ?_
    refine g_lald (M := mX10_read) (pc := 60) 61 dX10_read_60 rfl oA42 ?_
    refine g_aload_n (M := mX10_read) (pc := 61) 62 dX10_read_61 rfl rfl rfl ?_
    refine g_getR (M := mX10_read) (pc := 62) 65 dX10_read_62 rfl fX10_7 oR32_0 ?_
    refine g_iconst (M := mX10_read) (pc := 65) (v := 4) 66 dX10_read_65 rfl ic4 ?_
    refine g_ialdC (M := mX10_read) (pc := 66) (j := 4) 67 dX10_read_66 rfl oA33 rfl rfl ?_
    refine g_i2l (M := mX10_read) (pc := 67) 68 dX10_read_67 rfl ?_
    refine g_lcmp (M := mX10_read) (pc := 68) 69 dX10_read_68 rfl ?_
    refine g_if_ne (M := mX10_read) (pc := 69) 84 72 dX10_read_69 (by decide) rfl (fun _ => ?_) (fun _ => ?_)
    · exact g_jmp (fun z => v_fgt [true, true, false, true, false] z)
    · refine g_aload_n (M := mX10_read) (pc := 72) 73 dX10_read_72 rfl rfl rfl ?_
      refine g_cV_IH (M := mX10_read) (pc := 73) (M' := mX10_day) (rest := []) 76 dX10_read_73 rfl kX10_176 okX10_day (CX10_day h L) oO32 rfl rfl rfl rfl (fun r3 h4 => ?_)
      refine g_istore (M := mX10_read) (pc := 76) (ls' := [some (aR 8 32), some (aI a1), none, some (aI a3), some (aI r3)]) 78 dX10_read_76 rfl rfl rfl ?_
      refine g_iinc (M := mX10_read) (pc := 78) (c := 1) (ls' := [some (aR 8 32), some (aI a1), none, some (aI (a3 + 1)), some (aI r3)]) 81 dX10_read_78 rfl ic1 rfl rfl rfl ?_
      refine g_goto (M := mX10_read) (pc := 81) 40 dX10_read_81 (by decide) ?_
      exact g_jmp (fun z => v_fgt [true, true, false, true, false] z)
set_option maxRecDepth 100000 in
set_option maxHeartbeats 4000000 in
theorem JX10_read_84_ok (a1 : Int32) (a3 : Int32) (T : ZT) (h : HI) (L : HL) : VX mX10_read 5 T (fun r => Zl (lfIH L) r = T) 84 [some (aR 8 32), some (aI a1), none, some (aI a3), none] [] h L (JX10_read_84 a1 a3 h L) := by
  unfold JX10_read_84
  refine g_aload_n (M := mX10_read) (pc := 84) 85 dX10_read_84 rfl rfl rfl ?_
  refine g_cV_VH (M := mX10_read) (pc := 85) (M' := mX10_putsBack) (rest := []) 88 dX10_read_85 rfl kX10_194 okX10_putsBack (CX10_putsBack h L) oO32 rfl rfl rfl rfl (fun h7 => ?_)
  refine g_iload_n (M := mX10_read) (pc := 88) 89 dX10_read_88 rfl rfl rfl ?_
  refine g_aload_n (M := mX10_read) (pc := 89) 90 dX10_read_89 rfl rfl rfl ?_
  refine g_getR (M := mX10_read) (pc := 90) 93 dX10_read_90 rfl fX10_34 oR32_18 ?_
  refine g_iload_n (M := mX10_read) (pc := 93) 94 dX10_read_93 rfl rfl rfl ?_
  refine g_iald (M := mX10_read) (pc := 94) 95 dX10_read_94 rfl oA41 ?_
  refine g_icmp_ne (M := mX10_read) (pc := 95) 102 98 dX10_read_95 (by decide) rfl (fun _ => ?_) (fun _ => ?_)
  · refine g_iconst (M := mX10_read) (pc := 102) (v := 1) 103 dX10_read_102 rfl ic1 ?_
    refine g_iload_n (M := mX10_read) (pc := 103) 104 dX10_read_103 rfl rfl rfl ?_
    refine g_iadd (M := mX10_read) (pc := 104) 105 dX10_read_104 rfl ?_
    exact g_iret (M := mX10_read) (pc := 105) dX10_read_105 rfl rfl (fun z => z)
  · refine g_iconst (M := mX10_read) (pc := 98) (v := 0) 99 dX10_read_98 rfl ic0 ?_
    refine g_goto (M := mX10_read) (pc := 99) 105 dX10_read_99 (by decide) ?_
    exact g_iret (M := mX10_read) (pc := 105) dX10_read_105 rfl rfl (fun z => z)
set_option maxRecDepth 100000 in
set_option maxHeartbeats 4000000 in
theorem CX10_read (a1 : Int32) (h : HI) (L : HL) : CG mX10_read 5 [aR 8 32, aI a1] h L (lfIH L) (FX10_read a1 h L) := by
  unfold FX10_read
  refine cg_of [some (aR 8 32), some (aI a1), none, none, none] rfl (by decide) rfl rfl (fun T => ?_)
  refine g_aload_n (M := mX10_read) (pc := 0) 1 dX10_read_0 rfl rfl rfl ?_
  refine g_iload_n (M := mX10_read) (pc := 1) 2 dX10_read_1 rfl rfl rfl ?_
  refine g_cV_I (M := mX10_read) (pc := 2) (M' := mX10_wrong) (rest := []) 5 dX10_read_2 rfl kX10_327 okX10_wrong (CX10_wrong a1 h L) oO32 rfl rfl rfl rfl (fun r1 => ?_)
  refine g_istore_n (M := mX10_read) (pc := 5) (ls' := [some (aR 8 32), some (aI a1), some (aI r1), none, none]) 6 dX10_read_5 rfl rfl rfl rfl ?_
  refine g_iload_n (M := mX10_read) (pc := 6) 7 dX10_read_6 rfl rfl rfl ?_
  refine g_if_eq (M := mX10_read) (pc := 7) 16 10 dX10_read_7 (by decide) rfl (fun _ => ?_) (fun _ => ?_)
  · refine g_aload_n (M := mX10_read) (pc := 16) 17 dX10_read_16 rfl rfl rfl ?_
    refine g_getR (M := mX10_read) (pc := 17) 20 dX10_read_17 rfl fX10_7 oR32_0 ?_
    refine g_iconst (M := mX10_read) (pc := 20) (v := 3) 21 dX10_read_20 rfl ic3 ?_
    refine g_ialdC (M := mX10_read) (pc := 21) (j := 3) 22 dX10_read_21 rfl oA33 rfl rfl ?_
    refine g_bipush (M := mX10_read) (pc := 22) (v := 59) 24 dX10_read_22 rfl bp59 ?_
    refine g_icmp_le (M := mX10_read) (pc := 24) 34 27 dX10_read_24 (by decide) rfl (fun _ => ?_) (fun _ => ?_)
    · refine g_aload_n (M := mX10_read) (pc := 34) 35 dX10_read_34 rfl rfl rfl ?_
      refine g_cV_VH (M := mX10_read) (pc := 35) (M' := mX10_puts) (rest := []) 38 dX10_read_35 rfl kX10_188 okX10_puts (CX10_puts h L) oO32 rfl rfl rfl rfl (fun h2 => ?_)
      refine g_iconst (M := mX10_read) (pc := 38) (v := 0) 39 dX10_read_38 rfl ic0 ?_
      refine g_istore_n (M := mX10_read) (pc := 39) (ls' := [some (aR 8 32), some (aI a1), some (aI r1), some (aI 0), none]) 40 dX10_read_39 rfl rfl rfl rfl ?_
      refine g_loop (fun s => SX10_read_40_ok a1 L T s.1 s.2) ?_ (fun z => v_fgt [true, true, false, true, false] z)
      rintro ⟨e5, h6⟩
      show VX mX10_read 5 T _ 84 [some (aR 8 32), some (aI a1), none, some (aI e5), none] [] h6 L _
      exact g_fgt [true, true, false, true, false] (JX10_read_84_ok a1 e5 T h6 L)
    · refine g_aload_n (M := mX10_read) (pc := 27) 28 dX10_read_27 rfl rfl rfl ?_
      refine g_ldc (M := mX10_read) (pc := 28) 30 dX10_read_28 rfl cX10_184 ?_
      refine g_cV_IH (M := mX10_read) (pc := 30) (M' := mX10_finds) (rest := []) 33 dX10_read_30 rfl kX10_67 okX10_finds (CX10_finds (-1000000005) h L) oO32 rfl rfl rfl rfl (fun r8 h9 => ?_)
      exact g_iret (M := mX10_read) (pc := 33) dX10_read_33 rfl rfl (fun z => z)
  · refine g_aload_n (M := mX10_read) (pc := 10) 11 dX10_read_10 rfl rfl rfl ?_
    refine g_iload_n (M := mX10_read) (pc := 11) 12 dX10_read_11 rfl rfl rfl ?_
    refine g_cV_IH (M := mX10_read) (pc := 12) (M' := mX10_finds) (rest := []) 15 dX10_read_12 rfl kX10_67 okX10_finds (CX10_finds r1 h L) oO32 rfl rfl rfl rfl (fun r10 h11 => ?_)
    exact g_iret (M := mX10_read) (pc := 15) dX10_read_15 rfl rfl (fun z => z)
def SX10_image_2 : (Int32 × HI) → Option ((Int32 × HI) ⊕ (HI))
  | (a1, h) =>
    if 150 ≤ a1 then
      some (Sum.inr h)
    else
      gd (ixb a1 150) <|
      gd (ixb a1 150) <|
      nm (hP1 h 8 34 (nC a1) (h 8 33 (nC a1))) fun h1 =>
      some (Sum.inl ((a1 + 1), h1))
def FX10_image (h : HI) : Option (Int32 × HI) :=
  Option.bind (loopN (SX10_image_2) FU (0, h)) fun h2 =>
    nm (hP1 h2 8 32 4 1) fun h3 =>
    some (1, h3)
set_option maxRecDepth 100000 in
set_option maxHeartbeats 4000000 in
theorem SX10_image_2_ok (L : HL) (T : ZT) (a1 : Int32) (h : HI) : VX mX10_image 0 T (gS (fun s : Int32 × HI => V mX10_image 0 T 2 [some (aR 8 32), some (aI (s.1))] [] (s.2) L) (fun s : HI => V mX10_image 0 T 27 [some (aR 8 32), none] [] s L)) 2 [some (aR 8 32), some (aI a1)] [] h L (SX10_image_2 (a1, h)) := by
  unfold SX10_image_2
  refine g_iload_n (M := mX10_image) (pc := 2) 3 dX10_image_2 rfl rfl rfl ?_
  refine g_sipush (M := mX10_image) (pc := 3) (v := 150) 6 dX10_image_3 rfl sp150 ?_
  refine g_icmp_ge (M := mX10_image) (pc := 6) 27 9 dX10_image_6 (by decide) rfl (fun _ => ?_) (fun _ => ?_)
  · exact g_jmp (fun z => v_fgt [true, false] z)
  · refine g_aload_n (M := mX10_image) (pc := 9) 10 dX10_image_9 rfl rfl rfl ?_
    refine g_getR (M := mX10_image) (pc := 10) 13 dX10_image_10 rfl fX10_13 oR32_1 ?_
    refine g_iload_n (M := mX10_image) (pc := 13) 14 dX10_image_13 rfl rfl rfl ?_
    refine g_aload_n (M := mX10_image) (pc := 14) 15 dX10_image_14 rfl rfl rfl ?_
    refine g_getR (M := mX10_image) (pc := 15) 18 dX10_image_15 rfl fX10_7 oR32_0 ?_
    refine g_iload_n (M := mX10_image) (pc := 18) 19 dX10_image_18 rfl rfl rfl ?_
    refine g_iald (M := mX10_image) (pc := 19) 20 dX10_image_19 rfl oA33 ?_
    refine g_iast (M := mX10_image) (pc := 20) 21 dX10_image_20 rfl oA34 (fun h1 => ?_)
    refine g_iinc (M := mX10_image) (pc := 21) (c := 1) (ls' := [some (aR 8 32), some (aI (a1 + 1))]) 24 dX10_image_21 rfl ic1 rfl rfl rfl ?_
    refine g_goto (M := mX10_image) (pc := 24) 2 dX10_image_24 (by decide) ?_
    exact g_jmp (fun z => v_fgt [true, true] z)
set_option maxRecDepth 100000 in
set_option maxHeartbeats 4000000 in
theorem CX10_image (h : HI) (L : HL) : CG mX10_image 0 [aR 8 32] h L (lfIH L) (FX10_image h) := by
  unfold FX10_image
  refine cg_of [some (aR 8 32), none] rfl (by decide) rfl rfl (fun T => ?_)
  refine g_iconst (M := mX10_image) (pc := 0) (v := 0) 1 dX10_image_0 rfl ic0 ?_
  refine g_istore_n (M := mX10_image) (pc := 1) (ls' := [some (aR 8 32), some (aI 0)]) 2 dX10_image_1 rfl rfl rfl rfl ?_
  refine g_loop (fun s => SX10_image_2_ok L T s.1 s.2) ?_ (fun z => v_fgt [true, true] z)
  intro h2
  show VX mX10_image 0 T _ 27 [some (aR 8 32), none] [] h2 L _
  refine g_aload_n (M := mX10_image) (pc := 27) 28 dX10_image_27 rfl rfl rfl ?_
  refine g_iconst (M := mX10_image) (pc := 28) (v := 1) 29 dX10_image_28 rfl ic1 ?_
  refine g_put (M := mX10_image) (pc := 29) 32 dX10_image_29 rfl pX10_334 oF32_4 nz1 fz1 (fun h3 => ?_)
  refine g_iconst (M := mX10_image) (pc := 32) (v := 1) 33 dX10_image_32 rfl ic1 ?_
  exact g_iret (M := mX10_image) (pc := 33) dX10_image_33 rfl rfl (fun z => z)
def SX10_undo_16 : (Int32 × HI) → Option ((Int32 × HI) ⊕ (HI))
  | (a1, h) =>
    if 150 ≤ a1 then
      some (Sum.inr h)
    else
      gd (ixb a1 150) <|
      gd (ixb a1 150) <|
      nm (hP1 h 8 33 (nC a1) (h 8 34 (nC a1))) fun h1 =>
      some (Sum.inl ((a1 + 1), h1))
def FX10_undo (h : HI) : Option (Int32 × HI) :=
  if (h 8 32 4) = 0 then
    Option.bind (FX10_finds (-1000000004) h) fun (r3, h4) =>
    some (r3, h4)
  else
    Option.bind (loopN (SX10_undo_16) FU (0, h)) fun h2 =>
      some ((h2 8 33 0), h2)
set_option maxRecDepth 100000 in
set_option maxHeartbeats 4000000 in
theorem SX10_undo_16_ok (L : HL) (T : ZT) (a1 : Int32) (h : HI) : VX mX10_undo 1 T (gS (fun s : Int32 × HI => V mX10_undo 1 T 16 [some (aR 8 32), some (aI (s.1))] [] (s.2) L) (fun s : HI => V mX10_undo 1 T 41 [some (aR 8 32), none] [] s L)) 16 [some (aR 8 32), some (aI a1)] [] h L (SX10_undo_16 (a1, h)) := by
  unfold SX10_undo_16
  refine g_iload_n (M := mX10_undo) (pc := 16) 17 dX10_undo_16 rfl rfl rfl ?_
  refine g_sipush (M := mX10_undo) (pc := 17) (v := 150) 20 dX10_undo_17 rfl sp150 ?_
  refine g_icmp_ge (M := mX10_undo) (pc := 20) 41 23 dX10_undo_20 (by decide) rfl (fun _ => ?_) (fun _ => ?_)
  · exact g_jmp (fun z => v_fgt [true, false] z)
  · refine g_aload_n (M := mX10_undo) (pc := 23) 24 dX10_undo_23 rfl rfl rfl ?_
    refine g_getR (M := mX10_undo) (pc := 24) 27 dX10_undo_24 rfl fX10_7 oR32_0 ?_
    refine g_iload_n (M := mX10_undo) (pc := 27) 28 dX10_undo_27 rfl rfl rfl ?_
    refine g_aload_n (M := mX10_undo) (pc := 28) 29 dX10_undo_28 rfl rfl rfl ?_
    refine g_getR (M := mX10_undo) (pc := 29) 32 dX10_undo_29 rfl fX10_13 oR32_1 ?_
    refine g_iload_n (M := mX10_undo) (pc := 32) 33 dX10_undo_32 rfl rfl rfl ?_
    refine g_iald (M := mX10_undo) (pc := 33) 34 dX10_undo_33 rfl oA34 ?_
    refine g_iast (M := mX10_undo) (pc := 34) 35 dX10_undo_34 rfl oA33 (fun h1 => ?_)
    refine g_iinc (M := mX10_undo) (pc := 35) (c := 1) (ls' := [some (aR 8 32), some (aI (a1 + 1))]) 38 dX10_undo_35 rfl ic1 rfl rfl rfl ?_
    refine g_goto (M := mX10_undo) (pc := 38) 16 dX10_undo_38 (by decide) ?_
    exact g_jmp (fun z => v_fgt [true, true] z)
set_option maxRecDepth 100000 in
set_option maxHeartbeats 4000000 in
theorem CX10_undo (h : HI) (L : HL) : CG mX10_undo 1 [aR 8 32] h L (lfIH L) (FX10_undo h) := by
  unfold FX10_undo
  refine cg_of [some (aR 8 32), none] rfl (by decide) rfl rfl (fun T => ?_)
  refine g_aload_n (M := mX10_undo) (pc := 0) 1 dX10_undo_0 rfl rfl rfl ?_
  refine g_getI (M := mX10_undo) (pc := 1) 4 dX10_undo_1 rfl fX10_334 oF32_4 ?_
  refine g_if_ne (M := mX10_undo) (pc := 4) 14 7 dX10_undo_4 (by decide) rfl (fun _ => ?_) (fun _ => ?_)
  · refine g_iconst (M := mX10_undo) (pc := 14) (v := 0) 15 dX10_undo_14 rfl ic0 ?_
    refine g_istore_n (M := mX10_undo) (pc := 15) (ls' := [some (aR 8 32), some (aI 0)]) 16 dX10_undo_15 rfl rfl rfl rfl ?_
    refine g_loop (fun s => SX10_undo_16_ok L T s.1 s.2) ?_ (fun z => v_fgt [true, true] z)
    intro h2
    show VX mX10_undo 1 T _ 41 [some (aR 8 32), none] [] h2 L _
    refine g_aload_n (M := mX10_undo) (pc := 41) 42 dX10_undo_41 rfl rfl rfl ?_
    refine g_getR (M := mX10_undo) (pc := 42) 45 dX10_undo_42 rfl fX10_7 oR32_0 ?_
    refine g_iconst (M := mX10_undo) (pc := 45) (v := 0) 46 dX10_undo_45 rfl ic0 ?_
    refine g_ialdC (M := mX10_undo) (pc := 46) (j := 0) 47 dX10_undo_46 rfl oA33 rfl rfl ?_
    exact g_iret (M := mX10_undo) (pc := 47) dX10_undo_47 rfl rfl (fun z => z)
  · refine g_aload_n (M := mX10_undo) (pc := 7) 8 dX10_undo_7 rfl rfl rfl ?_
    refine g_ldc (M := mX10_undo) (pc := 8) 10 dX10_undo_8 rfl cX10_132 ?_
    refine g_cV_IH (M := mX10_undo) (pc := 10) (M' := mX10_finds) (rest := []) 13 dX10_undo_10 rfl kX10_67 okX10_finds (CX10_finds (-1000000004) h L) oO32 rfl rfl rfl rfl (fun r3 h4 => ?_)
    exact g_iret (M := mX10_undo) (pc := 13) dX10_undo_13 rfl rfl (fun z => z)
def FX10_tear (h : HI) : Option (Int32 × HI) :=
  if (h 8 32 4) = 0 then
    nm (hP1 h 8 32 4 0) fun h1 =>
    some (0, h1)
  else
    nm (hP1 h 8 32 4 0) fun h2 =>
    some (1, h2)
set_option maxRecDepth 100000 in
set_option maxHeartbeats 4000000 in
theorem CX10_tear (h : HI) (L : HL) : CG mX10_tear 0 [aR 8 32] h L (lfIH L) (FX10_tear h) := by
  unfold FX10_tear
  refine cg_of [some (aR 8 32), none] rfl (by decide) rfl rfl (fun T => ?_)
  refine g_aload_n (M := mX10_tear) (pc := 0) 1 dX10_tear_0 rfl rfl rfl ?_
  refine g_getI (M := mX10_tear) (pc := 1) 4 dX10_tear_1 rfl fX10_334 oF32_4 ?_
  refine g_if_eq (M := mX10_tear) (pc := 4) 11 7 dX10_tear_4 (by decide) rfl (fun _ => ?_) (fun _ => ?_)
  · refine g_iconst (M := mX10_tear) (pc := 11) (v := 0) 12 dX10_tear_11 rfl ic0 ?_
    refine g_istore_n (M := mX10_tear) (pc := 12) (ls' := [some (aR 8 32), some (aI 0)]) 13 dX10_tear_12 rfl rfl rfl rfl ?_
    refine g_aload_n (M := mX10_tear) (pc := 13) 14 dX10_tear_13 rfl rfl rfl ?_
    refine g_iconst (M := mX10_tear) (pc := 14) (v := 0) 15 dX10_tear_14 rfl ic0 ?_
    refine g_put (M := mX10_tear) (pc := 15) 18 dX10_tear_15 rfl pX10_334 oF32_4 nz0 fz0 (fun h1 => ?_)
    refine g_iload_n (M := mX10_tear) (pc := 18) 19 dX10_tear_18 rfl rfl rfl ?_
    exact g_iret (M := mX10_tear) (pc := 19) dX10_tear_19 rfl rfl (fun z => z)
  · refine g_iconst (M := mX10_tear) (pc := 7) (v := 1) 8 dX10_tear_7 rfl ic1 ?_
    refine g_goto (M := mX10_tear) (pc := 8) 12 dX10_tear_8 (by decide) ?_
    refine g_istore_n (M := mX10_tear) (pc := 12) (ls' := [some (aR 8 32), some (aI 1)]) 13 dX10_tear_12 rfl rfl rfl rfl ?_
    refine g_aload_n (M := mX10_tear) (pc := 13) 14 dX10_tear_13 rfl rfl rfl ?_
    refine g_iconst (M := mX10_tear) (pc := 14) (v := 0) 15 dX10_tear_14 rfl ic0 ?_
    refine g_put (M := mX10_tear) (pc := 15) 18 dX10_tear_15 rfl pX10_334 oF32_4 nz0 fz0 (fun h2 => ?_)
    refine g_iload_n (M := mX10_tear) (pc := 18) 19 dX10_tear_18 rfl rfl rfl ?_
    exact g_iret (M := mX10_tear) (pc := 19) dX10_tear_19 rfl rfl (fun z => z)
def FX10_count (a1 : Int32) (h : HI) : Option (Int32 × HI) :=
  if a1 = 0 then
    some ((h 8 33 0), h)
  else
  if a1 = 1 then
    some ((h 8 33 1), h)
  else
  if a1 = 2 then
    some ((h 8 33 5), h)
  else
  if a1 = 3 then
    some ((h 8 32 12), h)
  else
  if a1 = 4 then
    Option.bind (FX10_sumOf 4 h) fun r1 =>
    some (r1, h)
  else
  if a1 = 5 then
    Option.bind (FX10_sumOf 5 h) fun r2 =>
    some (r2, h)
  else
  Option.bind (FX10_finds (-1000000001) h) fun (r3, h4) =>
  some (r3, h4)
set_option maxRecDepth 100000 in
set_option maxHeartbeats 4000000 in
theorem CX10_count (a1 : Int32) (h : HI) (L : HL) : CG mX10_count 3 [aR 8 32, aI a1] h L (lfIH L) (FX10_count a1 h) := by
  unfold FX10_count
  refine cg_of [some (aR 8 32), some (aI a1)] rfl (by decide) rfl rfl (fun T => ?_)
  refine g_iload_n (M := mX10_count) (pc := 0) 1 dX10_count_0 rfl rfl rfl ?_
  refine g_tsc (M := mX10_count) (pc := 1) (v := 0) 40 dX10_count_1 (by decide) (by decide) rfl (by decide) (fun _ => ?_) (fun z0 => ?_)
  · refine g_aload_n (M := mX10_count) (pc := 40) 41 dX10_count_40 rfl rfl rfl ?_
    refine g_getR (M := mX10_count) (pc := 41) 44 dX10_count_41 rfl fX10_7 oR32_0 ?_
    refine g_iconst (M := mX10_count) (pc := 44) (v := 0) 45 dX10_count_44 rfl ic0 ?_
    refine g_ialdC (M := mX10_count) (pc := 45) (j := 0) 46 dX10_count_45 rfl oA33 rfl rfl ?_
    exact g_iret (M := mX10_count) (pc := 46) dX10_count_46 rfl rfl (fun z => z)
  refine g_tsc (M := mX10_count) (pc := 1) (v := 1) 47 dX10_count_1 (by decide) (by decide) rfl (by decide) (fun _ => ?_) (fun z1 => ?_)
  · refine g_aload_n (M := mX10_count) (pc := 47) 48 dX10_count_47 rfl rfl rfl ?_
    refine g_getR (M := mX10_count) (pc := 48) 51 dX10_count_48 rfl fX10_7 oR32_0 ?_
    refine g_iconst (M := mX10_count) (pc := 51) (v := 1) 52 dX10_count_51 rfl ic1 ?_
    refine g_ialdC (M := mX10_count) (pc := 52) (j := 1) 53 dX10_count_52 rfl oA33 rfl rfl ?_
    exact g_iret (M := mX10_count) (pc := 53) dX10_count_53 rfl rfl (fun z => z)
  refine g_tsc (M := mX10_count) (pc := 1) (v := 2) 54 dX10_count_1 (by decide) (by decide) rfl (by decide) (fun _ => ?_) (fun z2 => ?_)
  · refine g_aload_n (M := mX10_count) (pc := 54) 55 dX10_count_54 rfl rfl rfl ?_
    refine g_getR (M := mX10_count) (pc := 55) 58 dX10_count_55 rfl fX10_7 oR32_0 ?_
    refine g_iconst (M := mX10_count) (pc := 58) (v := 5) 59 dX10_count_58 rfl ic5 ?_
    refine g_ialdC (M := mX10_count) (pc := 59) (j := 5) 60 dX10_count_59 rfl oA33 rfl rfl ?_
    exact g_iret (M := mX10_count) (pc := 60) dX10_count_60 rfl rfl (fun z => z)
  refine g_tsc (M := mX10_count) (pc := 1) (v := 3) 61 dX10_count_1 (by decide) (by decide) rfl (by decide) (fun _ => ?_) (fun z3 => ?_)
  · refine g_aload_n (M := mX10_count) (pc := 61) 62 dX10_count_61 rfl rfl rfl ?_
    refine g_getI (M := mX10_count) (pc := 62) 65 dX10_count_62 rfl fX10_219 oF32_12 ?_
    exact g_iret (M := mX10_count) (pc := 65) dX10_count_65 rfl rfl (fun z => z)
  refine g_tsc (M := mX10_count) (pc := 1) (v := 4) 66 dX10_count_1 (by decide) (by decide) rfl (by decide) (fun _ => ?_) (fun z4 => ?_)
  · refine g_aload_n (M := mX10_count) (pc := 66) 67 dX10_count_66 rfl rfl rfl ?_
    refine g_iconst (M := mX10_count) (pc := 67) (v := 4) 68 dX10_count_67 rfl ic4 ?_
    refine g_cV_I (M := mX10_count) (pc := 68) (M' := mX10_sumOf) (rest := []) 71 dX10_count_68 rfl kX10_191 okX10_sumOf (CX10_sumOf 4 h L) oO32 rfl rfl rfl rfl (fun r1 => ?_)
    exact g_iret (M := mX10_count) (pc := 71) dX10_count_71 rfl rfl (fun z => z)
  refine g_tsc (M := mX10_count) (pc := 1) (v := 5) 72 dX10_count_1 (by decide) (by decide) rfl (by decide) (fun _ => ?_) (fun z5 => ?_)
  · refine g_aload_n (M := mX10_count) (pc := 72) 73 dX10_count_72 rfl rfl rfl ?_
    refine g_iconst (M := mX10_count) (pc := 73) (v := 5) 74 dX10_count_73 rfl ic5 ?_
    refine g_cV_I (M := mX10_count) (pc := 74) (M' := mX10_sumOf) (rest := []) 77 dX10_count_74 rfl kX10_191 okX10_sumOf (CX10_sumOf 5 h L) oO32 rfl rfl rfl rfl (fun r2 => ?_)
    exact g_iret (M := mX10_count) (pc := 77) dX10_count_77 rfl rfl (fun z => z)
  refine g_tsOut (M := mX10_count) (pc := 1) 78 dX10_count_1 (by have y0 := lv_neT z0 (a := 0) rfl; have y1 := lv_neT z1 (a := 1) rfl; have y2 := lv_neT z2 (a := 2) rfl; have y3 := lv_neT z3 (a := 3) rfl; have y4 := lv_neT z4 (a := 4) rfl; have y5 := lv_neT z5 (a := 5) rfl; omega) (by decide) ?_
  refine g_aload_n (M := mX10_count) (pc := 78) 79 dX10_count_78 rfl rfl rfl ?_
  refine g_ldc (M := mX10_count) (pc := 79) 81 dX10_count_79 rfl cX10_44 ?_
  refine g_cV_IH (M := mX10_count) (pc := 81) (M' := mX10_finds) (rest := []) 84 dX10_count_81 rfl kX10_67 okX10_finds (CX10_finds (-1000000001) h L) oO32 rfl rfl rfl rfl (fun r3 h4 => ?_)
  exact g_iret (M := mX10_count) (pc := 84) dX10_count_84 rfl rfl (fun z => z)
def JX10_status_41 (a1 : Int32) (a3 : Int32) (s0 : Int32) (h : HI) : Option ((Int32 × Int32) ⊕ (Int32)) :=
  gd (ixb a3 7) <|
  nm (s0 + (h 8 36 (nC a3))) fun t2 =>
  some (Sum.inl (t2, (a3 + 1)))
def SX10_status_25 (a1 : Int32) (h : HI) : (Int32 × Int32) → Option ((Int32 × Int32) ⊕ (Int32))
  | (a2, a3) =>
    if 7 ≤ a3 then
      some (Sum.inr a2)
    else
      if a1 < 0 then
        JX10_status_41 a1 a3 a2 h
      else
        if a3 = a1 then
          JX10_status_41 a1 a3 a2 h
        else
          nm (a2 + 0) fun t3 =>
          some (Sum.inl (t3, (a3 + 1)))
def FX10_status (a1 : Int32) (h : HI) : Option (Int32 × HI) :=
  Option.bind (FX10_in (Int32.toInt64 a1) (-1) 6) fun r1 =>
  if r1 = 0 then
    Option.bind (FX10_finds (-1000000001) h) fun (r5, h6) =>
    some (r5, h6)
  else
    Option.bind (loopN (SX10_status_25 a1 h) FU (0, 0)) fun e4 =>
      some (e4, h)
set_option maxRecDepth 100000 in
set_option maxHeartbeats 4000000 in
theorem JX10_status_41_ok (a1 : Int32) (a3 : Int32) (s0 : Int32) (T : ZT) (h : HI) (L : HL) : VX mX10_status 1 T (gS (fun s : Int32 × Int32 => V mX10_status 1 T 25 [some (aR 8 32), some (aI a1), some (aI (s.1)), some (aI (s.2))] [] h L) (fun s : Int32 => V mX10_status 1 T 59 [none, none, some (aI s), none] [] h L)) 41 [some (aR 8 32), some (aI a1), none, some (aI a3)] [aI s0] h L (JX10_status_41 a1 a3 s0 h) := by
  unfold JX10_status_41
  refine g_aload_n (M := mX10_status) (pc := 41) 42 dX10_status_41 rfl rfl rfl ?_
  refine g_getR (M := mX10_status) (pc := 42) 45 dX10_status_42 rfl fX10_19 oR32_3 ?_
  refine g_iload_n (M := mX10_status) (pc := 45) 46 dX10_status_45 rfl rfl rfl ?_
  refine g_iald (M := mX10_status) (pc := 46) 47 dX10_status_46 rfl oA36 ?_
  refine g_goto (M := mX10_status) (pc := 47) 51 dX10_status_47 (by decide) ?_
  refine g_iadd (M := mX10_status) (pc := 51) 52 dX10_status_51 rfl ?_
  refine g_nmI (fun t2 => ?_)
  refine g_istore_n (M := mX10_status) (pc := 52) (ls' := [some (aR 8 32), some (aI a1), some (aI t2), some (aI a3)]) 53 dX10_status_52 rfl rfl rfl rfl ?_
  refine g_iinc (M := mX10_status) (pc := 53) (c := 1) (ls' := [some (aR 8 32), some (aI a1), some (aI t2), some (aI (a3 + 1))]) 56 dX10_status_53 rfl ic1 rfl rfl rfl ?_
  refine g_goto (M := mX10_status) (pc := 56) 25 dX10_status_56 (by decide) ?_
  exact g_jmp (fun z => v_fgt [true, true, true, true] z)
set_option maxRecDepth 100000 in
set_option maxHeartbeats 4000000 in
theorem SX10_status_25_ok (a1 : Int32) (h : HI) (L : HL) (T : ZT) (a2 : Int32) (a3 : Int32) : VX mX10_status 1 T (gS (fun s : Int32 × Int32 => V mX10_status 1 T 25 [some (aR 8 32), some (aI a1), some (aI (s.1)), some (aI (s.2))] [] h L) (fun s : Int32 => V mX10_status 1 T 59 [none, none, some (aI s), none] [] h L)) 25 [some (aR 8 32), some (aI a1), some (aI a2), some (aI a3)] [] h L (SX10_status_25 a1 h (a2, a3)) := by
  unfold SX10_status_25
  refine g_iload_n (M := mX10_status) (pc := 25) 26 dX10_status_25 rfl rfl rfl ?_
  refine g_bipush (M := mX10_status) (pc := 26) (v := 7) 28 dX10_status_26 rfl bp7 ?_
  refine g_icmp_ge (M := mX10_status) (pc := 28) 59 31 dX10_status_28 (by decide) rfl (fun _ => ?_) (fun _ => ?_)
  · exact g_jmp (fun z => v_fgt [false, false, true, false] z)
  · refine g_iload_n (M := mX10_status) (pc := 31) 32 dX10_status_31 rfl rfl rfl ?_
    refine g_iload_n (M := mX10_status) (pc := 32) 33 dX10_status_32 rfl rfl rfl ?_
    refine g_if_lt (M := mX10_status) (pc := 33) 41 36 dX10_status_33 (by decide) rfl (fun _ => ?_) (fun _ => ?_)
    · exact g_fgt [true, true, false, true] (JX10_status_41_ok a1 a3 a2 T h L)
    · refine g_iload_n (M := mX10_status) (pc := 36) 37 dX10_status_36 rfl rfl rfl ?_
      refine g_iload_n (M := mX10_status) (pc := 37) 38 dX10_status_37 rfl rfl rfl ?_
      refine g_icmp_ne (M := mX10_status) (pc := 38) 50 41 dX10_status_38 (by decide) rfl (fun _ => ?_) (fun _ => ?_)
      · refine g_iconst (M := mX10_status) (pc := 50) (v := 0) 51 dX10_status_50 rfl ic0 ?_
        refine g_iadd (M := mX10_status) (pc := 51) 52 dX10_status_51 rfl ?_
        refine g_nmI (fun t3 => ?_)
        refine g_istore_n (M := mX10_status) (pc := 52) (ls' := [some (aR 8 32), some (aI a1), some (aI t3), some (aI a3)]) 53 dX10_status_52 rfl rfl rfl rfl ?_
        refine g_iinc (M := mX10_status) (pc := 53) (c := 1) (ls' := [some (aR 8 32), some (aI a1), some (aI t3), some (aI (a3 + 1))]) 56 dX10_status_53 rfl ic1 rfl rfl rfl ?_
        refine g_goto (M := mX10_status) (pc := 56) 25 dX10_status_56 (by decide) ?_
        exact g_jmp (fun z => v_fgt [true, true, true, true] z)
      · exact g_fgt [true, true, false, true] (JX10_status_41_ok a1 a3 a2 T h L)
set_option maxRecDepth 100000 in
set_option maxHeartbeats 4000000 in
theorem CX10_status (a1 : Int32) (h : HI) (L : HL) : CG mX10_status 1 [aR 8 32, aI a1] h L (lfIH L) (FX10_status a1 h) := by
  unfold FX10_status
  refine cg_of [some (aR 8 32), some (aI a1), none, none] rfl (by decide) rfl rfl (fun T => ?_)
  refine g_iload_n (M := mX10_status) (pc := 0) 1 dX10_status_0 rfl rfl rfl ?_
  refine g_i2l (M := mX10_status) (pc := 1) 2 dX10_status_1 rfl ?_
  refine g_ldc2 (M := mX10_status) (pc := 2) 5 dX10_status_2 rfl cX10_206 ?_
  refine g_ldc2 (M := mX10_status) (pc := 5) 8 dX10_status_5 rfl cX10_337 ?_
  refine g_cS_I (M := mX10_status) (pc := 8) (M' := mX10_in) (rest := []) 11 dX10_status_8 rfl kX10_45 okX10_in (CX10_in (Int32.toInt64 a1) (-1) 6 h L) rfl rfl rfl rfl (fun r1 => ?_)
  refine g_if_ne (M := mX10_status) (pc := 11) 21 14 dX10_status_11 (by decide) rfl (fun _ => ?_) (fun _ => ?_)
  · refine g_iconst (M := mX10_status) (pc := 21) (v := 0) 22 dX10_status_21 rfl ic0 ?_
    refine g_istore_n (M := mX10_status) (pc := 22) (ls' := [some (aR 8 32), some (aI a1), some (aI 0), none]) 23 dX10_status_22 rfl rfl rfl rfl ?_
    refine g_iconst (M := mX10_status) (pc := 23) (v := 0) 24 dX10_status_23 rfl ic0 ?_
    refine g_istore_n (M := mX10_status) (pc := 24) (ls' := [some (aR 8 32), some (aI a1), some (aI 0), some (aI 0)]) 25 dX10_status_24 rfl rfl rfl rfl ?_
    refine g_loop (fun s => SX10_status_25_ok a1 h L T s.1 s.2) ?_ (fun z => v_fgt [true, true, true, true] z)
    intro e4
    show VX mX10_status 1 T _ 59 [none, none, some (aI e4), none] [] h L _
    refine g_iload_n (M := mX10_status) (pc := 59) 60 dX10_status_59 rfl rfl rfl ?_
    exact g_iret (M := mX10_status) (pc := 60) dX10_status_60 rfl rfl (fun z => z)
  · refine g_aload_n (M := mX10_status) (pc := 14) 15 dX10_status_14 rfl rfl rfl ?_
    refine g_ldc (M := mX10_status) (pc := 15) 17 dX10_status_15 rfl cX10_44 ?_
    refine g_cV_IH (M := mX10_status) (pc := 17) (M' := mX10_finds) (rest := []) 20 dX10_status_17 rfl kX10_67 okX10_finds (CX10_finds (-1000000001) h L) oO32 rfl rfl rfl rfl (fun r5 h6 => ?_)
    exact g_iret (M := mX10_status) (pc := 20) dX10_status_20 rfl rfl (fun z => z)
