-- functions of the methods and their contracts, by program (wip/whole/dec.py): X0_gainOf X9_isIn X0_gainsMost X9_metFrom X0_metBy X0_isKnown X0_knownSet X5_learnFor X0_spendEvening X8_howManyOn X5_isUnder X5_hasKind X0_meetWants X5_forgets X5_passNight X0_goDays X5_takeFrom X8_takeFrom X3_takeFrom X0_takeFrom X1_lookAt X1_listMembers
def JX0_gainOf_78 (g : Nat) (a1 : Int32) (a2 : Int32) (a4 : Int32) (a6 : Int32) (s0 : Int32) (h : HI) : Option (Int32) :=
  gd (ixb a1 12) <|
  nm (h g 2 (nC a1)) fun t2 =>
  if t2 = 1 then
    some s0
  else
  if t2 = 2 then
    some (a4 / 4)
  else
  if t2 = 3 then
    gd (ixb a2 12) <|
    if (h g 13 (nC a2)) = 1 then
      some s0
    else
      some (s0 / 3)
  else
  if t2 = 4 then
    some ((a4 / 4) + 1)
  else
  if t2 = 5 then
    gd (ixb a2 12) <|
    if (h g 12 (nC a2)) = 1 then
      some (3 * a6)
    else
      some a6
  else
  some a6
def JX0_gainOf_63 (g : Nat) (a1 : Int32) (a2 : Int32) (a3 : Int32) (a4 : Int32) (s0 : Int32) (h : HI) : Option (Int32) :=
  if a3 = 0 then
    JX0_gainOf_78 g a1 a2 a4 s0 (s0 / 2) h
  else
    JX0_gainOf_78 g a1 a2 a4 s0 s0 h
def JX0_gainOf_37 (g : Nat) (a1 : Int32) (a2 : Int32) (a3 : Int32) (a4 : Int32) (s0 : Int32) (h : HI) : Option (Int32) :=
  if s0 = 0 then
    JX0_gainOf_63 g a1 a2 a3 a4 0 h
  else
    gd (ixb a1 12) <|
    JX0_gainOf_63 g a1 a2 a3 a4 ((a4 * (h g 5 (nC a1))) / 10) h
def FX0_gainOf (g : Nat) (a1 : Int32) (a2 : Int32) (a3 : Int32) (h : HI) : Option (Int32) :=
  gd (ixb a2 12) <|
  nm (h g 10 (nC a2)) fun t1 =>
  gd (ixb a1 12) <|
  gd (ixb a2 12) <|
  if (h g 3 (nC a1)) = (h g 9 (nC a2)) then
    JX0_gainOf_37 g a1 a2 a3 t1 1 h
  else
    JX0_gainOf_37 g a1 a2 a3 t1 0 h
set_option maxRecDepth 100000 in
set_option maxHeartbeats 4000000 in
theorem JX0_gainOf_78_ok (g : Nat) (hg : g < 3) (a1 : Int32) (a2 : Int32) (a4 : Int32) (a6 : Int32) (s0 : Int32) (T : ZT) (h : HI) (L : HL) : VX mX0_gainOf 0 T (fun r => Zl (lfI h L) r = T) 78 [some (aR g 0), some (aI a1), some (aI a2), none, some (aI a4), none, some (aI a6), none] [aI s0] h L (JX0_gainOf_78 g a1 a2 a4 a6 s0 h) := by
  unfold JX0_gainOf_78
  refine g_istore (M := mX0_gainOf) (pc := 78) (ls' := [some (aR g 0), some (aI a1), some (aI a2), none, some (aI a4), none, some (aI a6), some (aI s0)]) 80 dX0_gainOf_78 rfl rfl rfl ?_
  refine g_aload_n (M := mX0_gainOf) (pc := 80) 81 dX0_gainOf_80 rfl rfl rfl ?_
  refine g_getR (M := mX0_gainOf) (pc := 81) 84 dX0_gainOf_81 rfl fX0_12 (oR0_0 hg) ?_
  refine g_getR (M := mX0_gainOf) (pc := 84) 87 dX0_gainOf_84 rfl fX0_53 (oR1_0 hg) ?_
  refine g_iload_n (M := mX0_gainOf) (pc := 87) 88 dX0_gainOf_87 rfl rfl rfl ?_
  refine g_iald (M := mX0_gainOf) (pc := 88) 89 dX0_gainOf_88 rfl (oA2 hg) ?_
  refine g_nmI (fun t2 => ?_)
  refine g_tsc (M := mX0_gainOf) (pc := 89) (v := 1) 124 dX0_gainOf_89 (by decide) (by decide) rfl (by decide) (fun _ => ?_) (fun z1 => ?_)
  · refine g_iload (M := mX0_gainOf) (pc := 124) 126 dX0_gainOf_124 rfl rfl ?_
    exact g_iret (M := mX0_gainOf) (pc := 126) dX0_gainOf_126 rfl rfl (fun z => z)
  refine g_tsc (M := mX0_gainOf) (pc := 89) (v := 2) 127 dX0_gainOf_89 (by decide) (by decide) rfl (by decide) (fun _ => ?_) (fun z2 => ?_)
  · refine g_iload (M := mX0_gainOf) (pc := 127) 129 dX0_gainOf_127 rfl rfl ?_
    refine g_iconst (M := mX0_gainOf) (pc := 129) (v := 4) 130 dX0_gainOf_129 rfl ic4 ?_
    refine g_idivC (M := mX0_gainOf) (pc := 130) 131 dX0_gainOf_130 rfl (by decide) ?_
    exact g_iret (M := mX0_gainOf) (pc := 131) dX0_gainOf_131 rfl rfl (fun z => z)
  refine g_tsc (M := mX0_gainOf) (pc := 89) (v := 3) 132 dX0_gainOf_89 (by decide) (by decide) rfl (by decide) (fun _ => ?_) (fun z3 => ?_)
  · refine g_aload_n (M := mX0_gainOf) (pc := 132) 133 dX0_gainOf_132 rfl rfl rfl ?_
    refine g_getR (M := mX0_gainOf) (pc := 133) 136 dX0_gainOf_133 rfl fX0_21 (oR0_1 hg) ?_
    refine g_getR (M := mX0_gainOf) (pc := 136) 139 dX0_gainOf_136 rfl fX0_56 (oR8_4 hg) ?_
    refine g_iload_n (M := mX0_gainOf) (pc := 139) 140 dX0_gainOf_139 rfl rfl rfl ?_
    refine g_iald (M := mX0_gainOf) (pc := 140) 141 dX0_gainOf_140 rfl (oA13 hg) ?_
    refine g_iconst (M := mX0_gainOf) (pc := 141) (v := 1) 142 dX0_gainOf_141 rfl ic1 ?_
    refine g_icmp_ne (M := mX0_gainOf) (pc := 142) 150 145 dX0_gainOf_142 (by decide) rfl (fun _ => ?_) (fun _ => ?_)
    · refine g_iload (M := mX0_gainOf) (pc := 150) 152 dX0_gainOf_150 rfl rfl ?_
      refine g_iconst (M := mX0_gainOf) (pc := 152) (v := 3) 153 dX0_gainOf_152 rfl ic3 ?_
      refine g_idivC (M := mX0_gainOf) (pc := 153) 154 dX0_gainOf_153 rfl (by decide) ?_
      exact g_iret (M := mX0_gainOf) (pc := 154) dX0_gainOf_154 rfl rfl (fun z => z)
    · refine g_iload (M := mX0_gainOf) (pc := 145) 147 dX0_gainOf_145 rfl rfl ?_
      refine g_goto (M := mX0_gainOf) (pc := 147) 154 dX0_gainOf_147 (by decide) ?_
      exact g_iret (M := mX0_gainOf) (pc := 154) dX0_gainOf_154 rfl rfl (fun z => z)
  refine g_tsc (M := mX0_gainOf) (pc := 89) (v := 4) 155 dX0_gainOf_89 (by decide) (by decide) rfl (by decide) (fun _ => ?_) (fun z4 => ?_)
  · refine g_iload (M := mX0_gainOf) (pc := 155) 157 dX0_gainOf_155 rfl rfl ?_
    refine g_iconst (M := mX0_gainOf) (pc := 157) (v := 4) 158 dX0_gainOf_157 rfl ic4 ?_
    refine g_idivC (M := mX0_gainOf) (pc := 158) 159 dX0_gainOf_158 rfl (by decide) ?_
    refine g_iconst (M := mX0_gainOf) (pc := 159) (v := 1) 160 dX0_gainOf_159 rfl ic1 ?_
    refine g_iadd (M := mX0_gainOf) (pc := 160) 161 dX0_gainOf_160 rfl ?_
    exact g_iret (M := mX0_gainOf) (pc := 161) dX0_gainOf_161 rfl rfl (fun z => z)
  refine g_tsc (M := mX0_gainOf) (pc := 89) (v := 5) 162 dX0_gainOf_89 (by decide) (by decide) rfl (by decide) (fun _ => ?_) (fun z5 => ?_)
  · refine g_aload_n (M := mX0_gainOf) (pc := 162) 163 dX0_gainOf_162 rfl rfl rfl ?_
    refine g_getR (M := mX0_gainOf) (pc := 163) 166 dX0_gainOf_163 rfl fX0_21 (oR0_1 hg) ?_
    refine g_getR (M := mX0_gainOf) (pc := 166) 169 dX0_gainOf_166 rfl fX0_59 (oR8_3 hg) ?_
    refine g_iload_n (M := mX0_gainOf) (pc := 169) 170 dX0_gainOf_169 rfl rfl rfl ?_
    refine g_iald (M := mX0_gainOf) (pc := 170) 171 dX0_gainOf_170 rfl (oA12 hg) ?_
    refine g_iconst (M := mX0_gainOf) (pc := 171) (v := 1) 172 dX0_gainOf_171 rfl ic1 ?_
    refine g_icmp_ne (M := mX0_gainOf) (pc := 172) 182 175 dX0_gainOf_172 (by decide) rfl (fun _ => ?_) (fun _ => ?_)
    · refine g_iload (M := mX0_gainOf) (pc := 182) 184 dX0_gainOf_182 rfl rfl ?_
      exact g_iret (M := mX0_gainOf) (pc := 184) dX0_gainOf_184 rfl rfl (fun z => z)
    · refine g_iconst (M := mX0_gainOf) (pc := 175) (v := 3) 176 dX0_gainOf_175 rfl ic3 ?_
      refine g_iload (M := mX0_gainOf) (pc := 176) 178 dX0_gainOf_176 rfl rfl ?_
      refine g_imul (M := mX0_gainOf) (pc := 178) 179 dX0_gainOf_178 rfl ?_
      refine g_goto (M := mX0_gainOf) (pc := 179) 184 dX0_gainOf_179 (by decide) ?_
      exact g_iret (M := mX0_gainOf) (pc := 184) dX0_gainOf_184 rfl rfl (fun z => z)
  refine g_tsOut (M := mX0_gainOf) (pc := 89) 185 dX0_gainOf_89 (by have y1 := lv_neT z1 (a := 1) rfl; have y2 := lv_neT z2 (a := 2) rfl; have y3 := lv_neT z3 (a := 3) rfl; have y4 := lv_neT z4 (a := 4) rfl; have y5 := lv_neT z5 (a := 5) rfl; omega) (by decide) ?_
  refine g_iload (M := mX0_gainOf) (pc := 185) 187 dX0_gainOf_185 rfl rfl ?_
  exact g_iret (M := mX0_gainOf) (pc := 187) dX0_gainOf_187 rfl rfl (fun z => z)
set_option maxRecDepth 100000 in
set_option maxHeartbeats 4000000 in
theorem JX0_gainOf_63_ok (g : Nat) (hg : g < 3) (a1 : Int32) (a2 : Int32) (a3 : Int32) (a4 : Int32) (s0 : Int32) (T : ZT) (h : HI) (L : HL) : VX mX0_gainOf 0 T (fun r => Zl (lfI h L) r = T) 63 [some (aR g 0), some (aI a1), some (aI a2), some (aI a3), some (aI a4), none, none, none] [aI s0] h L (JX0_gainOf_63 g a1 a2 a3 a4 s0 h) := by
  unfold JX0_gainOf_63
  refine g_istore (M := mX0_gainOf) (pc := 63) (ls' := [some (aR g 0), some (aI a1), some (aI a2), some (aI a3), some (aI a4), none, some (aI s0), none]) 65 dX0_gainOf_63 rfl rfl rfl ?_
  refine g_iload_n (M := mX0_gainOf) (pc := 65) 66 dX0_gainOf_65 rfl rfl rfl ?_
  refine g_if_eq (M := mX0_gainOf) (pc := 66) 74 69 dX0_gainOf_66 (by decide) rfl (fun _ => ?_) (fun _ => ?_)
  · refine g_iload (M := mX0_gainOf) (pc := 74) 76 dX0_gainOf_74 rfl rfl ?_
    refine g_iconst (M := mX0_gainOf) (pc := 76) (v := 2) 77 dX0_gainOf_76 rfl ic2 ?_
    refine g_idivC (M := mX0_gainOf) (pc := 77) 78 dX0_gainOf_77 rfl (by decide) ?_
    exact g_fgt [true, true, true, false, true, false, true, false] (JX0_gainOf_78_ok g hg a1 a2 a4 s0 (s0 / 2) T h L)
  · refine g_iload (M := mX0_gainOf) (pc := 69) 71 dX0_gainOf_69 rfl rfl ?_
    refine g_goto (M := mX0_gainOf) (pc := 71) 78 dX0_gainOf_71 (by decide) ?_
    exact g_fgt [true, true, true, false, true, false, true, false] (JX0_gainOf_78_ok g hg a1 a2 a4 s0 s0 T h L)
set_option maxRecDepth 100000 in
set_option maxHeartbeats 4000000 in
theorem JX0_gainOf_37_ok (g : Nat) (hg : g < 3) (a1 : Int32) (a2 : Int32) (a3 : Int32) (a4 : Int32) (s0 : Int32) (T : ZT) (h : HI) (L : HL) : VX mX0_gainOf 0 T (fun r => Zl (lfI h L) r = T) 37 [some (aR g 0), some (aI a1), some (aI a2), some (aI a3), some (aI a4), none, none, none] [aI s0] h L (JX0_gainOf_37 g a1 a2 a3 a4 s0 h) := by
  unfold JX0_gainOf_37
  refine g_istore (M := mX0_gainOf) (pc := 37) (ls' := [some (aR g 0), some (aI a1), some (aI a2), some (aI a3), some (aI a4), some (aI s0), none, none]) 39 dX0_gainOf_37 rfl rfl rfl ?_
  refine g_iload (M := mX0_gainOf) (pc := 39) 41 dX0_gainOf_39 rfl rfl ?_
  refine g_if_eq (M := mX0_gainOf) (pc := 41) 62 44 dX0_gainOf_41 (by decide) rfl (fun _ => ?_) (fun _ => ?_)
  · refine g_iconst (M := mX0_gainOf) (pc := 62) (v := 0) 63 dX0_gainOf_62 rfl ic0 ?_
    exact g_fgt [true, true, true, true, true, false, false, false] (JX0_gainOf_63_ok g hg a1 a2 a3 a4 0 T h L)
  · refine g_iload (M := mX0_gainOf) (pc := 44) 46 dX0_gainOf_44 rfl rfl ?_
    refine g_aload_n (M := mX0_gainOf) (pc := 46) 47 dX0_gainOf_46 rfl rfl rfl ?_
    refine g_getR (M := mX0_gainOf) (pc := 47) 50 dX0_gainOf_47 rfl fX0_12 (oR0_0 hg) ?_
    refine g_getR (M := mX0_gainOf) (pc := 50) 53 dX0_gainOf_50 rfl fX0_50 (oR1_3 hg) ?_
    refine g_iload_n (M := mX0_gainOf) (pc := 53) 54 dX0_gainOf_53 rfl rfl rfl ?_
    refine g_iald (M := mX0_gainOf) (pc := 54) 55 dX0_gainOf_54 rfl (oA5 hg) ?_
    refine g_imul (M := mX0_gainOf) (pc := 55) 56 dX0_gainOf_55 rfl ?_
    refine g_bipush (M := mX0_gainOf) (pc := 56) (v := 10) 58 dX0_gainOf_56 rfl bp10 ?_
    refine g_idivC (M := mX0_gainOf) (pc := 58) 59 dX0_gainOf_58 rfl (by decide) ?_
    refine g_goto (M := mX0_gainOf) (pc := 59) 63 dX0_gainOf_59 (by decide) ?_
    exact g_fgt [true, true, true, true, true, false, false, false] (JX0_gainOf_63_ok g hg a1 a2 a3 a4 ((a4 * (h g 5 (nC a1))) / 10) T h L)
set_option maxRecDepth 100000 in
set_option maxHeartbeats 4000000 in
theorem CX0_gainOf (g : Nat) (hg : g < 3) (a1 : Int32) (a2 : Int32) (a3 : Int32) (h : HI) (L : HL) : CG mX0_gainOf 0 [aR g 0, aI a1, aI a2, aI a3] h L (lfI h L) (FX0_gainOf g a1 a2 a3 h) := by
  unfold FX0_gainOf
  refine cg_of [some (aR g 0), some (aI a1), some (aI a2), some (aI a3), none, none, none, none] rfl (by decide) rfl rfl (fun T => ?_)
  refine g_aload_n (M := mX0_gainOf) (pc := 0) 1 dX0_gainOf_0 rfl rfl rfl ?_
  refine g_getR (M := mX0_gainOf) (pc := 1) 4 dX0_gainOf_1 rfl fX0_21 (oR0_1 hg) ?_
  refine g_getR (M := mX0_gainOf) (pc := 4) 7 dX0_gainOf_4 rfl fX0_42 (oR8_1 hg) ?_
  refine g_iload_n (M := mX0_gainOf) (pc := 7) 8 dX0_gainOf_7 rfl rfl rfl ?_
  refine g_iald (M := mX0_gainOf) (pc := 8) 9 dX0_gainOf_8 rfl (oA10 hg) ?_
  refine g_nmI (fun t1 => ?_)
  refine g_istore (M := mX0_gainOf) (pc := 9) (ls' := [some (aR g 0), some (aI a1), some (aI a2), some (aI a3), some (aI t1), none, none, none]) 11 dX0_gainOf_9 rfl rfl rfl ?_
  refine g_aload_n (M := mX0_gainOf) (pc := 11) 12 dX0_gainOf_11 rfl rfl rfl ?_
  refine g_getR (M := mX0_gainOf) (pc := 12) 15 dX0_gainOf_12 rfl fX0_12 (oR0_0 hg) ?_
  refine g_getR (M := mX0_gainOf) (pc := 15) 18 dX0_gainOf_15 rfl fX0_46 (oR1_1 hg) ?_
  refine g_iload_n (M := mX0_gainOf) (pc := 18) 19 dX0_gainOf_18 rfl rfl rfl ?_
  refine g_iald (M := mX0_gainOf) (pc := 19) 20 dX0_gainOf_19 rfl (oA3 hg) ?_
  refine g_aload_n (M := mX0_gainOf) (pc := 20) 21 dX0_gainOf_20 rfl rfl rfl ?_
  refine g_getR (M := mX0_gainOf) (pc := 21) 24 dX0_gainOf_21 rfl fX0_21 (oR0_1 hg) ?_
  refine g_getR (M := mX0_gainOf) (pc := 24) 27 dX0_gainOf_24 rfl fX0_49 (oR8_0 hg) ?_
  refine g_iload_n (M := mX0_gainOf) (pc := 27) 28 dX0_gainOf_27 rfl rfl rfl ?_
  refine g_iald (M := mX0_gainOf) (pc := 28) 29 dX0_gainOf_28 rfl (oA9 hg) ?_
  refine g_icmp_ne (M := mX0_gainOf) (pc := 29) 36 32 dX0_gainOf_29 (by decide) rfl (fun _ => ?_) (fun _ => ?_)
  · refine g_iconst (M := mX0_gainOf) (pc := 36) (v := 0) 37 dX0_gainOf_36 rfl ic0 ?_
    exact g_fgt [true, true, true, true, true, false, false, false] (JX0_gainOf_37_ok g hg a1 a2 a3 t1 0 T h L)
  · refine g_iconst (M := mX0_gainOf) (pc := 32) (v := 1) 33 dX0_gainOf_32 rfl ic1 ?_
    refine g_goto (M := mX0_gainOf) (pc := 33) 37 dX0_gainOf_33 (by decide) ?_
    exact g_fgt [true, true, true, true, true, false, false, false] (JX0_gainOf_37_ok g hg a1 a2 a3 t1 1 T h L)
def FX9_isIn (a0 : Int32) (a1 : Int32) : Option (Int32) :=
  if ((a0 >>> (a1 &&& 31)) &&& 1) = 0 then
    some 0
  else
    some 1
set_option maxRecDepth 100000 in
set_option maxHeartbeats 4000000 in
theorem CX9_isIn (a0 : Int32) (a1 : Int32) (h : HI) (L : HL) : CG mX9_isIn 0 [aI a0, aI a1] h L (lfI h L) (FX9_isIn a0 a1) := by
  unfold FX9_isIn
  refine cg_of [some (aI a0), some (aI a1)] rfl (by decide) rfl rfl (fun T => ?_)
  refine g_iload_n (M := mX9_isIn) (pc := 0) 1 dX9_isIn_0 rfl rfl rfl ?_
  refine g_iload_n (M := mX9_isIn) (pc := 1) 2 dX9_isIn_1 rfl rfl rfl ?_
  refine g_ishr (M := mX9_isIn) (pc := 2) 3 dX9_isIn_2 rfl ?_
  refine g_iconst (M := mX9_isIn) (pc := 3) (v := 1) 4 dX9_isIn_3 rfl ic1 ?_
  refine g_iand (M := mX9_isIn) (pc := 4) 5 dX9_isIn_4 rfl ?_
  refine g_if_eq (M := mX9_isIn) (pc := 5) 12 8 dX9_isIn_5 (by decide) rfl (fun _ => ?_) (fun _ => ?_)
  · refine g_iconst (M := mX9_isIn) (pc := 12) (v := 0) 13 dX9_isIn_12 rfl ic0 ?_
    exact g_iret (M := mX9_isIn) (pc := 13) dX9_isIn_13 rfl nz0 (fun z => z)
  · refine g_iconst (M := mX9_isIn) (pc := 8) (v := 1) 9 dX9_isIn_8 rfl ic1 ?_
    refine g_goto (M := mX9_isIn) (pc := 9) 13 dX9_isIn_9 (by decide) ?_
    exact g_iret (M := mX9_isIn) (pc := 13) dX9_isIn_13 rfl nz1 (fun z => z)
def SX0_gainsMost_20 (g : Nat) (a1 : Int32) (a2 : Int32) (a3 : Int32) (h : HI) : (Int32 × Int32 × Int32) → Option ((Int32 × Int32 × Int32) ⊕ (Int32))
  | (a4, a5, a6) =>
    if (h g 1 6) ≤ a6 then
      some (Sum.inr a5)
    else
      Option.bind (FX9_isIn a2 a6) fun r2 =>
      if r2 = 0 then
        some (Sum.inl (a4, a5, (a6 + 1)))
      else
        Option.bind (FX0_gainOf g a6 a1 a3 h) fun r3 =>
        if r3 ≤ a4 then
          some (Sum.inl (a4, a5, (a6 + 1)))
        else
          some (Sum.inl (r3, a6, (a6 + 1)))
def FX0_gainsMost (g : Nat) (a1 : Int32) (a2 : Int32) (a3 : Int32) (h : HI) : Option (Int32) :=
  gd (ixb a1 12) <|
  nm ((h g 10 (nC a1)) / 10) fun t1 =>
  Option.bind (loopN (SX0_gainsMost_20 g a1 a2 a3 h) FU (t1, (-1), 0)) fun e4 =>
    some e4
set_option maxRecDepth 100000 in
set_option maxHeartbeats 4000000 in
theorem SX0_gainsMost_20_ok (g : Nat) (hg : g < 3) (a1 : Int32) (a2 : Int32) (a3 : Int32) (h : HI) (L : HL) (T : ZT) (a4 : Int32) (a5 : Int32) (a6 : Int32) : VX mX0_gainsMost 1 T (gS (fun s : Int32 × Int32 × Int32 => V mX0_gainsMost 1 T 20 [some (aR g 0), some (aI a1), some (aI a2), some (aI a3), some (aI (s.1)), some (aI (s.2.1)), some (aI (s.2.2)), none] [] h L) (fun s : Int32 => V mX0_gainsMost 1 T 72 [none, none, none, none, none, some (aI s), none, none] [] h L)) 20 [some (aR g 0), some (aI a1), some (aI a2), some (aI a3), some (aI a4), some (aI a5), some (aI a6), none] [] h L (SX0_gainsMost_20 g a1 a2 a3 h (a4, a5, a6)) := by
  unfold SX0_gainsMost_20
  refine g_iload (M := mX0_gainsMost) (pc := 20) 22 dX0_gainsMost_20 rfl rfl ?_
  refine g_aload_n (M := mX0_gainsMost) (pc := 22) 23 dX0_gainsMost_22 rfl rfl rfl ?_
  refine g_getR (M := mX0_gainsMost) (pc := 23) 26 dX0_gainsMost_23 rfl fX0_12 (oR0_0 hg) ?_
  refine g_getI (M := mX0_gainsMost) (pc := 26) 29 dX0_gainsMost_26 rfl fX0_62 (oF1_6 hg) ?_
  refine g_icmp_ge (M := mX0_gainsMost) (pc := 29) 72 32 dX0_gainsMost_29 (by decide) rfl (fun _ => ?_) (fun _ => ?_)
  · exact g_jmp (fun z => v_fgt [false, false, false, false, false, true, false, false] z)
  · refine g_iload_n (M := mX0_gainsMost) (pc := 32) 33 dX0_gainsMost_32 rfl rfl rfl ?_
    refine g_iload (M := mX0_gainsMost) (pc := 33) 35 dX0_gainsMost_33 rfl rfl ?_
    refine g_cN_I (M := mX0_gainsMost) (pc := 35) (M' := mX9_isIn) (rest := []) 38 dX0_gainsMost_35 rfl nX0_65 okX9_isIn (CX9_isIn a2 a6 h L) rfl rfl rfl rfl (fun r2 => ?_)
    refine g_if_eq (M := mX0_gainsMost) (pc := 38) 66 41 dX0_gainsMost_38 (by decide) rfl (fun _ => ?_) (fun _ => ?_)
    · refine g_iinc (M := mX0_gainsMost) (pc := 66) (c := 1) (ls' := [some (aR g 0), some (aI a1), some (aI a2), some (aI a3), some (aI a4), some (aI a5), some (aI (a6 + 1)), none]) 69 dX0_gainsMost_66 rfl ic1 rfl rfl rfl ?_
      refine g_goto (M := mX0_gainsMost) (pc := 69) 20 dX0_gainsMost_69 (by decide) ?_
      exact g_jmp (fun z => v_fgt [true, true, true, true, true, true, true, false] z)
    · refine g_aload_n (M := mX0_gainsMost) (pc := 41) 42 dX0_gainsMost_41 rfl rfl rfl ?_
      refine g_iload (M := mX0_gainsMost) (pc := 42) 44 dX0_gainsMost_42 rfl rfl ?_
      refine g_iload_n (M := mX0_gainsMost) (pc := 44) 45 dX0_gainsMost_44 rfl rfl rfl ?_
      refine g_iload_n (M := mX0_gainsMost) (pc := 45) 46 dX0_gainsMost_45 rfl rfl rfl ?_
      refine g_cV_I (M := mX0_gainsMost) (pc := 46) (M' := mX0_gainOf) (rest := []) 49 dX0_gainsMost_46 rfl kX0_69 okX0_gainOf (CX0_gainOf g hg a6 a1 a3 h L) (oO0 hg) rfl rfl rfl rfl (fun r3 => ?_)
      refine g_istore (M := mX0_gainsMost) (pc := 49) (ls' := [some (aR g 0), some (aI a1), some (aI a2), some (aI a3), some (aI a4), some (aI a5), some (aI a6), some (aI r3)]) 51 dX0_gainsMost_49 rfl rfl rfl ?_
      refine g_iload (M := mX0_gainsMost) (pc := 51) 53 dX0_gainsMost_51 rfl rfl ?_
      refine g_iload (M := mX0_gainsMost) (pc := 53) 55 dX0_gainsMost_53 rfl rfl ?_
      refine g_icmp_le (M := mX0_gainsMost) (pc := 55) 66 58 dX0_gainsMost_55 (by decide) rfl (fun _ => ?_) (fun _ => ?_)
      · refine g_iinc (M := mX0_gainsMost) (pc := 66) (c := 1) (ls' := [some (aR g 0), some (aI a1), some (aI a2), some (aI a3), some (aI a4), some (aI a5), some (aI (a6 + 1)), some (aI r3)]) 69 dX0_gainsMost_66 rfl ic1 rfl rfl rfl ?_
        refine g_goto (M := mX0_gainsMost) (pc := 69) 20 dX0_gainsMost_69 (by decide) ?_
        exact g_jmp (fun z => v_fgt [true, true, true, true, true, true, true, false] z)
      · refine g_iload (M := mX0_gainsMost) (pc := 58) 60 dX0_gainsMost_58 rfl rfl ?_
        refine g_istore (M := mX0_gainsMost) (pc := 60) (ls' := [some (aR g 0), some (aI a1), some (aI a2), some (aI a3), some (aI r3), some (aI a5), some (aI a6), some (aI r3)]) 62 dX0_gainsMost_60 rfl rfl rfl ?_
        refine g_iload (M := mX0_gainsMost) (pc := 62) 64 dX0_gainsMost_62 rfl rfl ?_
        refine g_istore (M := mX0_gainsMost) (pc := 64) (ls' := [some (aR g 0), some (aI a1), some (aI a2), some (aI a3), some (aI r3), some (aI a6), some (aI a6), some (aI r3)]) 66 dX0_gainsMost_64 rfl rfl rfl ?_
        refine g_iinc (M := mX0_gainsMost) (pc := 66) (c := 1) (ls' := [some (aR g 0), some (aI a1), some (aI a2), some (aI a3), some (aI r3), some (aI a6), some (aI (a6 + 1)), some (aI r3)]) 69 dX0_gainsMost_66 rfl ic1 rfl rfl rfl ?_
        refine g_goto (M := mX0_gainsMost) (pc := 69) 20 dX0_gainsMost_69 (by decide) ?_
        exact g_jmp (fun z => v_fgt [true, true, true, true, true, true, true, false] z)
set_option maxRecDepth 100000 in
set_option maxHeartbeats 4000000 in
theorem CX0_gainsMost (g : Nat) (hg : g < 3) (a1 : Int32) (a2 : Int32) (a3 : Int32) (h : HI) (L : HL) : CG mX0_gainsMost 1 [aR g 0, aI a1, aI a2, aI a3] h L (lfI h L) (FX0_gainsMost g a1 a2 a3 h) := by
  unfold FX0_gainsMost
  refine cg_of [some (aR g 0), some (aI a1), some (aI a2), some (aI a3), none, none, none, none] rfl (by decide) rfl rfl (fun T => ?_)
  refine g_aload_n (M := mX0_gainsMost) (pc := 0) 1 dX0_gainsMost_0 rfl rfl rfl ?_
  refine g_getR (M := mX0_gainsMost) (pc := 1) 4 dX0_gainsMost_1 rfl fX0_21 (oR0_1 hg) ?_
  refine g_getR (M := mX0_gainsMost) (pc := 4) 7 dX0_gainsMost_4 rfl fX0_42 (oR8_1 hg) ?_
  refine g_iload_n (M := mX0_gainsMost) (pc := 7) 8 dX0_gainsMost_7 rfl rfl rfl ?_
  refine g_iald (M := mX0_gainsMost) (pc := 8) 9 dX0_gainsMost_8 rfl (oA10 hg) ?_
  refine g_bipush (M := mX0_gainsMost) (pc := 9) (v := 10) 11 dX0_gainsMost_9 rfl bp10 ?_
  refine g_idivC (M := mX0_gainsMost) (pc := 11) 12 dX0_gainsMost_11 rfl (by decide) ?_
  refine g_nmI (fun t1 => ?_)
  refine g_istore (M := mX0_gainsMost) (pc := 12) (ls' := [some (aR g 0), some (aI a1), some (aI a2), some (aI a3), some (aI t1), none, none, none]) 14 dX0_gainsMost_12 rfl rfl rfl ?_
  refine g_iconst (M := mX0_gainsMost) (pc := 14) (v := (-1)) 15 dX0_gainsMost_14 rfl icm1 ?_
  refine g_istore (M := mX0_gainsMost) (pc := 15) (ls' := [some (aR g 0), some (aI a1), some (aI a2), some (aI a3), some (aI t1), some (aI (-1)), none, none]) 17 dX0_gainsMost_15 rfl rfl rfl ?_
  refine g_iconst (M := mX0_gainsMost) (pc := 17) (v := 0) 18 dX0_gainsMost_17 rfl ic0 ?_
  refine g_istore (M := mX0_gainsMost) (pc := 18) (ls' := [some (aR g 0), some (aI a1), some (aI a2), some (aI a3), some (aI t1), some (aI (-1)), some (aI 0), none]) 20 dX0_gainsMost_18 rfl rfl rfl ?_
  refine g_loop (fun s => SX0_gainsMost_20_ok g hg a1 a2 a3 h L T s.1 s.2.1 s.2.2) ?_ (fun z => v_fgt [true, true, true, true, true, true, true, false] z)
  intro e4
  show VX mX0_gainsMost 1 T _ 72 [none, none, none, none, none, some (aI e4), none, none] [] h L _
  refine g_iload (M := mX0_gainsMost) (pc := 72) 74 dX0_gainsMost_72 rfl rfl ?_
  exact g_iret (M := mX0_gainsMost) (pc := 74) dX0_gainsMost_74 rfl rfl (fun z => z)
def FX9_metFrom (a0 : Int32) (a1 : Int32) (a2 : Int32) : Option (Int32) :=
  if a2 = 0 then
    some (if a1 < a0 then a1 else a0)
  else
    some (if (a1 + (a0 / 5)) < a0 then (a1 + (a0 / 5)) else a0)
set_option maxRecDepth 100000 in
set_option maxHeartbeats 4000000 in
theorem CX9_metFrom (a0 : Int32) (a1 : Int32) (a2 : Int32) (h : HI) (L : HL) : CG mX9_metFrom 1 [aI a0, aI a1, aI a2] h L (lfI h L) (FX9_metFrom a0 a1 a2) := by
  unfold FX9_metFrom
  refine cg_of [some (aI a0), some (aI a1), some (aI a2)] rfl (by decide) rfl rfl (fun T => ?_)
  refine g_iload_n (M := mX9_metFrom) (pc := 0) 1 dX9_metFrom_0 rfl rfl rfl ?_
  refine g_iload_n (M := mX9_metFrom) (pc := 1) 2 dX9_metFrom_1 rfl rfl rfl ?_
  refine g_if_eq (M := mX9_metFrom) (pc := 2) 13 5 dX9_metFrom_2 (by decide) rfl (fun _ => ?_) (fun _ => ?_)
  · refine g_iload_n (M := mX9_metFrom) (pc := 13) 14 dX9_metFrom_13 rfl rfl rfl ?_
    refine g_min (M := mX9_metFrom) (pc := 14) 17 dX9_metFrom_14 rfl kX9_311 rfl rfl ?_
    exact g_iret (M := mX9_metFrom) (pc := 17) dX9_metFrom_17 rfl rfl (fun z => z)
  · refine g_iload_n (M := mX9_metFrom) (pc := 5) 6 dX9_metFrom_5 rfl rfl rfl ?_
    refine g_iload_n (M := mX9_metFrom) (pc := 6) 7 dX9_metFrom_6 rfl rfl rfl ?_
    refine g_iconst (M := mX9_metFrom) (pc := 7) (v := 5) 8 dX9_metFrom_7 rfl ic5 ?_
    refine g_idivC (M := mX9_metFrom) (pc := 8) 9 dX9_metFrom_8 rfl (by decide) ?_
    refine g_iadd (M := mX9_metFrom) (pc := 9) 10 dX9_metFrom_9 rfl ?_
    refine g_goto (M := mX9_metFrom) (pc := 10) 14 dX9_metFrom_10 (by decide) ?_
    refine g_min (M := mX9_metFrom) (pc := 14) 17 dX9_metFrom_14 rfl kX9_311 rfl rfl ?_
    exact g_iret (M := mX9_metFrom) (pc := 17) dX9_metFrom_17 rfl rfl (fun z => z)
def FX0_metBy (g : Nat) (a1 : Int32) (a2 : Int32) (a3 : Int32) (a4 : Int32) (h : HI) : Option (Int32) :=
  gd (ixb a1 12) <|
  nm (h g 10 (nC a1)) fun t1 =>
  if 0 ≤ a2 then
    Option.bind (FX0_gainOf g a2 a1 a3 h) fun r2 =>
    Option.bind (FX9_metFrom t1 r2 a4) fun r3 =>
    some r3
  else
    nm (t1 / 10) fun t4 =>
    Option.bind (FX9_metFrom t1 t4 a4) fun r5 =>
    some r5
set_option maxRecDepth 100000 in
set_option maxHeartbeats 4000000 in
theorem CX0_metBy (g : Nat) (hg : g < 3) (a1 : Int32) (a2 : Int32) (a3 : Int32) (a4 : Int32) (h : HI) (L : HL) : CG mX0_metBy 2 [aR g 0, aI a1, aI a2, aI a3, aI a4] h L (lfI h L) (FX0_metBy g a1 a2 a3 a4 h) := by
  unfold FX0_metBy
  refine cg_of [some (aR g 0), some (aI a1), some (aI a2), some (aI a3), some (aI a4), none, none] rfl (by decide) rfl rfl (fun T => ?_)
  refine g_aload_n (M := mX0_metBy) (pc := 0) 1 dX0_metBy_0 rfl rfl rfl ?_
  refine g_getR (M := mX0_metBy) (pc := 1) 4 dX0_metBy_1 rfl fX0_21 (oR0_1 hg) ?_
  refine g_getR (M := mX0_metBy) (pc := 4) 7 dX0_metBy_4 rfl fX0_42 (oR8_1 hg) ?_
  refine g_iload_n (M := mX0_metBy) (pc := 7) 8 dX0_metBy_7 rfl rfl rfl ?_
  refine g_iald (M := mX0_metBy) (pc := 8) 9 dX0_metBy_8 rfl (oA10 hg) ?_
  refine g_nmI (fun t1 => ?_)
  refine g_istore (M := mX0_metBy) (pc := 9) (ls' := [some (aR g 0), some (aI a1), some (aI a2), some (aI a3), some (aI a4), some (aI t1), none]) 11 dX0_metBy_9 rfl rfl rfl ?_
  refine g_iload_n (M := mX0_metBy) (pc := 11) 12 dX0_metBy_11 rfl rfl rfl ?_
  refine g_if_ge (M := mX0_metBy) (pc := 12) 23 15 dX0_metBy_12 (by decide) rfl (fun _ => ?_) (fun _ => ?_)
  · refine g_aload_n (M := mX0_metBy) (pc := 23) 24 dX0_metBy_23 rfl rfl rfl ?_
    refine g_iload_n (M := mX0_metBy) (pc := 24) 25 dX0_metBy_24 rfl rfl rfl ?_
    refine g_iload_n (M := mX0_metBy) (pc := 25) 26 dX0_metBy_25 rfl rfl rfl ?_
    refine g_iload_n (M := mX0_metBy) (pc := 26) 27 dX0_metBy_26 rfl rfl rfl ?_
    refine g_cV_I (M := mX0_metBy) (pc := 27) (M' := mX0_gainOf) (rest := []) 30 dX0_metBy_27 rfl kX0_69 okX0_gainOf (CX0_gainOf g hg a2 a1 a3 h L) (oO0 hg) rfl rfl rfl rfl (fun r2 => ?_)
    refine g_istore (M := mX0_metBy) (pc := 30) (ls' := [some (aR g 0), some (aI a1), some (aI a2), some (aI a3), some (aI a4), some (aI t1), some (aI r2)]) 32 dX0_metBy_30 rfl rfl rfl ?_
    refine g_iload (M := mX0_metBy) (pc := 32) 34 dX0_metBy_32 rfl rfl ?_
    refine g_iload (M := mX0_metBy) (pc := 34) 36 dX0_metBy_34 rfl rfl ?_
    refine g_iload (M := mX0_metBy) (pc := 36) 38 dX0_metBy_36 rfl rfl ?_
    refine g_cN_I (M := mX0_metBy) (pc := 38) (M' := mX9_metFrom) (rest := []) 41 dX0_metBy_38 rfl nX0_73 okX9_metFrom (CX9_metFrom t1 r2 a4 h L) rfl rfl rfl rfl (fun r3 => ?_)
    exact g_iret (M := mX0_metBy) (pc := 41) dX0_metBy_41 rfl rfl (fun z => z)
  · refine g_iload (M := mX0_metBy) (pc := 15) 17 dX0_metBy_15 rfl rfl ?_
    refine g_bipush (M := mX0_metBy) (pc := 17) (v := 10) 19 dX0_metBy_17 rfl bp10 ?_
    refine g_idivC (M := mX0_metBy) (pc := 19) 20 dX0_metBy_19 rfl (by decide) ?_
    refine g_goto (M := mX0_metBy) (pc := 20) 30 dX0_metBy_20 (by decide) ?_
    refine g_nmI (fun t4 => ?_)
    refine g_istore (M := mX0_metBy) (pc := 30) (ls' := [some (aR g 0), some (aI a1), some (aI a2), some (aI a3), some (aI a4), some (aI t1), some (aI t4)]) 32 dX0_metBy_30 rfl rfl rfl ?_
    refine g_iload (M := mX0_metBy) (pc := 32) 34 dX0_metBy_32 rfl rfl ?_
    refine g_iload (M := mX0_metBy) (pc := 34) 36 dX0_metBy_34 rfl rfl ?_
    refine g_iload (M := mX0_metBy) (pc := 36) 38 dX0_metBy_36 rfl rfl ?_
    refine g_cN_I (M := mX0_metBy) (pc := 38) (M' := mX9_metFrom) (rest := []) 41 dX0_metBy_38 rfl nX0_73 okX9_metFrom (CX9_metFrom t1 t4 a4 h L) rfl rfl rfl rfl (fun r5 => ?_)
    exact g_iret (M := mX0_metBy) (pc := 41) dX0_metBy_41 rfl rfl (fun z => z)
def FX0_isKnown (g : Nat) (a1 : Int32) (h : HI) : Option (Int32) :=
  gd (ixb a1 12) <|
  if (h g 6 (nC a1)) < (h g 0 3) then
    some 0
  else
    some 1
set_option maxRecDepth 100000 in
set_option maxHeartbeats 4000000 in
theorem CX0_isKnown (g : Nat) (hg : g < 3) (a1 : Int32) (h : HI) (L : HL) : CG mX0_isKnown 0 [aR g 0, aI a1] h L (lfI h L) (FX0_isKnown g a1 h) := by
  unfold FX0_isKnown
  refine cg_of [some (aR g 0), some (aI a1)] rfl (by decide) rfl rfl (fun T => ?_)
  refine g_aload_n (M := mX0_isKnown) (pc := 0) 1 dX0_isKnown_0 rfl rfl rfl ?_
  refine g_getR (M := mX0_isKnown) (pc := 1) 4 dX0_isKnown_1 rfl fX0_12 (oR0_0 hg) ?_
  refine g_getR (M := mX0_isKnown) (pc := 4) 7 dX0_isKnown_4 rfl fX0_76 (oR1_4 hg) ?_
  refine g_iload_n (M := mX0_isKnown) (pc := 7) 8 dX0_isKnown_7 rfl rfl rfl ?_
  refine g_iald (M := mX0_isKnown) (pc := 8) 9 dX0_isKnown_8 rfl (oA6 hg) ?_
  refine g_aload_n (M := mX0_isKnown) (pc := 9) 10 dX0_isKnown_9 rfl rfl rfl ?_
  refine g_getI (M := mX0_isKnown) (pc := 10) 13 dX0_isKnown_10 rfl fX0_32 (oF0_3 hg) ?_
  refine g_icmp_lt (M := mX0_isKnown) (pc := 13) 20 16 dX0_isKnown_13 (by decide) rfl (fun _ => ?_) (fun _ => ?_)
  · refine g_iconst (M := mX0_isKnown) (pc := 20) (v := 0) 21 dX0_isKnown_20 rfl ic0 ?_
    exact g_iret (M := mX0_isKnown) (pc := 21) dX0_isKnown_21 rfl nz0 (fun z => z)
  · refine g_iconst (M := mX0_isKnown) (pc := 16) (v := 1) 17 dX0_isKnown_16 rfl ic1 ?_
    refine g_goto (M := mX0_isKnown) (pc := 17) 21 dX0_isKnown_17 (by decide) ?_
    exact g_iret (M := mX0_isKnown) (pc := 21) dX0_isKnown_21 rfl nz1 (fun z => z)
def SX0_knownSet_4 (g : Nat) (h : HI) : (Int32 × Int32) → Option ((Int32 × Int32) ⊕ (Int32))
  | (a1, a2) =>
    if (h g 1 6) ≤ a2 then
      some (Sum.inr a1)
    else
      Option.bind (FX0_isKnown g a2 h) fun r1 =>
      if r1 = 0 then
        some (Sum.inl (a1, (a2 + 1)))
      else
        nm (a1 ||| (1 <<< (a2 &&& 31))) fun t2 =>
        some (Sum.inl (t2, (a2 + 1)))
def FX0_knownSet (g : Nat) (h : HI) : Option (Int32) :=
  Option.bind (loopN (SX0_knownSet_4 g h) FU (0, 0)) fun e3 =>
    some e3
set_option maxRecDepth 100000 in
set_option maxHeartbeats 4000000 in
theorem SX0_knownSet_4_ok (g : Nat) (hg : g < 3) (h : HI) (L : HL) (T : ZT) (a1 : Int32) (a2 : Int32) : VX mX0_knownSet 1 T (gS (fun s : Int32 × Int32 => V mX0_knownSet 1 T 4 [some (aR g 0), some (aI (s.1)), some (aI (s.2))] [] h L) (fun s : Int32 => V mX0_knownSet 1 T 35 [none, some (aI s), none] [] h L)) 4 [some (aR g 0), some (aI a1), some (aI a2)] [] h L (SX0_knownSet_4 g h (a1, a2)) := by
  unfold SX0_knownSet_4
  refine g_iload_n (M := mX0_knownSet) (pc := 4) 5 dX0_knownSet_4 rfl rfl rfl ?_
  refine g_aload_n (M := mX0_knownSet) (pc := 5) 6 dX0_knownSet_5 rfl rfl rfl ?_
  refine g_getR (M := mX0_knownSet) (pc := 6) 9 dX0_knownSet_6 rfl fX0_12 (oR0_0 hg) ?_
  refine g_getI (M := mX0_knownSet) (pc := 9) 12 dX0_knownSet_9 rfl fX0_62 (oF1_6 hg) ?_
  refine g_icmp_ge (M := mX0_knownSet) (pc := 12) 35 15 dX0_knownSet_12 (by decide) rfl (fun _ => ?_) (fun _ => ?_)
  · exact g_jmp (fun z => v_fgt [false, true, false] z)
  · refine g_aload_n (M := mX0_knownSet) (pc := 15) 16 dX0_knownSet_15 rfl rfl rfl ?_
    refine g_iload_n (M := mX0_knownSet) (pc := 16) 17 dX0_knownSet_16 rfl rfl rfl ?_
    refine g_cV_I (M := mX0_knownSet) (pc := 17) (M' := mX0_isKnown) (rest := []) 20 dX0_knownSet_17 rfl kX0_79 okX0_isKnown (CX0_isKnown g hg a2 h L) (oO0 hg) rfl rfl rfl rfl (fun r1 => ?_)
    refine g_if_eq (M := mX0_knownSet) (pc := 20) 29 23 dX0_knownSet_20 (by decide) rfl (fun _ => ?_) (fun _ => ?_)
    · refine g_iinc (M := mX0_knownSet) (pc := 29) (c := 1) (ls' := [some (aR g 0), some (aI a1), some (aI (a2 + 1))]) 32 dX0_knownSet_29 rfl ic1 rfl rfl rfl ?_
      refine g_goto (M := mX0_knownSet) (pc := 32) 4 dX0_knownSet_32 (by decide) ?_
      exact g_jmp (fun z => v_fgt [true, true, true] z)
    · refine g_iload_n (M := mX0_knownSet) (pc := 23) 24 dX0_knownSet_23 rfl rfl rfl ?_
      refine g_iconst (M := mX0_knownSet) (pc := 24) (v := 1) 25 dX0_knownSet_24 rfl ic1 ?_
      refine g_iload_n (M := mX0_knownSet) (pc := 25) 26 dX0_knownSet_25 rfl rfl rfl ?_
      refine g_ishl (M := mX0_knownSet) (pc := 26) 27 dX0_knownSet_26 rfl ?_
      refine g_ior (M := mX0_knownSet) (pc := 27) 28 dX0_knownSet_27 rfl ?_
      refine g_nmI (fun t2 => ?_)
      refine g_istore_n (M := mX0_knownSet) (pc := 28) (ls' := [some (aR g 0), some (aI t2), some (aI a2)]) 29 dX0_knownSet_28 rfl rfl rfl rfl ?_
      refine g_iinc (M := mX0_knownSet) (pc := 29) (c := 1) (ls' := [some (aR g 0), some (aI t2), some (aI (a2 + 1))]) 32 dX0_knownSet_29 rfl ic1 rfl rfl rfl ?_
      refine g_goto (M := mX0_knownSet) (pc := 32) 4 dX0_knownSet_32 (by decide) ?_
      exact g_jmp (fun z => v_fgt [true, true, true] z)
set_option maxRecDepth 100000 in
set_option maxHeartbeats 4000000 in
theorem CX0_knownSet (g : Nat) (hg : g < 3) (h : HI) (L : HL) : CG mX0_knownSet 1 [aR g 0] h L (lfI h L) (FX0_knownSet g h) := by
  unfold FX0_knownSet
  refine cg_of [some (aR g 0), none, none] rfl (by decide) rfl rfl (fun T => ?_)
  refine g_iconst (M := mX0_knownSet) (pc := 0) (v := 0) 1 dX0_knownSet_0 rfl ic0 ?_
  refine g_istore_n (M := mX0_knownSet) (pc := 1) (ls' := [some (aR g 0), some (aI 0), none]) 2 dX0_knownSet_1 rfl rfl rfl rfl ?_
  refine g_iconst (M := mX0_knownSet) (pc := 2) (v := 0) 3 dX0_knownSet_2 rfl ic0 ?_
  refine g_istore_n (M := mX0_knownSet) (pc := 3) (ls' := [some (aR g 0), some (aI 0), some (aI 0)]) 4 dX0_knownSet_3 rfl rfl rfl rfl ?_
  refine g_loop (fun s => SX0_knownSet_4_ok g hg h L T s.1 s.2) ?_ (fun z => v_fgt [true, true, true] z)
  intro e3
  show VX mX0_knownSet 1 T _ 35 [none, some (aI e3), none] [] h L _
  refine g_iload_n (M := mX0_knownSet) (pc := 35) 36 dX0_knownSet_35 rfl rfl rfl ?_
  exact g_iret (M := mX0_knownSet) (pc := 36) dX0_knownSet_36 rfl rfl (fun z => z)
def FX5_learnFor (g : Nat) (a1 : Int32) (a2 : Int32) (h : HI) : Option (HI) :=
  gd (ixb a1 12) <|
  gd (!decide ((if 1 < (h g 4 (nC a1)) then (h g 4 (nC a1)) else 1) = 0)) <|
  nm ((100 * a2) / (if 1 < (h g 4 (nC a1)) then (h g 4 (nC a1)) else 1)) fun t1 =>
  gd (ixb a1 12) <|
  gd (ixb a1 12) <|
  nm (hP1 h g 6 (nC a1) (if ((h g 6 (nC a1)) + t1) < 100 then ((h g 6 (nC a1)) + t1) else 100)) fun h2 =>
  some h2
set_option maxRecDepth 100000 in
set_option maxHeartbeats 4000000 in
theorem CX5_learnFor (g : Nat) (hg : g < 3) (a1 : Int32) (a2 : Int32) (h : HI) (L : HL) : CG mX5_learnFor 1 [aR g 1, aI a1, aI a2] h L (lfVH L) (FX5_learnFor g a1 a2 h) := by
  unfold FX5_learnFor
  refine cg_of [some (aR g 1), some (aI a1), some (aI a2), none] rfl (by decide) rfl rfl (fun T => ?_)
  refine g_bipush (M := mX5_learnFor) (pc := 0) (v := 100) 2 dX5_learnFor_0 rfl bp100 ?_
  refine g_iload_n (M := mX5_learnFor) (pc := 2) 3 dX5_learnFor_2 rfl rfl rfl ?_
  refine g_imul (M := mX5_learnFor) (pc := 3) 4 dX5_learnFor_3 rfl ?_
  refine g_iconst (M := mX5_learnFor) (pc := 4) (v := 1) 5 dX5_learnFor_4 rfl ic1 ?_
  refine g_aload_n (M := mX5_learnFor) (pc := 5) 6 dX5_learnFor_5 rfl rfl rfl ?_
  refine g_getR (M := mX5_learnFor) (pc := 6) 9 dX5_learnFor_6 rfl fX5_18 (oR1_2 hg) ?_
  refine g_iload_n (M := mX5_learnFor) (pc := 9) 10 dX5_learnFor_9 rfl rfl rfl ?_
  refine g_iald (M := mX5_learnFor) (pc := 10) 11 dX5_learnFor_10 rfl (oA4 hg) ?_
  refine g_max (M := mX5_learnFor) (pc := 11) 14 dX5_learnFor_11 rfl kX5_54 rfl rfl ?_
  refine g_idiv (M := mX5_learnFor) (pc := 14) 15 dX5_learnFor_14 rfl ?_
  refine g_nmI (fun t1 => ?_)
  refine g_istore_n (M := mX5_learnFor) (pc := 15) (ls' := [some (aR g 1), some (aI a1), some (aI a2), some (aI t1)]) 16 dX5_learnFor_15 rfl rfl rfl rfl ?_
  refine g_aload_n (M := mX5_learnFor) (pc := 16) 17 dX5_learnFor_16 rfl rfl rfl ?_
  refine g_getR (M := mX5_learnFor) (pc := 17) 20 dX5_learnFor_17 rfl fX5_24 (oR1_4 hg) ?_
  refine g_iload_n (M := mX5_learnFor) (pc := 20) 21 dX5_learnFor_20 rfl rfl rfl ?_
  refine g_bipush (M := mX5_learnFor) (pc := 21) (v := 100) 23 dX5_learnFor_21 rfl bp100 ?_
  refine g_aload_n (M := mX5_learnFor) (pc := 23) 24 dX5_learnFor_23 rfl rfl rfl ?_
  refine g_getR (M := mX5_learnFor) (pc := 24) 27 dX5_learnFor_24 rfl fX5_24 (oR1_4 hg) ?_
  refine g_iload_n (M := mX5_learnFor) (pc := 27) 28 dX5_learnFor_27 rfl rfl rfl ?_
  refine g_iald (M := mX5_learnFor) (pc := 28) 29 dX5_learnFor_28 rfl (oA6 hg) ?_
  refine g_iload_n (M := mX5_learnFor) (pc := 29) 30 dX5_learnFor_29 rfl rfl rfl ?_
  refine g_iadd (M := mX5_learnFor) (pc := 30) 31 dX5_learnFor_30 rfl ?_
  refine g_min (M := mX5_learnFor) (pc := 31) 34 dX5_learnFor_31 rfl kX5_60 rfl rfl ?_
  refine g_iast (M := mX5_learnFor) (pc := 34) 35 dX5_learnFor_34 rfl (oA6 hg) (fun h2 => ?_)
  exact g_vret (M := mX5_learnFor) (pc := 35) dX5_learnFor_35 rfl (fun z => z)
def SX0_spendEvening_4 (g : Nat) : (Int32 × Int32 × HI) → Option ((Int32 × Int32 × HI) ⊕ (Int32 × HI))
  | (a2, a3, h) =>
    if (h g 14 1) ≤ a3 then
      some (Sum.inr (a2, h))
    else
      if a2 ≤ 0 then
        some (Sum.inr (a2, h))
      else
        gd (ixb a3 12) <|
        nm (h g 15 (nC a3)) fun t1 =>
        Option.bind (FX0_isKnown g t1 h) fun r2 =>
        if r2 = 0 then
          gd (ixb t1 12) <|
          nm (if (h g 4 (nC t1)) < a2 then (h g 4 (nC t1)) else a2) fun t3 =>
          Option.bind (FX5_learnFor g t1 t3 h) fun h4 =>
          nm (a2 - t3) fun t5 =>
          some (Sum.inl (t5, (a3 + 1), h4))
        else
          some (Sum.inl (a2, (a3 + 1), h))
def FX0_spendEvening (g : Nat) (a1 : Int32) (h : HI) : Option (Int32 × HI) :=
  Option.bind (loopN (SX0_spendEvening_4 g) FU (a1, 0, h)) fun (e6, h7) =>
    some (e6, h7)
set_option maxRecDepth 100000 in
set_option maxHeartbeats 4000000 in
theorem SX0_spendEvening_4_ok (g : Nat) (hg : g < 3) (L : HL) (T : ZT) (a2 : Int32) (a3 : Int32) (h : HI) : VX mX0_spendEvening 2 T (gS (fun s : Int32 × Int32 × HI => V mX0_spendEvening 2 T 4 [some (aR g 0), none, some (aI (s.1)), some (aI (s.2.1)), none, none] [] (s.2.2) L) (fun s : Int32 × HI => V mX0_spendEvening 2 T 77 [none, none, some (aI (s.1)), none, none, none] [] (s.2) L)) 4 [some (aR g 0), none, some (aI a2), some (aI a3), none, none] [] h L (SX0_spendEvening_4 g (a2, a3, h)) := by
  unfold SX0_spendEvening_4
  refine g_iload_n (M := mX0_spendEvening) (pc := 4) 5 dX0_spendEvening_4 rfl rfl rfl ?_
  refine g_aload_n (M := mX0_spendEvening) (pc := 5) 6 dX0_spendEvening_5 rfl rfl rfl ?_
  refine g_getR (M := mX0_spendEvening) (pc := 6) 9 dX0_spendEvening_6 rfl fX0_28 (oR0_2 hg) ?_
  refine g_getI (M := mX0_spendEvening) (pc := 9) 12 dX0_spendEvening_9 rfl fX0_83 (oF14_1 hg) ?_
  refine g_icmp_ge (M := mX0_spendEvening) (pc := 12) 77 15 dX0_spendEvening_12 (by decide) rfl (fun _ => ?_) (fun _ => ?_)
  · exact g_jmp (fun z => v_fgt [false, false, true, false, false, false] z)
  · refine g_iload_n (M := mX0_spendEvening) (pc := 15) 16 dX0_spendEvening_15 rfl rfl rfl ?_
    refine g_if_le (M := mX0_spendEvening) (pc := 16) 77 19 dX0_spendEvening_16 (by decide) rfl (fun _ => ?_) (fun _ => ?_)
    · exact g_jmp (fun z => v_fgt [false, false, true, false, false, false] z)
    · refine g_aload_n (M := mX0_spendEvening) (pc := 19) 20 dX0_spendEvening_19 rfl rfl rfl ?_
      refine g_getR (M := mX0_spendEvening) (pc := 20) 23 dX0_spendEvening_20 rfl fX0_28 (oR0_2 hg) ?_
      refine g_getR (M := mX0_spendEvening) (pc := 23) 26 dX0_spendEvening_23 rfl fX0_84 (oR14_0 hg) ?_
      refine g_iload_n (M := mX0_spendEvening) (pc := 26) 27 dX0_spendEvening_26 rfl rfl rfl ?_
      refine g_iald (M := mX0_spendEvening) (pc := 27) 28 dX0_spendEvening_27 rfl (oA15 hg) ?_
      refine g_nmI (fun t1 => ?_)
      refine g_istore (M := mX0_spendEvening) (pc := 28) (ls' := [some (aR g 0), none, some (aI a2), some (aI a3), some (aI t1), none]) 30 dX0_spendEvening_28 rfl rfl rfl ?_
      refine g_aload_n (M := mX0_spendEvening) (pc := 30) 31 dX0_spendEvening_30 rfl rfl rfl ?_
      refine g_iload (M := mX0_spendEvening) (pc := 31) 33 dX0_spendEvening_31 rfl rfl ?_
      refine g_cV_I (M := mX0_spendEvening) (pc := 33) (M' := mX0_isKnown) (rest := []) 36 dX0_spendEvening_33 rfl kX0_79 okX0_isKnown (CX0_isKnown g hg t1 h L) (oO0 hg) rfl rfl rfl rfl (fun r2 => ?_)
      refine g_if_ne (M := mX0_spendEvening) (pc := 36) 71 39 dX0_spendEvening_36 (by decide) rfl (fun _ => ?_) (fun _ => ?_)
      · refine g_iinc (M := mX0_spendEvening) (pc := 71) (c := 1) (ls' := [some (aR g 0), none, some (aI a2), some (aI (a3 + 1)), some (aI t1), none]) 74 dX0_spendEvening_71 rfl ic1 rfl rfl rfl ?_
        refine g_goto (M := mX0_spendEvening) (pc := 74) 4 dX0_spendEvening_74 (by decide) ?_
        exact g_jmp (fun z => v_fgt [true, false, true, true, false, false] z)
      · refine g_iload_n (M := mX0_spendEvening) (pc := 39) 40 dX0_spendEvening_39 rfl rfl rfl ?_
        refine g_aload_n (M := mX0_spendEvening) (pc := 40) 41 dX0_spendEvening_40 rfl rfl rfl ?_
        refine g_getR (M := mX0_spendEvening) (pc := 41) 44 dX0_spendEvening_41 rfl fX0_12 (oR0_0 hg) ?_
        refine g_getR (M := mX0_spendEvening) (pc := 44) 47 dX0_spendEvening_44 rfl fX0_87 (oR1_2 hg) ?_
        refine g_iload (M := mX0_spendEvening) (pc := 47) 49 dX0_spendEvening_47 rfl rfl ?_
        refine g_iald (M := mX0_spendEvening) (pc := 49) 50 dX0_spendEvening_49 rfl (oA4 hg) ?_
        refine g_min (M := mX0_spendEvening) (pc := 50) 53 dX0_spendEvening_50 rfl kX0_90 rfl rfl ?_
        refine g_nmI (fun t3 => ?_)
        refine g_istore (M := mX0_spendEvening) (pc := 53) (ls' := [some (aR g 0), none, some (aI a2), some (aI a3), some (aI t1), some (aI t3)]) 55 dX0_spendEvening_53 rfl rfl rfl ?_
        refine g_aload_n (M := mX0_spendEvening) (pc := 55) 56 dX0_spendEvening_55 rfl rfl rfl ?_
        refine g_getR (M := mX0_spendEvening) (pc := 56) 59 dX0_spendEvening_56 rfl fX0_12 (oR0_0 hg) ?_
        refine g_iload (M := mX0_spendEvening) (pc := 59) 61 dX0_spendEvening_59 rfl rfl ?_
        refine g_iload (M := mX0_spendEvening) (pc := 61) 63 dX0_spendEvening_61 rfl rfl ?_
        refine g_cV_VH (M := mX0_spendEvening) (pc := 63) (M' := mX5_learnFor) (rest := []) 66 dX0_spendEvening_63 rfl kX0_96 okX5_learnFor (CX5_learnFor g hg t1 t3 h L) (oO1 hg) rfl rfl rfl rfl (fun h4 => ?_)
        refine g_iload_n (M := mX0_spendEvening) (pc := 66) 67 dX0_spendEvening_66 rfl rfl rfl ?_
        refine g_iload (M := mX0_spendEvening) (pc := 67) 69 dX0_spendEvening_67 rfl rfl ?_
        refine g_isub (M := mX0_spendEvening) (pc := 69) 70 dX0_spendEvening_69 rfl ?_
        refine g_nmI (fun t5 => ?_)
        refine g_istore_n (M := mX0_spendEvening) (pc := 70) (ls' := [some (aR g 0), none, some (aI t5), some (aI a3), some (aI t1), some (aI t3)]) 71 dX0_spendEvening_70 rfl rfl rfl rfl ?_
        refine g_iinc (M := mX0_spendEvening) (pc := 71) (c := 1) (ls' := [some (aR g 0), none, some (aI t5), some (aI (a3 + 1)), some (aI t1), some (aI t3)]) 74 dX0_spendEvening_71 rfl ic1 rfl rfl rfl ?_
        refine g_goto (M := mX0_spendEvening) (pc := 74) 4 dX0_spendEvening_74 (by decide) ?_
        exact g_jmp (fun z => v_fgt [true, false, true, true, false, false] z)
set_option maxRecDepth 100000 in
set_option maxHeartbeats 4000000 in
theorem CX0_spendEvening (g : Nat) (hg : g < 3) (a1 : Int32) (h : HI) (L : HL) : CG mX0_spendEvening 2 [aR g 0, aI a1] h L (lfIH L) (FX0_spendEvening g a1 h) := by
  unfold FX0_spendEvening
  refine cg_of [some (aR g 0), some (aI a1), none, none, none, none] rfl (by decide) rfl rfl (fun T => ?_)
  refine g_iload_n (M := mX0_spendEvening) (pc := 0) 1 dX0_spendEvening_0 rfl rfl rfl ?_
  refine g_istore_n (M := mX0_spendEvening) (pc := 1) (ls' := [some (aR g 0), some (aI a1), some (aI a1), none, none, none]) 2 dX0_spendEvening_1 rfl rfl rfl rfl ?_
  refine g_iconst (M := mX0_spendEvening) (pc := 2) (v := 0) 3 dX0_spendEvening_2 rfl ic0 ?_
  refine g_istore_n (M := mX0_spendEvening) (pc := 3) (ls' := [some (aR g 0), some (aI a1), some (aI a1), some (aI 0), none, none]) 4 dX0_spendEvening_3 rfl rfl rfl rfl ?_
  refine g_loop (fun s => SX0_spendEvening_4_ok g hg L T s.1 s.2.1 s.2.2) ?_ (fun z => v_fgt [true, false, true, true, false, false] z)
  rintro ⟨e6, h7⟩
  show VX mX0_spendEvening 2 T _ 77 [none, none, some (aI e6), none, none, none] [] h7 L _
  refine g_iload_n (M := mX0_spendEvening) (pc := 77) 78 dX0_spendEvening_77 rfl rfl rfl ?_
  exact g_iret (M := mX0_spendEvening) (pc := 78) dX0_spendEvening_78 rfl rfl (fun z => z)
def SX8_howManyOn_4 (g : Nat) (a1 : Int32) (h : HI) : (Int32 × Int32) → Option ((Int32 × Int32) ⊕ (Int32))
  | (a2, a3) =>
    if (h g 8 5) ≤ a3 then
      some (Sum.inr a2)
    else
      gd (ixb a3 12) <|
      if (h g 11 (nC a3)) = a1 then
        some (Sum.inl ((a2 + 1), (a3 + 1)))
      else
        some (Sum.inl (a2, (a3 + 1)))
def FX8_howManyOn (g : Nat) (a1 : Int32) (h : HI) : Option (Int32) :=
  Option.bind (loopN (SX8_howManyOn_4 g a1 h) FU (0, 0)) fun e1 =>
    some e1
set_option maxRecDepth 100000 in
set_option maxHeartbeats 4000000 in
theorem SX8_howManyOn_4_ok (g : Nat) (hg : g < 3) (a1 : Int32) (h : HI) (L : HL) (T : ZT) (a2 : Int32) (a3 : Int32) : VX mX8_howManyOn 0 T (gS (fun s : Int32 × Int32 => V mX8_howManyOn 0 T 4 [some (aR g 8), some (aI a1), some (aI (s.1)), some (aI (s.2))] [] h L) (fun s : Int32 => V mX8_howManyOn 0 T 31 [none, none, some (aI s), none] [] h L)) 4 [some (aR g 8), some (aI a1), some (aI a2), some (aI a3)] [] h L (SX8_howManyOn_4 g a1 h (a2, a3)) := by
  unfold SX8_howManyOn_4
  refine g_iload_n (M := mX8_howManyOn) (pc := 4) 5 dX8_howManyOn_4 rfl rfl rfl ?_
  refine g_aload_n (M := mX8_howManyOn) (pc := 5) 6 dX8_howManyOn_5 rfl rfl rfl ?_
  refine g_getI (M := mX8_howManyOn) (pc := 6) 9 dX8_howManyOn_6 rfl fX8_27 (oF8_5 hg) ?_
  refine g_icmp_ge (M := mX8_howManyOn) (pc := 9) 31 12 dX8_howManyOn_9 (by decide) rfl (fun _ => ?_) (fun _ => ?_)
  · exact g_jmp (fun z => v_fgt [false, false, true, false] z)
  · refine g_aload_n (M := mX8_howManyOn) (pc := 12) 13 dX8_howManyOn_12 rfl rfl rfl ?_
    refine g_getR (M := mX8_howManyOn) (pc := 13) 16 dX8_howManyOn_13 rfl fX8_18 (oR8_2 hg) ?_
    refine g_iload_n (M := mX8_howManyOn) (pc := 16) 17 dX8_howManyOn_16 rfl rfl rfl ?_
    refine g_iald (M := mX8_howManyOn) (pc := 17) 18 dX8_howManyOn_17 rfl (oA11 hg) ?_
    refine g_iload_n (M := mX8_howManyOn) (pc := 18) 19 dX8_howManyOn_18 rfl rfl rfl ?_
    refine g_icmp_ne (M := mX8_howManyOn) (pc := 19) 25 22 dX8_howManyOn_19 (by decide) rfl (fun _ => ?_) (fun _ => ?_)
    · refine g_iinc (M := mX8_howManyOn) (pc := 25) (c := 1) (ls' := [some (aR g 8), some (aI a1), some (aI a2), some (aI (a3 + 1))]) 28 dX8_howManyOn_25 rfl ic1 rfl rfl rfl ?_
      refine g_goto (M := mX8_howManyOn) (pc := 28) 4 dX8_howManyOn_28 (by decide) ?_
      exact g_jmp (fun z => v_fgt [true, true, true, true] z)
    · refine g_iinc (M := mX8_howManyOn) (pc := 22) (c := 1) (ls' := [some (aR g 8), some (aI a1), some (aI (a2 + 1)), some (aI a3)]) 25 dX8_howManyOn_22 rfl ic1 rfl rfl rfl ?_
      refine g_iinc (M := mX8_howManyOn) (pc := 25) (c := 1) (ls' := [some (aR g 8), some (aI a1), some (aI (a2 + 1)), some (aI (a3 + 1))]) 28 dX8_howManyOn_25 rfl ic1 rfl rfl rfl ?_
      refine g_goto (M := mX8_howManyOn) (pc := 28) 4 dX8_howManyOn_28 (by decide) ?_
      exact g_jmp (fun z => v_fgt [true, true, true, true] z)
set_option maxRecDepth 100000 in
set_option maxHeartbeats 4000000 in
theorem CX8_howManyOn (g : Nat) (hg : g < 3) (a1 : Int32) (h : HI) (L : HL) : CG mX8_howManyOn 0 [aR g 8, aI a1] h L (lfI h L) (FX8_howManyOn g a1 h) := by
  unfold FX8_howManyOn
  refine cg_of [some (aR g 8), some (aI a1), none, none] rfl (by decide) rfl rfl (fun T => ?_)
  refine g_iconst (M := mX8_howManyOn) (pc := 0) (v := 0) 1 dX8_howManyOn_0 rfl ic0 ?_
  refine g_istore_n (M := mX8_howManyOn) (pc := 1) (ls' := [some (aR g 8), some (aI a1), some (aI 0), none]) 2 dX8_howManyOn_1 rfl rfl rfl rfl ?_
  refine g_iconst (M := mX8_howManyOn) (pc := 2) (v := 0) 3 dX8_howManyOn_2 rfl ic0 ?_
  refine g_istore_n (M := mX8_howManyOn) (pc := 3) (ls' := [some (aR g 8), some (aI a1), some (aI 0), some (aI 0)]) 4 dX8_howManyOn_3 rfl rfl rfl rfl ?_
  refine g_loop (fun s => SX8_howManyOn_4_ok g hg a1 h L T s.1 s.2) ?_ (fun z => v_fgt [true, true, true, true] z)
  intro e1
  show VX mX8_howManyOn 0 T _ 31 [none, none, some (aI e1), none] [] h L _
  refine g_iload_n (M := mX8_howManyOn) (pc := 31) 32 dX8_howManyOn_31 rfl rfl rfl ?_
  exact g_iret (M := mX8_howManyOn) (pc := 32) dX8_howManyOn_32 rfl rfl (fun z => z)
def SX5_isUnder_10 (g : Nat) (a2 : Int32) (h : HI) : (Int32 × Int32) → Option ((Int32 × Int32) ⊕ (Int32))
  | (a3, a4) =>
    if 6 ≤ a4 then
      some (Sum.inr 0)
    else
      if a3 < 0 then
        some (Sum.inr 0)
      else
        if a3 = a2 then
          some (Sum.inr 1)
        else
          gd (ixb a3 6) <|
          nm (([-1, 0, 0, 1, 2, 0] : List Int32).getD (nC a3) 0) fun t2 =>
          some (Sum.inl (t2, (a4 + 1)))
def FX5_isUnder (g : Nat) (a1 : Int32) (a2 : Int32) (h : HI) : Option (Int32) :=
  gd (ixb a1 12) <|
  nm (h g 2 (nC a1)) fun t1 =>
  Option.bind (loopN (SX5_isUnder_10 g a2 h) FU (t1, 0)) fun r => some r
set_option maxRecDepth 100000 in
set_option maxHeartbeats 4000000 in
theorem SX5_isUnder_10_ok (g : Nat) (hg : g < 3) (a2 : Int32) (h : HI) (L : HL) (T : ZT) (a3 : Int32) (a4 : Int32) : VX mX5_isUnder 0 T (gS (fun s : Int32 × Int32 => V mX5_isUnder 0 T 10 [none, none, some (aI a2), some (aI (s.1)), some (aI (s.2))] [] h L) (fun r => Zl (lfI h L) r = T)) 10 [none, none, some (aI a2), some (aI a3), some (aI a4)] [] h L (SX5_isUnder_10 g a2 h (a3, a4)) := by
  unfold SX5_isUnder_10
  refine g_iload (M := mX5_isUnder) (pc := 10) 12 dX5_isUnder_10 rfl rfl ?_
  refine g_gets (M := mX5_isUnder) (pc := 12) (j := 0) 15 dX5_isUnder_12 rfl sX5_44 rfl ?_
  refine g_slen (M := mX5_isUnder) (pc := 15) (v := 6) 16 dX5_isUnder_15 rfl rfl rfl ?_
  refine g_icmp_ge (M := mX5_isUnder) (pc := 16) 42 19 dX5_isUnder_16 (by decide) rfl (fun _ => ?_) (fun _ => ?_)
  · refine g_iconst (M := mX5_isUnder) (pc := 42) (v := 0) 43 dX5_isUnder_42 rfl ic0 ?_
    exact g_iret (M := mX5_isUnder) (pc := 43) dX5_isUnder_43 rfl nz0 (fun z => z)
  · refine g_iload_n (M := mX5_isUnder) (pc := 19) 20 dX5_isUnder_19 rfl rfl rfl ?_
    refine g_if_lt (M := mX5_isUnder) (pc := 20) 42 23 dX5_isUnder_20 (by decide) rfl (fun _ => ?_) (fun _ => ?_)
    · refine g_iconst (M := mX5_isUnder) (pc := 42) (v := 0) 43 dX5_isUnder_42 rfl ic0 ?_
      exact g_iret (M := mX5_isUnder) (pc := 43) dX5_isUnder_43 rfl nz0 (fun z => z)
    · refine g_iload_n (M := mX5_isUnder) (pc := 23) 24 dX5_isUnder_23 rfl rfl rfl ?_
      refine g_iload_n (M := mX5_isUnder) (pc := 24) 25 dX5_isUnder_24 rfl rfl rfl ?_
      refine g_icmp_ne (M := mX5_isUnder) (pc := 25) 30 28 dX5_isUnder_25 (by decide) rfl (fun _ => ?_) (fun _ => ?_)
      · refine g_gets (M := mX5_isUnder) (pc := 30) (j := 0) 33 dX5_isUnder_30 rfl sX5_44 rfl ?_
        refine g_iload_n (M := mX5_isUnder) (pc := 33) 34 dX5_isUnder_33 rfl rfl rfl ?_
        refine g_sald (M := mX5_isUnder) (pc := 34) (n := 6) 35 dX5_isUnder_34 rfl rfl rfl ?_
        refine g_nmI (fun t2 => ?_)
        refine g_istore_n (M := mX5_isUnder) (pc := 35) (ls' := [none, none, some (aI a2), some (aI t2), some (aI a4)]) 36 dX5_isUnder_35 rfl rfl rfl rfl ?_
        refine g_iinc (M := mX5_isUnder) (pc := 36) (c := 1) (ls' := [none, none, some (aI a2), some (aI t2), some (aI (a4 + 1))]) 39 dX5_isUnder_36 rfl ic1 rfl rfl rfl ?_
        refine g_goto (M := mX5_isUnder) (pc := 39) 10 dX5_isUnder_39 (by decide) ?_
        exact g_jmp (fun z => v_fgt [false, false, true, true, true] z)
      · refine g_iconst (M := mX5_isUnder) (pc := 28) (v := 1) 29 dX5_isUnder_28 rfl ic1 ?_
        exact g_iret (M := mX5_isUnder) (pc := 29) dX5_isUnder_29 rfl nz1 (fun z => z)
set_option maxRecDepth 100000 in
set_option maxHeartbeats 4000000 in
theorem CX5_isUnder (g : Nat) (hg : g < 3) (a1 : Int32) (a2 : Int32) (h : HI) (L : HL) : CG mX5_isUnder 0 [aR g 1, aI a1, aI a2] h L (lfI h L) (FX5_isUnder g a1 a2 h) := by
  unfold FX5_isUnder
  refine cg_of [some (aR g 1), some (aI a1), some (aI a2), none, none] rfl (by decide) rfl rfl (fun T => ?_)
  refine g_aload_n (M := mX5_isUnder) (pc := 0) 1 dX5_isUnder_0 rfl rfl rfl ?_
  refine g_getR (M := mX5_isUnder) (pc := 1) 4 dX5_isUnder_1 rfl fX5_9 (oR1_0 hg) ?_
  refine g_iload_n (M := mX5_isUnder) (pc := 4) 5 dX5_isUnder_4 rfl rfl rfl ?_
  refine g_iald (M := mX5_isUnder) (pc := 5) 6 dX5_isUnder_5 rfl (oA2 hg) ?_
  refine g_nmI (fun t1 => ?_)
  refine g_istore_n (M := mX5_isUnder) (pc := 6) (ls' := [some (aR g 1), some (aI a1), some (aI a2), some (aI t1), none]) 7 dX5_isUnder_6 rfl rfl rfl rfl ?_
  refine g_iconst (M := mX5_isUnder) (pc := 7) (v := 0) 8 dX5_isUnder_7 rfl ic0 ?_
  refine g_istore (M := mX5_isUnder) (pc := 8) (ls' := [some (aR g 1), some (aI a1), some (aI a2), some (aI t1), some (aI 0)]) 10 dX5_isUnder_8 rfl rfl rfl ?_
  exact g_loop (fun s => SX5_isUnder_10_ok g hg a2 h L T s.1 s.2) (fun e b z1 z2 => by cases z1; exact z2) (fun z => v_fgt [false, false, true, true, true] z)
def SX5_hasKind_2 (g : Nat) (a1 : Int32) (a2 : Int32) (h : HI) : Int32 → Option ((Int32) ⊕ (Int32))
  | a3 =>
    if (h g 1 6) ≤ a3 then
      some (Sum.inr 0)
    else
      Option.bind (FX9_isIn a1 a3) fun r1 =>
      if r1 = 0 then
        some (Sum.inl (a3 + 1))
      else
        Option.bind (FX5_isUnder g a3 a2 h) fun r2 =>
        if r2 = 0 then
          some (Sum.inl (a3 + 1))
        else
          some (Sum.inr 1)
def FX5_hasKind (g : Nat) (a1 : Int32) (a2 : Int32) (h : HI) : Option (Int32) :=
  Option.bind (loopN (SX5_hasKind_2 g a1 a2 h) FU 0) fun r => some r
set_option maxRecDepth 100000 in
set_option maxHeartbeats 4000000 in
theorem SX5_hasKind_2_ok (g : Nat) (hg : g < 3) (a1 : Int32) (a2 : Int32) (h : HI) (L : HL) (T : ZT) (a3 : Int32) : VX mX5_hasKind 1 T (gS (fun s : Int32 => V mX5_hasKind 1 T 2 [some (aR g 1), some (aI a1), some (aI a2), some (aI s)] [] h L) (fun r => Zl (lfI h L) r = T)) 2 [some (aR g 1), some (aI a1), some (aI a2), some (aI a3)] [] h L (SX5_hasKind_2 g a1 a2 h a3) := by
  unfold SX5_hasKind_2
  refine g_iload_n (M := mX5_hasKind) (pc := 2) 3 dX5_hasKind_2 rfl rfl rfl ?_
  refine g_aload_n (M := mX5_hasKind) (pc := 3) 4 dX5_hasKind_3 rfl rfl rfl ?_
  refine g_getI (M := mX5_hasKind) (pc := 4) 7 dX5_hasKind_4 rfl fX5_30 (oF1_6 hg) ?_
  refine g_icmp_ge (M := mX5_hasKind) (pc := 7) 35 10 dX5_hasKind_7 (by decide) rfl (fun _ => ?_) (fun _ => ?_)
  · refine g_iconst (M := mX5_hasKind) (pc := 35) (v := 0) 36 dX5_hasKind_35 rfl ic0 ?_
    exact g_iret (M := mX5_hasKind) (pc := 36) dX5_hasKind_36 rfl nz0 (fun z => z)
  · refine g_iload_n (M := mX5_hasKind) (pc := 10) 11 dX5_hasKind_10 rfl rfl rfl ?_
    refine g_iload_n (M := mX5_hasKind) (pc := 11) 12 dX5_hasKind_11 rfl rfl rfl ?_
    refine g_cN_I (M := mX5_hasKind) (pc := 12) (M' := mX9_isIn) (rest := []) 15 dX5_hasKind_12 rfl nX5_47 okX9_isIn (CX9_isIn a1 a3 h L) rfl rfl rfl rfl (fun r1 => ?_)
    refine g_if_eq (M := mX5_hasKind) (pc := 15) 29 18 dX5_hasKind_15 (by decide) rfl (fun _ => ?_) (fun _ => ?_)
    · refine g_iinc (M := mX5_hasKind) (pc := 29) (c := 1) (ls' := [some (aR g 1), some (aI a1), some (aI a2), some (aI (a3 + 1))]) 32 dX5_hasKind_29 rfl ic1 rfl rfl rfl ?_
      refine g_goto (M := mX5_hasKind) (pc := 32) 2 dX5_hasKind_32 (by decide) ?_
      exact g_jmp (fun z => v_fgt [true, true, true, true] z)
    · refine g_aload_n (M := mX5_hasKind) (pc := 18) 19 dX5_hasKind_18 rfl rfl rfl ?_
      refine g_iload_n (M := mX5_hasKind) (pc := 19) 20 dX5_hasKind_19 rfl rfl rfl ?_
      refine g_iload_n (M := mX5_hasKind) (pc := 20) 21 dX5_hasKind_20 rfl rfl rfl ?_
      refine g_cV_I (M := mX5_hasKind) (pc := 21) (M' := mX5_isUnder) (rest := []) 24 dX5_hasKind_21 rfl kX5_51 okX5_isUnder (CX5_isUnder g hg a3 a2 h L) (oO1 hg) rfl rfl rfl rfl (fun r2 => ?_)
      refine g_if_eq (M := mX5_hasKind) (pc := 24) 29 27 dX5_hasKind_24 (by decide) rfl (fun _ => ?_) (fun _ => ?_)
      · refine g_iinc (M := mX5_hasKind) (pc := 29) (c := 1) (ls' := [some (aR g 1), some (aI a1), some (aI a2), some (aI (a3 + 1))]) 32 dX5_hasKind_29 rfl ic1 rfl rfl rfl ?_
        refine g_goto (M := mX5_hasKind) (pc := 32) 2 dX5_hasKind_32 (by decide) ?_
        exact g_jmp (fun z => v_fgt [true, true, true, true] z)
      · refine g_iconst (M := mX5_hasKind) (pc := 27) (v := 1) 28 dX5_hasKind_27 rfl ic1 ?_
        exact g_iret (M := mX5_hasKind) (pc := 28) dX5_hasKind_28 rfl nz1 (fun z => z)
set_option maxRecDepth 100000 in
set_option maxHeartbeats 4000000 in
theorem CX5_hasKind (g : Nat) (hg : g < 3) (a1 : Int32) (a2 : Int32) (h : HI) (L : HL) : CG mX5_hasKind 1 [aR g 1, aI a1, aI a2] h L (lfI h L) (FX5_hasKind g a1 a2 h) := by
  unfold FX5_hasKind
  refine cg_of [some (aR g 1), some (aI a1), some (aI a2), none] rfl (by decide) rfl rfl (fun T => ?_)
  refine g_iconst (M := mX5_hasKind) (pc := 0) (v := 0) 1 dX5_hasKind_0 rfl ic0 ?_
  refine g_istore_n (M := mX5_hasKind) (pc := 1) (ls' := [some (aR g 1), some (aI a1), some (aI a2), some (aI 0)]) 2 dX5_hasKind_1 rfl rfl rfl rfl ?_
  exact g_loop (fun s => SX5_hasKind_2_ok g hg a1 a2 h L T s) (fun e b z1 z2 => by cases z1; exact z2) (fun z => v_fgt [true, true, true, true] z)
def SX0_meetWants_26 (g : Nat) (a1 : Int32) (a2 : Int32) (a3 : Int32) : (Int32 × Int32 × HI) → Option ((Int32 × Int32 × HI) ⊕ (Int32 × HI))
  | (a4, a5, h) =>
    if (h g 8 5) ≤ a5 then
      some (Sum.inr (a4, h))
    else
      gd (ixb a5 12) <|
      if (h g 11 (nC a5)) = (h g 0 4) then
        Option.bind (FX0_gainsMost g a5 a1 a2 h) fun r3 =>
        Option.bind (FX0_metBy g a5 r3 a2 a3 h) fun r4 =>
        nm (hP1 h g 0 5 ((h g 0 5) + r4)) fun h5 =>
        if r3 < 0 then
          some (Sum.inl (a4, (a5 + 1), h5))
        else
          gd (ixb r3 12) <|
          gd (ixb r3 12) <|
          nm (hP1 h5 g 7 (nC r3) ((h5 g 7 (nC r3)) + 1)) fun h6 =>
          nm (a4 ||| (1 <<< (r3 &&& 31))) fun t7 =>
          some (Sum.inl (t7, (a5 + 1), h6))
      else
        some (Sum.inl (a4, (a5 + 1), h))
def FX0_meetWants (g : Nat) (a1 : Int32) (h : HI) : Option (Int32 × HI) :=
  Option.bind (FX5_hasKind g a1 2 h) fun r1 =>
  Option.bind (FX5_hasKind g a1 4 h) fun r2 =>
  Option.bind (loopN (SX0_meetWants_26 g a1 r1 r2) FU (0, 0, h)) fun (e8, h9) =>
    some (e8, h9)
set_option maxRecDepth 100000 in
set_option maxHeartbeats 4000000 in
theorem SX0_meetWants_26_ok (g : Nat) (hg : g < 3) (a1 : Int32) (a2 : Int32) (a3 : Int32) (L : HL) (T : ZT) (a4 : Int32) (a5 : Int32) (h : HI) : VX mX0_meetWants 3 T (gS (fun s : Int32 × Int32 × HI => V mX0_meetWants 3 T 26 [some (aR g 0), some (aI a1), some (aI a2), some (aI a3), some (aI (s.1)), some (aI (s.2.1)), none] [] (s.2.2) L) (fun s : Int32 × HI => V mX0_meetWants 3 T 118 [none, none, none, none, some (aI (s.1)), none, none] [] (s.2) L)) 26 [some (aR g 0), some (aI a1), some (aI a2), some (aI a3), some (aI a4), some (aI a5), none] [] h L (SX0_meetWants_26 g a1 a2 a3 (a4, a5, h)) := by
  unfold SX0_meetWants_26
  refine g_iload (M := mX0_meetWants) (pc := 26) 28 dX0_meetWants_26 rfl rfl ?_
  refine g_aload_n (M := mX0_meetWants) (pc := 28) 29 dX0_meetWants_28 rfl rfl rfl ?_
  refine g_getR (M := mX0_meetWants) (pc := 29) 32 dX0_meetWants_29 rfl fX0_21 (oR0_1 hg) ?_
  refine g_getI (M := mX0_meetWants) (pc := 32) 35 dX0_meetWants_32 rfl fX0_118 (oF8_5 hg) ?_
  refine g_icmp_ge (M := mX0_meetWants) (pc := 35) 118 38 dX0_meetWants_35 (by decide) rfl (fun _ => ?_) (fun _ => ?_)
  · exact g_jmp (fun z => v_fgt [false, false, false, false, true, false, false] z)
  · refine g_aload_n (M := mX0_meetWants) (pc := 38) 39 dX0_meetWants_38 rfl rfl rfl ?_
    refine g_getR (M := mX0_meetWants) (pc := 39) 42 dX0_meetWants_39 rfl fX0_21 (oR0_1 hg) ?_
    refine g_getR (M := mX0_meetWants) (pc := 42) 45 dX0_meetWants_42 rfl fX0_119 (oR8_2 hg) ?_
    refine g_iload (M := mX0_meetWants) (pc := 45) 47 dX0_meetWants_45 rfl rfl ?_
    refine g_iald (M := mX0_meetWants) (pc := 47) 48 dX0_meetWants_47 rfl (oA11 hg) ?_
    refine g_aload_n (M := mX0_meetWants) (pc := 48) 49 dX0_meetWants_48 rfl rfl rfl ?_
    refine g_getI (M := mX0_meetWants) (pc := 49) 52 dX0_meetWants_49 rfl fX0_36 (oF0_4 hg) ?_
    refine g_icmp_ne (M := mX0_meetWants) (pc := 52) 112 55 dX0_meetWants_52 (by decide) rfl (fun _ => ?_) (fun _ => ?_)
    · refine g_iinc (M := mX0_meetWants) (pc := 112) (c := 1) (ls' := [some (aR g 0), some (aI a1), some (aI a2), some (aI a3), some (aI a4), some (aI (a5 + 1)), none]) 115 dX0_meetWants_112 rfl ic1 rfl rfl rfl ?_
      refine g_goto (M := mX0_meetWants) (pc := 115) 26 dX0_meetWants_115 (by decide) ?_
      exact g_jmp (fun z => v_fgt [true, true, true, true, true, true, false] z)
    · refine g_aload_n (M := mX0_meetWants) (pc := 55) 56 dX0_meetWants_55 rfl rfl rfl ?_
      refine g_iload (M := mX0_meetWants) (pc := 56) 58 dX0_meetWants_56 rfl rfl ?_
      refine g_iload_n (M := mX0_meetWants) (pc := 58) 59 dX0_meetWants_58 rfl rfl rfl ?_
      refine g_iload_n (M := mX0_meetWants) (pc := 59) 60 dX0_meetWants_59 rfl rfl rfl ?_
      refine g_cV_I (M := mX0_meetWants) (pc := 60) (M' := mX0_gainsMost) (rest := []) 63 dX0_meetWants_60 rfl kX0_121 okX0_gainsMost (CX0_gainsMost g hg a5 a1 a2 h L) (oO0 hg) rfl rfl rfl rfl (fun r3 => ?_)
      refine g_istore (M := mX0_meetWants) (pc := 63) (ls' := [some (aR g 0), some (aI a1), some (aI a2), some (aI a3), some (aI a4), some (aI a5), some (aI r3)]) 65 dX0_meetWants_63 rfl rfl rfl ?_
      refine g_aload_n (M := mX0_meetWants) (pc := 65) 66 dX0_meetWants_65 rfl rfl rfl ?_
      refine g_dup (M := mX0_meetWants) (pc := 66) 67 dX0_meetWants_66 rfl rfl ?_
      refine g_getI (M := mX0_meetWants) (pc := 67) 70 dX0_meetWants_67 rfl fX0_39 (oF0_5 hg) ?_
      refine g_aload_n (M := mX0_meetWants) (pc := 70) 71 dX0_meetWants_70 rfl rfl rfl ?_
      refine g_iload (M := mX0_meetWants) (pc := 71) 73 dX0_meetWants_71 rfl rfl ?_
      refine g_iload (M := mX0_meetWants) (pc := 73) 75 dX0_meetWants_73 rfl rfl ?_
      refine g_iload_n (M := mX0_meetWants) (pc := 75) 76 dX0_meetWants_75 rfl rfl rfl ?_
      refine g_iload_n (M := mX0_meetWants) (pc := 76) 77 dX0_meetWants_76 rfl rfl rfl ?_
      refine g_cV_I (M := mX0_meetWants) (pc := 77) (M' := mX0_metBy) (rest := [aI (h g 0 5), aR g 0]) 80 dX0_meetWants_77 rfl kX0_124 okX0_metBy (CX0_metBy g hg a5 r3 a2 a3 h L) (oO0 hg) rfl rfl rfl rfl (fun r4 => ?_)
      refine g_iadd (M := mX0_meetWants) (pc := 80) 81 dX0_meetWants_80 rfl ?_
      refine g_put (M := mX0_meetWants) (pc := 81) 84 dX0_meetWants_81 rfl pX0_39 (oF0_5 hg) rfl rfl (fun h5 => ?_)
      refine g_iload (M := mX0_meetWants) (pc := 84) 86 dX0_meetWants_84 rfl rfl ?_
      refine g_if_lt (M := mX0_meetWants) (pc := 86) 112 89 dX0_meetWants_86 (by decide) rfl (fun _ => ?_) (fun _ => ?_)
      · refine g_iinc (M := mX0_meetWants) (pc := 112) (c := 1) (ls' := [some (aR g 0), some (aI a1), some (aI a2), some (aI a3), some (aI a4), some (aI (a5 + 1)), some (aI r3)]) 115 dX0_meetWants_112 rfl ic1 rfl rfl rfl ?_
        refine g_goto (M := mX0_meetWants) (pc := 115) 26 dX0_meetWants_115 (by decide) ?_
        exact g_jmp (fun z => v_fgt [true, true, true, true, true, true, false] z)
      · refine g_aload_n (M := mX0_meetWants) (pc := 89) 90 dX0_meetWants_89 rfl rfl rfl ?_
        refine g_getR (M := mX0_meetWants) (pc := 90) 93 dX0_meetWants_90 rfl fX0_12 (oR0_0 hg) ?_
        refine g_getR (M := mX0_meetWants) (pc := 93) 96 dX0_meetWants_93 rfl fX0_128 (oR1_5 hg) ?_
        refine g_iload (M := mX0_meetWants) (pc := 96) 98 dX0_meetWants_96 rfl rfl ?_
        refine g_dup2 (M := mX0_meetWants) (pc := 98) 99 dX0_meetWants_98 rfl rfl rfl ?_
        refine g_iald (M := mX0_meetWants) (pc := 99) 100 dX0_meetWants_99 rfl (oA7 hg) ?_
        refine g_iconst (M := mX0_meetWants) (pc := 100) (v := 1) 101 dX0_meetWants_100 rfl ic1 ?_
        refine g_iadd (M := mX0_meetWants) (pc := 101) 102 dX0_meetWants_101 rfl ?_
        refine g_iast (M := mX0_meetWants) (pc := 102) 103 dX0_meetWants_102 rfl (oA7 hg) (fun h6 => ?_)
        refine g_iload (M := mX0_meetWants) (pc := 103) 105 dX0_meetWants_103 rfl rfl ?_
        refine g_iconst (M := mX0_meetWants) (pc := 105) (v := 1) 106 dX0_meetWants_105 rfl ic1 ?_
        refine g_iload (M := mX0_meetWants) (pc := 106) 108 dX0_meetWants_106 rfl rfl ?_
        refine g_ishl (M := mX0_meetWants) (pc := 108) 109 dX0_meetWants_108 rfl ?_
        refine g_ior (M := mX0_meetWants) (pc := 109) 110 dX0_meetWants_109 rfl ?_
        refine g_nmI (fun t7 => ?_)
        refine g_istore (M := mX0_meetWants) (pc := 110) (ls' := [some (aR g 0), some (aI a1), some (aI a2), some (aI a3), some (aI t7), some (aI a5), some (aI r3)]) 112 dX0_meetWants_110 rfl rfl rfl ?_
        refine g_iinc (M := mX0_meetWants) (pc := 112) (c := 1) (ls' := [some (aR g 0), some (aI a1), some (aI a2), some (aI a3), some (aI t7), some (aI (a5 + 1)), some (aI r3)]) 115 dX0_meetWants_112 rfl ic1 rfl rfl rfl ?_
        refine g_goto (M := mX0_meetWants) (pc := 115) 26 dX0_meetWants_115 (by decide) ?_
        exact g_jmp (fun z => v_fgt [true, true, true, true, true, true, false] z)
set_option maxRecDepth 100000 in
set_option maxHeartbeats 4000000 in
theorem CX0_meetWants (g : Nat) (hg : g < 3) (a1 : Int32) (h : HI) (L : HL) : CG mX0_meetWants 3 [aR g 0, aI a1] h L (lfIH L) (FX0_meetWants g a1 h) := by
  unfold FX0_meetWants
  refine cg_of [some (aR g 0), some (aI a1), none, none, none, none, none] rfl (by decide) rfl rfl (fun T => ?_)
  refine g_aload_n (M := mX0_meetWants) (pc := 0) 1 dX0_meetWants_0 rfl rfl rfl ?_
  refine g_getR (M := mX0_meetWants) (pc := 1) 4 dX0_meetWants_1 rfl fX0_12 (oR0_0 hg) ?_
  refine g_iload_n (M := mX0_meetWants) (pc := 4) 5 dX0_meetWants_4 rfl rfl rfl ?_
  refine g_iconst (M := mX0_meetWants) (pc := 5) (v := 2) 6 dX0_meetWants_5 rfl ic2 ?_
  refine g_cV_I (M := mX0_meetWants) (pc := 6) (M' := mX5_hasKind) (rest := []) 9 dX0_meetWants_6 rfl kX0_115 okX5_hasKind (CX5_hasKind g hg a1 2 h L) (oO1 hg) rfl rfl rfl rfl (fun r1 => ?_)
  refine g_istore_n (M := mX0_meetWants) (pc := 9) (ls' := [some (aR g 0), some (aI a1), some (aI r1), none, none, none, none]) 10 dX0_meetWants_9 rfl rfl rfl rfl ?_
  refine g_aload_n (M := mX0_meetWants) (pc := 10) 11 dX0_meetWants_10 rfl rfl rfl ?_
  refine g_getR (M := mX0_meetWants) (pc := 11) 14 dX0_meetWants_11 rfl fX0_12 (oR0_0 hg) ?_
  refine g_iload_n (M := mX0_meetWants) (pc := 14) 15 dX0_meetWants_14 rfl rfl rfl ?_
  refine g_iconst (M := mX0_meetWants) (pc := 15) (v := 4) 16 dX0_meetWants_15 rfl ic4 ?_
  refine g_cV_I (M := mX0_meetWants) (pc := 16) (M' := mX5_hasKind) (rest := []) 19 dX0_meetWants_16 rfl kX0_115 okX5_hasKind (CX5_hasKind g hg a1 4 h L) (oO1 hg) rfl rfl rfl rfl (fun r2 => ?_)
  refine g_istore_n (M := mX0_meetWants) (pc := 19) (ls' := [some (aR g 0), some (aI a1), some (aI r1), some (aI r2), none, none, none]) 20 dX0_meetWants_19 rfl rfl rfl rfl ?_
  refine g_iconst (M := mX0_meetWants) (pc := 20) (v := 0) 21 dX0_meetWants_20 rfl ic0 ?_
  refine g_istore (M := mX0_meetWants) (pc := 21) (ls' := [some (aR g 0), some (aI a1), some (aI r1), some (aI r2), some (aI 0), none, none]) 23 dX0_meetWants_21 rfl rfl rfl ?_
  refine g_iconst (M := mX0_meetWants) (pc := 23) (v := 0) 24 dX0_meetWants_23 rfl ic0 ?_
  refine g_istore (M := mX0_meetWants) (pc := 24) (ls' := [some (aR g 0), some (aI a1), some (aI r1), some (aI r2), some (aI 0), some (aI 0), none]) 26 dX0_meetWants_24 rfl rfl rfl ?_
  refine g_loop (fun s => SX0_meetWants_26_ok g hg a1 r1 r2 L T s.1 s.2.1 s.2.2) ?_ (fun z => v_fgt [true, true, true, true, true, true, false] z)
  rintro ⟨e8, h9⟩
  show VX mX0_meetWants 3 T _ 118 [none, none, none, none, some (aI e8), none, none] [] h9 L _
  refine g_iload (M := mX0_meetWants) (pc := 118) 120 dX0_meetWants_118 rfl rfl ?_
  exact g_iret (M := mX0_meetWants) (pc := 120) dX0_meetWants_120 rfl rfl (fun z => z)
def FX5_forgets (g : Nat) (a1 : Int32) (h : HI) : Option (Int32) :=
  gd (ixb a1 12) <|
  nm (h g 2 (nC a1)) fun t1 =>
  if t1 = 1 then
    some 15
  else
  if t1 = 2 then
    some 5
  else
  if t1 = 3 then
    some 20
  else
  if t1 = 4 then
    some 5
  else
  if t1 = 5 then
    gd (ixb a1 12) <|
    some (10 + ((if 0 < ((h g 6 (nC a1)) - 50) then ((h g 6 (nC a1)) - 50) else 0) / 2))
  else
  some 10
set_option maxRecDepth 100000 in
set_option maxHeartbeats 4000000 in
theorem CX5_forgets (g : Nat) (hg : g < 3) (a1 : Int32) (h : HI) (L : HL) : CG mX5_forgets 1 [aR g 1, aI a1] h L (lfI h L) (FX5_forgets g a1 h) := by
  unfold FX5_forgets
  refine cg_of [some (aR g 1), some (aI a1)] rfl (by decide) rfl rfl (fun T => ?_)
  refine g_aload_n (M := mX5_forgets) (pc := 0) 1 dX5_forgets_0 rfl rfl rfl ?_
  refine g_getR (M := mX5_forgets) (pc := 1) 4 dX5_forgets_1 rfl fX5_9 (oR1_0 hg) ?_
  refine g_iload_n (M := mX5_forgets) (pc := 4) 5 dX5_forgets_4 rfl rfl rfl ?_
  refine g_iald (M := mX5_forgets) (pc := 5) 6 dX5_forgets_5 rfl (oA2 hg) ?_
  refine g_nmI (fun t1 => ?_)
  refine g_tsc (M := mX5_forgets) (pc := 6) (v := 1) 40 dX5_forgets_6 (by decide) (by decide) rfl (by decide) (fun _ => ?_) (fun z1 => ?_)
  · refine g_bipush (M := mX5_forgets) (pc := 40) (v := 15) 42 dX5_forgets_40 rfl bp15 ?_
    exact g_iret (M := mX5_forgets) (pc := 42) dX5_forgets_42 rfl rfl (fun z => z)
  refine g_tsc (M := mX5_forgets) (pc := 6) (v := 2) 43 dX5_forgets_6 (by decide) (by decide) rfl (by decide) (fun _ => ?_) (fun z2 => ?_)
  · refine g_iconst (M := mX5_forgets) (pc := 43) (v := 5) 44 dX5_forgets_43 rfl ic5 ?_
    exact g_iret (M := mX5_forgets) (pc := 44) dX5_forgets_44 rfl rfl (fun z => z)
  refine g_tsc (M := mX5_forgets) (pc := 6) (v := 3) 45 dX5_forgets_6 (by decide) (by decide) rfl (by decide) (fun _ => ?_) (fun z3 => ?_)
  · refine g_bipush (M := mX5_forgets) (pc := 45) (v := 20) 47 dX5_forgets_45 rfl bp20 ?_
    exact g_iret (M := mX5_forgets) (pc := 47) dX5_forgets_47 rfl rfl (fun z => z)
  refine g_tsc (M := mX5_forgets) (pc := 6) (v := 4) 43 dX5_forgets_6 (by decide) (by decide) rfl (by decide) (fun _ => ?_) (fun z4 => ?_)
  · refine g_iconst (M := mX5_forgets) (pc := 43) (v := 5) 44 dX5_forgets_43 rfl ic5 ?_
    exact g_iret (M := mX5_forgets) (pc := 44) dX5_forgets_44 rfl rfl (fun z => z)
  refine g_tsc (M := mX5_forgets) (pc := 6) (v := 5) 48 dX5_forgets_6 (by decide) (by decide) rfl (by decide) (fun _ => ?_) (fun z5 => ?_)
  · refine g_bipush (M := mX5_forgets) (pc := 48) (v := 10) 50 dX5_forgets_48 rfl bp10 ?_
    refine g_iconst (M := mX5_forgets) (pc := 50) (v := 0) 51 dX5_forgets_50 rfl ic0 ?_
    refine g_aload_n (M := mX5_forgets) (pc := 51) 52 dX5_forgets_51 rfl rfl rfl ?_
    refine g_getR (M := mX5_forgets) (pc := 52) 55 dX5_forgets_52 rfl fX5_24 (oR1_4 hg) ?_
    refine g_iload_n (M := mX5_forgets) (pc := 55) 56 dX5_forgets_55 rfl rfl rfl ?_
    refine g_iald (M := mX5_forgets) (pc := 56) 57 dX5_forgets_56 rfl (oA6 hg) ?_
    refine g_bipush (M := mX5_forgets) (pc := 57) (v := 50) 59 dX5_forgets_57 rfl bp50 ?_
    refine g_isub (M := mX5_forgets) (pc := 59) 60 dX5_forgets_59 rfl ?_
    refine g_max (M := mX5_forgets) (pc := 60) 63 dX5_forgets_60 rfl kX5_54 rfl rfl ?_
    refine g_iconst (M := mX5_forgets) (pc := 63) (v := 2) 64 dX5_forgets_63 rfl ic2 ?_
    refine g_idivC (M := mX5_forgets) (pc := 64) 65 dX5_forgets_64 rfl (by decide) ?_
    refine g_iadd (M := mX5_forgets) (pc := 65) 66 dX5_forgets_65 rfl ?_
    exact g_iret (M := mX5_forgets) (pc := 66) dX5_forgets_66 rfl rfl (fun z => z)
  refine g_tsOut (M := mX5_forgets) (pc := 6) 67 dX5_forgets_6 (by have y1 := lv_neT z1 (a := 1) rfl; have y2 := lv_neT z2 (a := 2) rfl; have y3 := lv_neT z3 (a := 3) rfl; have y4 := lv_neT z4 (a := 4) rfl; have y5 := lv_neT z5 (a := 5) rfl; omega) (by decide) ?_
  refine g_bipush (M := mX5_forgets) (pc := 67) (v := 10) 69 dX5_forgets_67 rfl bp10 ?_
  exact g_iret (M := mX5_forgets) (pc := 69) dX5_forgets_69 rfl rfl (fun z => z)
def SX5_passNight_2 (g : Nat) (a1 : Int32) : (Int32 × HI) → Option ((Int32 × HI) ⊕ (HI))
  | (a2, h) =>
    if (h g 1 6) ≤ a2 then
      some (Sum.inr h)
    else
      Option.bind (FX9_isIn a1 a2) fun r1 =>
      if r1 = 0 then
        gd (ixb a2 12) <|
        Option.bind (FX5_forgets g a2 h) fun r2 =>
        gd (ixb a2 12) <|
        nm (hP1 h g 6 (nC a2) (if 0 < ((h g 6 (nC a2)) - r2) then ((h g 6 (nC a2)) - r2) else 0)) fun h3 =>
        some (Sum.inl ((a2 + 1), h3))
      else
        gd (ixb a2 12) <|
        gd (ixb a2 12) <|
        nm (hP1 h g 6 (nC a2) (if ((h g 6 (nC a2)) + 10) < 100 then ((h g 6 (nC a2)) + 10) else 100)) fun h4 =>
        some (Sum.inl ((a2 + 1), h4))
def FX5_passNight (g : Nat) (a1 : Int32) (h : HI) : Option (HI) :=
  Option.bind (loopN (SX5_passNight_2 g a1) FU (0, h)) fun h5 =>
    some h5
set_option maxRecDepth 100000 in
set_option maxHeartbeats 4000000 in
theorem SX5_passNight_2_ok (g : Nat) (hg : g < 3) (a1 : Int32) (L : HL) (T : ZT) (a2 : Int32) (h : HI) : VX mX5_passNight 2 T (gS (fun s : Int32 × HI => V mX5_passNight 2 T 2 [some (aR g 1), some (aI a1), some (aI (s.1))] [] (s.2) L) (fun s : HI => V mX5_passNight 2 T 69 [none, none, none] [] s L)) 2 [some (aR g 1), some (aI a1), some (aI a2)] [] h L (SX5_passNight_2 g a1 (a2, h)) := by
  unfold SX5_passNight_2
  refine g_iload_n (M := mX5_passNight) (pc := 2) 3 dX5_passNight_2 rfl rfl rfl ?_
  refine g_aload_n (M := mX5_passNight) (pc := 3) 4 dX5_passNight_3 rfl rfl rfl ?_
  refine g_getI (M := mX5_passNight) (pc := 4) 7 dX5_passNight_4 rfl fX5_30 (oF1_6 hg) ?_
  refine g_icmp_ge (M := mX5_passNight) (pc := 7) 69 10 dX5_passNight_7 (by decide) rfl (fun _ => ?_) (fun _ => ?_)
  · exact g_jmp (fun z => v_fgt [false, false, false] z)
  · refine g_iload_n (M := mX5_passNight) (pc := 10) 11 dX5_passNight_10 rfl rfl rfl ?_
    refine g_iload_n (M := mX5_passNight) (pc := 11) 12 dX5_passNight_11 rfl rfl rfl ?_
    refine g_cN_I (M := mX5_passNight) (pc := 12) (M' := mX9_isIn) (rest := []) 15 dX5_passNight_12 rfl nX5_47 okX9_isIn (CX9_isIn a1 a2 h L) rfl rfl rfl rfl (fun r1 => ?_)
    refine g_if_eq (M := mX5_passNight) (pc := 15) 41 18 dX5_passNight_15 (by decide) rfl (fun _ => ?_) (fun _ => ?_)
    · refine g_aload_n (M := mX5_passNight) (pc := 41) 42 dX5_passNight_41 rfl rfl rfl ?_
      refine g_getR (M := mX5_passNight) (pc := 42) 45 dX5_passNight_42 rfl fX5_24 (oR1_4 hg) ?_
      refine g_iload_n (M := mX5_passNight) (pc := 45) 46 dX5_passNight_45 rfl rfl rfl ?_
      refine g_iconst (M := mX5_passNight) (pc := 46) (v := 0) 47 dX5_passNight_46 rfl ic0 ?_
      refine g_aload_n (M := mX5_passNight) (pc := 47) 48 dX5_passNight_47 rfl rfl rfl ?_
      refine g_getR (M := mX5_passNight) (pc := 48) 51 dX5_passNight_48 rfl fX5_24 (oR1_4 hg) ?_
      refine g_iload_n (M := mX5_passNight) (pc := 51) 52 dX5_passNight_51 rfl rfl rfl ?_
      refine g_iald (M := mX5_passNight) (pc := 52) 53 dX5_passNight_52 rfl (oA6 hg) ?_
      refine g_aload_n (M := mX5_passNight) (pc := 53) 54 dX5_passNight_53 rfl rfl rfl ?_
      refine g_iload_n (M := mX5_passNight) (pc := 54) 55 dX5_passNight_54 rfl rfl rfl ?_
      refine g_cV_I (M := mX5_passNight) (pc := 55) (M' := mX5_forgets) (rest := [aI (h g 6 (nC a2)), aI 0, aI a2, aR g 6]) 58 dX5_passNight_55 rfl kX5_63 okX5_forgets (CX5_forgets g hg a2 h L) (oO1 hg) rfl rfl rfl rfl (fun r2 => ?_)
      refine g_isub (M := mX5_passNight) (pc := 58) 59 dX5_passNight_58 rfl ?_
      refine g_max (M := mX5_passNight) (pc := 59) 62 dX5_passNight_59 rfl kX5_54 rfl rfl ?_
      refine g_iast (M := mX5_passNight) (pc := 62) 63 dX5_passNight_62 rfl (oA6 hg) (fun h3 => ?_)
      refine g_iinc (M := mX5_passNight) (pc := 63) (c := 1) (ls' := [some (aR g 1), some (aI a1), some (aI (a2 + 1))]) 66 dX5_passNight_63 rfl ic1 rfl rfl rfl ?_
      refine g_goto (M := mX5_passNight) (pc := 66) 2 dX5_passNight_66 (by decide) ?_
      exact g_jmp (fun z => v_fgt [true, true, true] z)
    · refine g_aload_n (M := mX5_passNight) (pc := 18) 19 dX5_passNight_18 rfl rfl rfl ?_
      refine g_getR (M := mX5_passNight) (pc := 19) 22 dX5_passNight_19 rfl fX5_24 (oR1_4 hg) ?_
      refine g_iload_n (M := mX5_passNight) (pc := 22) 23 dX5_passNight_22 rfl rfl rfl ?_
      refine g_bipush (M := mX5_passNight) (pc := 23) (v := 100) 25 dX5_passNight_23 rfl bp100 ?_
      refine g_aload_n (M := mX5_passNight) (pc := 25) 26 dX5_passNight_25 rfl rfl rfl ?_
      refine g_getR (M := mX5_passNight) (pc := 26) 29 dX5_passNight_26 rfl fX5_24 (oR1_4 hg) ?_
      refine g_iload_n (M := mX5_passNight) (pc := 29) 30 dX5_passNight_29 rfl rfl rfl ?_
      refine g_iald (M := mX5_passNight) (pc := 30) 31 dX5_passNight_30 rfl (oA6 hg) ?_
      refine g_bipush (M := mX5_passNight) (pc := 31) (v := 10) 33 dX5_passNight_31 rfl bp10 ?_
      refine g_iadd (M := mX5_passNight) (pc := 33) 34 dX5_passNight_33 rfl ?_
      refine g_min (M := mX5_passNight) (pc := 34) 37 dX5_passNight_34 rfl kX5_60 rfl rfl ?_
      refine g_iast (M := mX5_passNight) (pc := 37) 38 dX5_passNight_37 rfl (oA6 hg) (fun h4 => ?_)
      refine g_goto (M := mX5_passNight) (pc := 38) 63 dX5_passNight_38 (by decide) ?_
      refine g_iinc (M := mX5_passNight) (pc := 63) (c := 1) (ls' := [some (aR g 1), some (aI a1), some (aI (a2 + 1))]) 66 dX5_passNight_63 rfl ic1 rfl rfl rfl ?_
      refine g_goto (M := mX5_passNight) (pc := 66) 2 dX5_passNight_66 (by decide) ?_
      exact g_jmp (fun z => v_fgt [true, true, true] z)
set_option maxRecDepth 100000 in
set_option maxHeartbeats 4000000 in
theorem CX5_passNight (g : Nat) (hg : g < 3) (a1 : Int32) (h : HI) (L : HL) : CG mX5_passNight 2 [aR g 1, aI a1] h L (lfVH L) (FX5_passNight g a1 h) := by
  unfold FX5_passNight
  refine cg_of [some (aR g 1), some (aI a1), none] rfl (by decide) rfl rfl (fun T => ?_)
  refine g_iconst (M := mX5_passNight) (pc := 0) (v := 0) 1 dX5_passNight_0 rfl ic0 ?_
  refine g_istore_n (M := mX5_passNight) (pc := 1) (ls' := [some (aR g 1), some (aI a1), some (aI 0)]) 2 dX5_passNight_1 rfl rfl rfl rfl ?_
  refine g_loop (fun s => SX5_passNight_2_ok g hg a1 L T s.1 s.2) ?_ (fun z => v_fgt [true, true, true] z)
  intro h5
  show VX mX5_passNight 2 T _ 69 [none, none, none] [] h5 L _
  exact g_vret (M := mX5_passNight) (pc := 69) dX5_passNight_69 rfl (fun z => z)
def JX0_goDays_47 (g : Nat) (a1 : Int32) (a2 : Int32) (s1 : Int32) (h : HI) : Option ((Int32 × HI) ⊕ (HI)) :=
  Option.bind (FX5_passNight g s1 h) fun h2 =>
  nm (hP1 h2 g 0 4 ((h2 g 0 4) + 1)) fun h3 =>
  some (Sum.inl ((a2 + 1), h3))
def JX0_goDays_26 (g : Nat) (a1 : Int32) (a2 : Int32) (s0 : Int32) (h : HI) : Option ((Int32 × HI) ⊕ (HI)) :=
  if s0 = 0 then
    JX0_goDays_47 g a1 a2 0 h
  else
    Option.bind (FX0_knownSet g h) fun r4 =>
    Option.bind (FX0_meetWants g r4 h) fun (r5, h6) =>
    JX0_goDays_47 g a1 a2 r5 h6
def SX0_goDays_2 (g : Nat) (a1 : Int32) : (Int32 × HI) → Option ((Int32 × HI) ⊕ (HI))
  | (a2, h) =>
    if a1 ≤ a2 then
      some (Sum.inr h)
    else
      Option.bind (FX8_howManyOn g (h g 0 4) h) fun r1 =>
      if r1 ≤ 0 then
        JX0_goDays_26 g a1 a2 0 h
      else
        JX0_goDays_26 g a1 a2 1 h
def FX0_goDays (g : Nat) (a1 : Int32) (h : HI) : Option (HI) :=
  Option.bind (loopN (SX0_goDays_2 g a1) FU (0, h)) fun h7 =>
    some h7
set_option maxRecDepth 100000 in
set_option maxHeartbeats 4000000 in
theorem JX0_goDays_47_ok (g : Nat) (hg : g < 3) (a1 : Int32) (a2 : Int32) (s1 : Int32) (T : ZT) (h : HI) (L : HL) : VX mX0_goDays 4 T (gS (fun s : Int32 × HI => V mX0_goDays 4 T 2 [some (aR g 0), some (aI a1), some (aI (s.1)), none] [] (s.2) L) (fun s : HI => V mX0_goDays 4 T 66 [none, none, none, none] [] s L)) 47 [some (aR g 0), some (aI a1), some (aI a2), none] [aI s1, aR g 1] h L (JX0_goDays_47 g a1 a2 s1 h) := by
  unfold JX0_goDays_47
  refine g_cV_VH (M := mX0_goDays) (pc := 47) (M' := mX5_passNight) (rest := []) 50 dX0_goDays_47 rfl kX0_111 okX5_passNight (CX5_passNight g hg s1 h L) (oO1 hg) rfl rfl rfl rfl (fun h2 => ?_)
  refine g_aload_n (M := mX0_goDays) (pc := 50) 51 dX0_goDays_50 rfl rfl rfl ?_
  refine g_dup (M := mX0_goDays) (pc := 51) 52 dX0_goDays_51 rfl rfl ?_
  refine g_getI (M := mX0_goDays) (pc := 52) 55 dX0_goDays_52 rfl fX0_36 (oF0_4 hg) ?_
  refine g_iconst (M := mX0_goDays) (pc := 55) (v := 1) 56 dX0_goDays_55 rfl ic1 ?_
  refine g_iadd (M := mX0_goDays) (pc := 56) 57 dX0_goDays_56 rfl ?_
  refine g_put (M := mX0_goDays) (pc := 57) 60 dX0_goDays_57 rfl pX0_36 (oF0_4 hg) rfl rfl (fun h3 => ?_)
  refine g_iinc (M := mX0_goDays) (pc := 60) (c := 1) (ls' := [some (aR g 0), some (aI a1), some (aI (a2 + 1)), none]) 63 dX0_goDays_60 rfl ic1 rfl rfl rfl ?_
  refine g_goto (M := mX0_goDays) (pc := 63) 2 dX0_goDays_63 (by decide) ?_
  exact g_jmp (fun z => v_fgt [true, true, true, false] z)
set_option maxRecDepth 100000 in
set_option maxHeartbeats 4000000 in
theorem JX0_goDays_26_ok (g : Nat) (hg : g < 3) (a1 : Int32) (a2 : Int32) (s0 : Int32) (T : ZT) (h : HI) (L : HL) : VX mX0_goDays 4 T (gS (fun s : Int32 × HI => V mX0_goDays 4 T 2 [some (aR g 0), some (aI a1), some (aI (s.1)), none] [] (s.2) L) (fun s : HI => V mX0_goDays 4 T 66 [none, none, none, none] [] s L)) 26 [some (aR g 0), some (aI a1), some (aI a2), none] [aI s0] h L (JX0_goDays_26 g a1 a2 s0 h) := by
  unfold JX0_goDays_26
  refine g_istore_n (M := mX0_goDays) (pc := 26) (ls' := [some (aR g 0), some (aI a1), some (aI a2), some (aI s0)]) 27 dX0_goDays_26 rfl rfl rfl rfl ?_
  refine g_aload_n (M := mX0_goDays) (pc := 27) 28 dX0_goDays_27 rfl rfl rfl ?_
  refine g_getR (M := mX0_goDays) (pc := 28) 31 dX0_goDays_28 rfl fX0_12 (oR0_0 hg) ?_
  refine g_iload_n (M := mX0_goDays) (pc := 31) 32 dX0_goDays_31 rfl rfl rfl ?_
  refine g_if_eq (M := mX0_goDays) (pc := 32) 46 35 dX0_goDays_32 (by decide) rfl (fun _ => ?_) (fun _ => ?_)
  · refine g_iconst (M := mX0_goDays) (pc := 46) (v := 0) 47 dX0_goDays_46 rfl ic0 ?_
    exact g_fgt [true, true, true, false] (JX0_goDays_47_ok g hg a1 a2 0 T h L)
  · refine g_aload_n (M := mX0_goDays) (pc := 35) 36 dX0_goDays_35 rfl rfl rfl ?_
    refine g_aload_n (M := mX0_goDays) (pc := 36) 37 dX0_goDays_36 rfl rfl rfl ?_
    refine g_cV_I (M := mX0_goDays) (pc := 37) (M' := mX0_knownSet) (rest := [aR g 0, aR g 1]) 40 dX0_goDays_37 rfl kX0_104 okX0_knownSet (CX0_knownSet g hg h L) (oO0 hg) rfl rfl rfl rfl (fun r4 => ?_)
    refine g_cV_IH (M := mX0_goDays) (pc := 40) (M' := mX0_meetWants) (rest := [aR g 1]) 43 dX0_goDays_40 rfl kX0_108 okX0_meetWants (CX0_meetWants g hg r4 h L) (oO0 hg) rfl rfl rfl rfl (fun r5 h6 => ?_)
    refine g_goto (M := mX0_goDays) (pc := 43) 47 dX0_goDays_43 (by decide) ?_
    exact g_fgt [true, true, true, false] (JX0_goDays_47_ok g hg a1 a2 r5 T h6 L)
set_option maxRecDepth 100000 in
set_option maxHeartbeats 4000000 in
theorem SX0_goDays_2_ok (g : Nat) (hg : g < 3) (a1 : Int32) (L : HL) (T : ZT) (a2 : Int32) (h : HI) : VX mX0_goDays 4 T (gS (fun s : Int32 × HI => V mX0_goDays 4 T 2 [some (aR g 0), some (aI a1), some (aI (s.1)), none] [] (s.2) L) (fun s : HI => V mX0_goDays 4 T 66 [none, none, none, none] [] s L)) 2 [some (aR g 0), some (aI a1), some (aI a2), none] [] h L (SX0_goDays_2 g a1 (a2, h)) := by
  unfold SX0_goDays_2
  refine g_iload_n (M := mX0_goDays) (pc := 2) 3 dX0_goDays_2 rfl rfl rfl ?_
  refine g_iload_n (M := mX0_goDays) (pc := 3) 4 dX0_goDays_3 rfl rfl rfl ?_
  refine g_icmp_ge (M := mX0_goDays) (pc := 4) 66 7 dX0_goDays_4 (by decide) rfl (fun _ => ?_) (fun _ => ?_)
  · exact g_jmp (fun z => v_fgt [false, false, false, false] z)
  · refine g_aload_n (M := mX0_goDays) (pc := 7) 8 dX0_goDays_7 rfl rfl rfl ?_
    refine g_getR (M := mX0_goDays) (pc := 8) 11 dX0_goDays_8 rfl fX0_21 (oR0_1 hg) ?_
    refine g_aload_n (M := mX0_goDays) (pc := 11) 12 dX0_goDays_11 rfl rfl rfl ?_
    refine g_getI (M := mX0_goDays) (pc := 12) 15 dX0_goDays_12 rfl fX0_36 (oF0_4 hg) ?_
    refine g_cV_I (M := mX0_goDays) (pc := 15) (M' := mX8_howManyOn) (rest := []) 18 dX0_goDays_15 rfl kX0_100 okX8_howManyOn (CX8_howManyOn g hg (h g 0 4) h L) (oO8 hg) rfl rfl rfl rfl (fun r1 => ?_)
    refine g_if_le (M := mX0_goDays) (pc := 18) 25 21 dX0_goDays_18 (by decide) rfl (fun _ => ?_) (fun _ => ?_)
    · refine g_iconst (M := mX0_goDays) (pc := 25) (v := 0) 26 dX0_goDays_25 rfl ic0 ?_
      exact g_fgt [true, true, true, false] (JX0_goDays_26_ok g hg a1 a2 0 T h L)
    · refine g_iconst (M := mX0_goDays) (pc := 21) (v := 1) 22 dX0_goDays_21 rfl ic1 ?_
      refine g_goto (M := mX0_goDays) (pc := 22) 26 dX0_goDays_22 (by decide) ?_
      exact g_fgt [true, true, true, false] (JX0_goDays_26_ok g hg a1 a2 1 T h L)
set_option maxRecDepth 100000 in
set_option maxHeartbeats 4000000 in
theorem CX0_goDays (g : Nat) (hg : g < 3) (a1 : Int32) (h : HI) (L : HL) : CG mX0_goDays 4 [aR g 0, aI a1] h L (lfVH L) (FX0_goDays g a1 h) := by
  unfold FX0_goDays
  refine cg_of [some (aR g 0), some (aI a1), none, none] rfl (by decide) rfl rfl (fun T => ?_)
  refine g_iconst (M := mX0_goDays) (pc := 0) (v := 0) 1 dX0_goDays_0 rfl ic0 ?_
  refine g_istore_n (M := mX0_goDays) (pc := 1) (ls' := [some (aR g 0), some (aI a1), some (aI 0), none]) 2 dX0_goDays_1 rfl rfl rfl rfl ?_
  refine g_loop (fun s => SX0_goDays_2_ok g hg a1 L T s.1 s.2) ?_ (fun z => v_fgt [true, true, true, false] z)
  intro h7
  show VX mX0_goDays 4 T _ 66 [none, none, none, none] [] h7 L _
  exact g_vret (M := mX0_goDays) (pc := 66) dX0_goDays_66 rfl (fun z => z)
def FX5_takeFrom (g : Nat) (g1 : Nat) (h : HI) : Option (HI) :=
  nm (hP1 h g 1 6 (h g1 1 6)) fun h1 =>
  nm (hPF h1 g 2 (va_cpy (h1 g1 2) (h1 g 2) 0 0 12)) fun h2 =>
  nm (hPF h2 g 3 (va_cpy (h2 g1 3) (h2 g 3) 0 0 12)) fun h3 =>
  nm (hPF h3 g 4 (va_cpy (h3 g1 4) (h3 g 4) 0 0 12)) fun h4 =>
  nm (hPF h4 g 5 (va_cpy (h4 g1 5) (h4 g 5) 0 0 12)) fun h5 =>
  nm (hPF h5 g 6 (va_cpy (h5 g1 6) (h5 g 6) 0 0 12)) fun h6 =>
  nm (hPF h6 g 7 (va_cpy (h6 g1 7) (h6 g 7) 0 0 12)) fun h7 =>
  some h7
set_option maxRecDepth 100000 in
set_option maxHeartbeats 4000000 in
theorem CX5_takeFrom (g : Nat) (g1 : Nat) (hg : g < 3) (hg1 : g1 < 3) (h : HI) (L : HL) : CG mX5_takeFrom 1 [aR g 1, aR g1 1] h L (lfVH L) (FX5_takeFrom g g1 h) := by
  unfold FX5_takeFrom
  refine cg_of [some (aR g 1), some (aR g1 1)] rfl (by decide) rfl rfl (fun T => ?_)
  refine g_aload_n (M := mX5_takeFrom) (pc := 0) 1 dX5_takeFrom_0 rfl rfl rfl ?_
  refine g_aload_n (M := mX5_takeFrom) (pc := 1) 2 dX5_takeFrom_1 rfl rfl rfl ?_
  refine g_getI (M := mX5_takeFrom) (pc := 2) 5 dX5_takeFrom_2 rfl fX5_30 (oF1_6 hg1) ?_
  refine g_put (M := mX5_takeFrom) (pc := 5) 8 dX5_takeFrom_5 rfl pX5_30 (oF1_6 hg) rfl rfl (fun h1 => ?_)
  refine g_aload_n (M := mX5_takeFrom) (pc := 8) 9 dX5_takeFrom_8 rfl rfl rfl ?_
  refine g_getR (M := mX5_takeFrom) (pc := 9) 12 dX5_takeFrom_9 rfl fX5_9 (oR1_0 hg1) ?_
  refine g_iconst (M := mX5_takeFrom) (pc := 12) (v := 0) 13 dX5_takeFrom_12 rfl ic0 ?_
  refine g_aload_n (M := mX5_takeFrom) (pc := 13) 14 dX5_takeFrom_13 rfl rfl rfl ?_
  refine g_getR (M := mX5_takeFrom) (pc := 14) 17 dX5_takeFrom_14 rfl fX5_9 (oR1_0 hg) ?_
  refine g_iconst (M := mX5_takeFrom) (pc := 17) (v := 0) 18 dX5_takeFrom_17 rfl ic0 ?_
  refine g_bipush (M := mX5_takeFrom) (pc := 18) (v := 12) 20 dX5_takeFrom_18 rfl bp12 ?_
  refine g_acpy (M := mX5_takeFrom) (pc := 20) (sp := 0) (dp := 0) (m := 12) 23 dX5_takeFrom_20 rfl kX5_67 (oA2 hg1) (oA2 hg) rfl rfl rfl rfl rfl rfl rfl (fun h2 => ?_)
  refine g_aload_n (M := mX5_takeFrom) (pc := 23) 24 dX5_takeFrom_23 rfl rfl rfl ?_
  refine g_getR (M := mX5_takeFrom) (pc := 24) 27 dX5_takeFrom_24 rfl fX5_15 (oR1_1 hg1) ?_
  refine g_iconst (M := mX5_takeFrom) (pc := 27) (v := 0) 28 dX5_takeFrom_27 rfl ic0 ?_
  refine g_aload_n (M := mX5_takeFrom) (pc := 28) 29 dX5_takeFrom_28 rfl rfl rfl ?_
  refine g_getR (M := mX5_takeFrom) (pc := 29) 32 dX5_takeFrom_29 rfl fX5_15 (oR1_1 hg) ?_
  refine g_iconst (M := mX5_takeFrom) (pc := 32) (v := 0) 33 dX5_takeFrom_32 rfl ic0 ?_
  refine g_bipush (M := mX5_takeFrom) (pc := 33) (v := 12) 35 dX5_takeFrom_33 rfl bp12 ?_
  refine g_acpy (M := mX5_takeFrom) (pc := 35) (sp := 0) (dp := 0) (m := 12) 38 dX5_takeFrom_35 rfl kX5_67 (oA3 hg1) (oA3 hg) rfl rfl rfl rfl rfl rfl rfl (fun h3 => ?_)
  refine g_aload_n (M := mX5_takeFrom) (pc := 38) 39 dX5_takeFrom_38 rfl rfl rfl ?_
  refine g_getR (M := mX5_takeFrom) (pc := 39) 42 dX5_takeFrom_39 rfl fX5_18 (oR1_2 hg1) ?_
  refine g_iconst (M := mX5_takeFrom) (pc := 42) (v := 0) 43 dX5_takeFrom_42 rfl ic0 ?_
  refine g_aload_n (M := mX5_takeFrom) (pc := 43) 44 dX5_takeFrom_43 rfl rfl rfl ?_
  refine g_getR (M := mX5_takeFrom) (pc := 44) 47 dX5_takeFrom_44 rfl fX5_18 (oR1_2 hg) ?_
  refine g_iconst (M := mX5_takeFrom) (pc := 47) (v := 0) 48 dX5_takeFrom_47 rfl ic0 ?_
  refine g_bipush (M := mX5_takeFrom) (pc := 48) (v := 12) 50 dX5_takeFrom_48 rfl bp12 ?_
  refine g_acpy (M := mX5_takeFrom) (pc := 50) (sp := 0) (dp := 0) (m := 12) 53 dX5_takeFrom_50 rfl kX5_67 (oA4 hg1) (oA4 hg) rfl rfl rfl rfl rfl rfl rfl (fun h4 => ?_)
  refine g_aload_n (M := mX5_takeFrom) (pc := 53) 54 dX5_takeFrom_53 rfl rfl rfl ?_
  refine g_getR (M := mX5_takeFrom) (pc := 54) 57 dX5_takeFrom_54 rfl fX5_21 (oR1_3 hg1) ?_
  refine g_iconst (M := mX5_takeFrom) (pc := 57) (v := 0) 58 dX5_takeFrom_57 rfl ic0 ?_
  refine g_aload_n (M := mX5_takeFrom) (pc := 58) 59 dX5_takeFrom_58 rfl rfl rfl ?_
  refine g_getR (M := mX5_takeFrom) (pc := 59) 62 dX5_takeFrom_59 rfl fX5_21 (oR1_3 hg) ?_
  refine g_iconst (M := mX5_takeFrom) (pc := 62) (v := 0) 63 dX5_takeFrom_62 rfl ic0 ?_
  refine g_bipush (M := mX5_takeFrom) (pc := 63) (v := 12) 65 dX5_takeFrom_63 rfl bp12 ?_
  refine g_acpy (M := mX5_takeFrom) (pc := 65) (sp := 0) (dp := 0) (m := 12) 68 dX5_takeFrom_65 rfl kX5_67 (oA5 hg1) (oA5 hg) rfl rfl rfl rfl rfl rfl rfl (fun h5 => ?_)
  refine g_aload_n (M := mX5_takeFrom) (pc := 68) 69 dX5_takeFrom_68 rfl rfl rfl ?_
  refine g_getR (M := mX5_takeFrom) (pc := 69) 72 dX5_takeFrom_69 rfl fX5_24 (oR1_4 hg1) ?_
  refine g_iconst (M := mX5_takeFrom) (pc := 72) (v := 0) 73 dX5_takeFrom_72 rfl ic0 ?_
  refine g_aload_n (M := mX5_takeFrom) (pc := 73) 74 dX5_takeFrom_73 rfl rfl rfl ?_
  refine g_getR (M := mX5_takeFrom) (pc := 74) 77 dX5_takeFrom_74 rfl fX5_24 (oR1_4 hg) ?_
  refine g_iconst (M := mX5_takeFrom) (pc := 77) (v := 0) 78 dX5_takeFrom_77 rfl ic0 ?_
  refine g_bipush (M := mX5_takeFrom) (pc := 78) (v := 12) 80 dX5_takeFrom_78 rfl bp12 ?_
  refine g_acpy (M := mX5_takeFrom) (pc := 80) (sp := 0) (dp := 0) (m := 12) 83 dX5_takeFrom_80 rfl kX5_67 (oA6 hg1) (oA6 hg) rfl rfl rfl rfl rfl rfl rfl (fun h6 => ?_)
  refine g_aload_n (M := mX5_takeFrom) (pc := 83) 84 dX5_takeFrom_83 rfl rfl rfl ?_
  refine g_getR (M := mX5_takeFrom) (pc := 84) 87 dX5_takeFrom_84 rfl fX5_27 (oR1_5 hg1) ?_
  refine g_iconst (M := mX5_takeFrom) (pc := 87) (v := 0) 88 dX5_takeFrom_87 rfl ic0 ?_
  refine g_aload_n (M := mX5_takeFrom) (pc := 88) 89 dX5_takeFrom_88 rfl rfl rfl ?_
  refine g_getR (M := mX5_takeFrom) (pc := 89) 92 dX5_takeFrom_89 rfl fX5_27 (oR1_5 hg) ?_
  refine g_iconst (M := mX5_takeFrom) (pc := 92) (v := 0) 93 dX5_takeFrom_92 rfl ic0 ?_
  refine g_bipush (M := mX5_takeFrom) (pc := 93) (v := 12) 95 dX5_takeFrom_93 rfl bp12 ?_
  refine g_acpy (M := mX5_takeFrom) (pc := 95) (sp := 0) (dp := 0) (m := 12) 98 dX5_takeFrom_95 rfl kX5_67 (oA7 hg1) (oA7 hg) rfl rfl rfl rfl rfl rfl rfl (fun h7 => ?_)
  exact g_vret (M := mX5_takeFrom) (pc := 98) dX5_takeFrom_98 rfl (fun z => z)
def FX8_takeFrom (g : Nat) (g1 : Nat) (h : HI) : Option (HI) :=
  nm (hP1 h g 8 5 (h g1 8 5)) fun h1 =>
  nm (hPF h1 g 9 (va_cpy (h1 g1 9) (h1 g 9) 0 0 12)) fun h2 =>
  nm (hPF h2 g 10 (va_cpy (h2 g1 10) (h2 g 10) 0 0 12)) fun h3 =>
  nm (hPF h3 g 11 (va_cpy (h3 g1 11) (h3 g 11) 0 0 12)) fun h4 =>
  nm (hPF h4 g 12 (va_cpy (h4 g1 12) (h4 g 12) 0 0 12)) fun h5 =>
  nm (hPF h5 g 13 (va_cpy (h5 g1 13) (h5 g 13) 0 0 12)) fun h6 =>
  some h6
set_option maxRecDepth 100000 in
set_option maxHeartbeats 4000000 in
theorem CX8_takeFrom (g : Nat) (g1 : Nat) (hg : g < 3) (hg1 : g1 < 3) (h : HI) (L : HL) : CG mX8_takeFrom 1 [aR g 8, aR g1 8] h L (lfVH L) (FX8_takeFrom g g1 h) := by
  unfold FX8_takeFrom
  refine cg_of [some (aR g 8), some (aR g1 8)] rfl (by decide) rfl rfl (fun T => ?_)
  refine g_aload_n (M := mX8_takeFrom) (pc := 0) 1 dX8_takeFrom_0 rfl rfl rfl ?_
  refine g_aload_n (M := mX8_takeFrom) (pc := 1) 2 dX8_takeFrom_1 rfl rfl rfl ?_
  refine g_getI (M := mX8_takeFrom) (pc := 2) 5 dX8_takeFrom_2 rfl fX8_27 (oF8_5 hg1) ?_
  refine g_put (M := mX8_takeFrom) (pc := 5) 8 dX8_takeFrom_5 rfl pX8_27 (oF8_5 hg) rfl rfl (fun h1 => ?_)
  refine g_aload_n (M := mX8_takeFrom) (pc := 8) 9 dX8_takeFrom_8 rfl rfl rfl ?_
  refine g_getR (M := mX8_takeFrom) (pc := 9) 12 dX8_takeFrom_9 rfl fX8_9 (oR8_0 hg1) ?_
  refine g_iconst (M := mX8_takeFrom) (pc := 12) (v := 0) 13 dX8_takeFrom_12 rfl ic0 ?_
  refine g_aload_n (M := mX8_takeFrom) (pc := 13) 14 dX8_takeFrom_13 rfl rfl rfl ?_
  refine g_getR (M := mX8_takeFrom) (pc := 14) 17 dX8_takeFrom_14 rfl fX8_9 (oR8_0 hg) ?_
  refine g_iconst (M := mX8_takeFrom) (pc := 17) (v := 0) 18 dX8_takeFrom_17 rfl ic0 ?_
  refine g_bipush (M := mX8_takeFrom) (pc := 18) (v := 12) 20 dX8_takeFrom_18 rfl bp12 ?_
  refine g_acpy (M := mX8_takeFrom) (pc := 20) (sp := 0) (dp := 0) (m := 12) 23 dX8_takeFrom_20 rfl kX8_38 (oA9 hg1) (oA9 hg) rfl rfl rfl rfl rfl rfl rfl (fun h2 => ?_)
  refine g_aload_n (M := mX8_takeFrom) (pc := 23) 24 dX8_takeFrom_23 rfl rfl rfl ?_
  refine g_getR (M := mX8_takeFrom) (pc := 24) 27 dX8_takeFrom_24 rfl fX8_15 (oR8_1 hg1) ?_
  refine g_iconst (M := mX8_takeFrom) (pc := 27) (v := 0) 28 dX8_takeFrom_27 rfl ic0 ?_
  refine g_aload_n (M := mX8_takeFrom) (pc := 28) 29 dX8_takeFrom_28 rfl rfl rfl ?_
  refine g_getR (M := mX8_takeFrom) (pc := 29) 32 dX8_takeFrom_29 rfl fX8_15 (oR8_1 hg) ?_
  refine g_iconst (M := mX8_takeFrom) (pc := 32) (v := 0) 33 dX8_takeFrom_32 rfl ic0 ?_
  refine g_bipush (M := mX8_takeFrom) (pc := 33) (v := 12) 35 dX8_takeFrom_33 rfl bp12 ?_
  refine g_acpy (M := mX8_takeFrom) (pc := 35) (sp := 0) (dp := 0) (m := 12) 38 dX8_takeFrom_35 rfl kX8_38 (oA10 hg1) (oA10 hg) rfl rfl rfl rfl rfl rfl rfl (fun h3 => ?_)
  refine g_aload_n (M := mX8_takeFrom) (pc := 38) 39 dX8_takeFrom_38 rfl rfl rfl ?_
  refine g_getR (M := mX8_takeFrom) (pc := 39) 42 dX8_takeFrom_39 rfl fX8_18 (oR8_2 hg1) ?_
  refine g_iconst (M := mX8_takeFrom) (pc := 42) (v := 0) 43 dX8_takeFrom_42 rfl ic0 ?_
  refine g_aload_n (M := mX8_takeFrom) (pc := 43) 44 dX8_takeFrom_43 rfl rfl rfl ?_
  refine g_getR (M := mX8_takeFrom) (pc := 44) 47 dX8_takeFrom_44 rfl fX8_18 (oR8_2 hg) ?_
  refine g_iconst (M := mX8_takeFrom) (pc := 47) (v := 0) 48 dX8_takeFrom_47 rfl ic0 ?_
  refine g_bipush (M := mX8_takeFrom) (pc := 48) (v := 12) 50 dX8_takeFrom_48 rfl bp12 ?_
  refine g_acpy (M := mX8_takeFrom) (pc := 50) (sp := 0) (dp := 0) (m := 12) 53 dX8_takeFrom_50 rfl kX8_38 (oA11 hg1) (oA11 hg) rfl rfl rfl rfl rfl rfl rfl (fun h4 => ?_)
  refine g_aload_n (M := mX8_takeFrom) (pc := 53) 54 dX8_takeFrom_53 rfl rfl rfl ?_
  refine g_getR (M := mX8_takeFrom) (pc := 54) 57 dX8_takeFrom_54 rfl fX8_21 (oR8_3 hg1) ?_
  refine g_iconst (M := mX8_takeFrom) (pc := 57) (v := 0) 58 dX8_takeFrom_57 rfl ic0 ?_
  refine g_aload_n (M := mX8_takeFrom) (pc := 58) 59 dX8_takeFrom_58 rfl rfl rfl ?_
  refine g_getR (M := mX8_takeFrom) (pc := 59) 62 dX8_takeFrom_59 rfl fX8_21 (oR8_3 hg) ?_
  refine g_iconst (M := mX8_takeFrom) (pc := 62) (v := 0) 63 dX8_takeFrom_62 rfl ic0 ?_
  refine g_bipush (M := mX8_takeFrom) (pc := 63) (v := 12) 65 dX8_takeFrom_63 rfl bp12 ?_
  refine g_acpy (M := mX8_takeFrom) (pc := 65) (sp := 0) (dp := 0) (m := 12) 68 dX8_takeFrom_65 rfl kX8_38 (oA12 hg1) (oA12 hg) rfl rfl rfl rfl rfl rfl rfl (fun h5 => ?_)
  refine g_aload_n (M := mX8_takeFrom) (pc := 68) 69 dX8_takeFrom_68 rfl rfl rfl ?_
  refine g_getR (M := mX8_takeFrom) (pc := 69) 72 dX8_takeFrom_69 rfl fX8_24 (oR8_4 hg1) ?_
  refine g_iconst (M := mX8_takeFrom) (pc := 72) (v := 0) 73 dX8_takeFrom_72 rfl ic0 ?_
  refine g_aload_n (M := mX8_takeFrom) (pc := 73) 74 dX8_takeFrom_73 rfl rfl rfl ?_
  refine g_getR (M := mX8_takeFrom) (pc := 74) 77 dX8_takeFrom_74 rfl fX8_24 (oR8_4 hg) ?_
  refine g_iconst (M := mX8_takeFrom) (pc := 77) (v := 0) 78 dX8_takeFrom_77 rfl ic0 ?_
  refine g_bipush (M := mX8_takeFrom) (pc := 78) (v := 12) 80 dX8_takeFrom_78 rfl bp12 ?_
  refine g_acpy (M := mX8_takeFrom) (pc := 80) (sp := 0) (dp := 0) (m := 12) 83 dX8_takeFrom_80 rfl kX8_38 (oA13 hg1) (oA13 hg) rfl rfl rfl rfl rfl rfl rfl (fun h6 => ?_)
  exact g_vret (M := mX8_takeFrom) (pc := 83) dX8_takeFrom_83 rfl (fun z => z)
def FX3_takeFrom (g : Nat) (g1 : Nat) (h : HI) : Option (HI) :=
  nm (hP1 h g 14 1 (h g1 14 1)) fun h1 =>
  nm (hPF h1 g 15 (va_cpy (h1 g1 15) (h1 g 15) 0 0 12)) fun h2 =>
  some h2
set_option maxRecDepth 100000 in
set_option maxHeartbeats 4000000 in
theorem CX3_takeFrom (g : Nat) (g1 : Nat) (hg : g < 3) (hg1 : g1 < 3) (h : HI) (L : HL) : CG mX3_takeFrom 1 [aR g 14, aR g1 14] h L (lfVH L) (FX3_takeFrom g g1 h) := by
  unfold FX3_takeFrom
  refine cg_of [some (aR g 14), some (aR g1 14)] rfl (by decide) rfl rfl (fun T => ?_)
  refine g_aload_n (M := mX3_takeFrom) (pc := 0) 1 dX3_takeFrom_0 rfl rfl rfl ?_
  refine g_aload_n (M := mX3_takeFrom) (pc := 1) 2 dX3_takeFrom_1 rfl rfl rfl ?_
  refine g_getI (M := mX3_takeFrom) (pc := 2) 5 dX3_takeFrom_2 rfl fX3_15 (oF14_1 hg1) ?_
  refine g_put (M := mX3_takeFrom) (pc := 5) 8 dX3_takeFrom_5 rfl pX3_15 (oF14_1 hg) rfl rfl (fun h1 => ?_)
  refine g_aload_n (M := mX3_takeFrom) (pc := 8) 9 dX3_takeFrom_8 rfl rfl rfl ?_
  refine g_getR (M := mX3_takeFrom) (pc := 9) 12 dX3_takeFrom_9 rfl fX3_9 (oR14_0 hg1) ?_
  refine g_iconst (M := mX3_takeFrom) (pc := 12) (v := 0) 13 dX3_takeFrom_12 rfl ic0 ?_
  refine g_aload_n (M := mX3_takeFrom) (pc := 13) 14 dX3_takeFrom_13 rfl rfl rfl ?_
  refine g_getR (M := mX3_takeFrom) (pc := 14) 17 dX3_takeFrom_14 rfl fX3_9 (oR14_0 hg) ?_
  refine g_iconst (M := mX3_takeFrom) (pc := 17) (v := 0) 18 dX3_takeFrom_17 rfl ic0 ?_
  refine g_bipush (M := mX3_takeFrom) (pc := 18) (v := 12) 20 dX3_takeFrom_18 rfl bp12 ?_
  refine g_acpy (M := mX3_takeFrom) (pc := 20) (sp := 0) (dp := 0) (m := 12) 23 dX3_takeFrom_20 rfl kX3_50 (oA15 hg1) (oA15 hg) rfl rfl rfl rfl rfl rfl rfl (fun h2 => ?_)
  exact g_vret (M := mX3_takeFrom) (pc := 23) dX3_takeFrom_23 rfl (fun z => z)
def FX0_takeFrom (g : Nat) (g1 : Nat) (h : HI) : Option (HI) :=
  Option.bind (FX5_takeFrom g g1 h) fun h1 =>
  Option.bind (FX8_takeFrom g g1 h1) fun h2 =>
  Option.bind (FX3_takeFrom g g1 h2) fun h3 =>
  nm (hP1 h3 g 0 3 (h3 g1 0 3)) fun h4 =>
  nm (hP1 h4 g 0 4 (h4 g1 0 4)) fun h5 =>
  nm (hP1 h5 g 0 5 (h5 g1 0 5)) fun h6 =>
  some h6
set_option maxRecDepth 100000 in
set_option maxHeartbeats 4000000 in
theorem CX0_takeFrom (g : Nat) (g1 : Nat) (hg : g < 3) (hg1 : g1 < 3) (h : HI) (L : HL) : CG mX0_takeFrom 2 [aR g 0, aR g1 0] h L (lfVH L) (FX0_takeFrom g g1 h) := by
  unfold FX0_takeFrom
  refine cg_of [some (aR g 0), some (aR g1 0)] rfl (by decide) rfl rfl (fun T => ?_)
  refine g_aload_n (M := mX0_takeFrom) (pc := 0) 1 dX0_takeFrom_0 rfl rfl rfl ?_
  refine g_getR (M := mX0_takeFrom) (pc := 1) 4 dX0_takeFrom_1 rfl fX0_12 (oR0_0 hg) ?_
  refine g_aload_n (M := mX0_takeFrom) (pc := 4) 5 dX0_takeFrom_4 rfl rfl rfl ?_
  refine g_getR (M := mX0_takeFrom) (pc := 5) 8 dX0_takeFrom_5 rfl fX0_12 (oR0_0 hg1) ?_
  refine g_cV_VH (M := mX0_takeFrom) (pc := 8) (M' := mX5_takeFrom) (rest := []) 11 dX0_takeFrom_8 rfl kX0_131 okX5_takeFrom (CX5_takeFrom g g1 hg hg1 h L) (oO1 hg) rfl rfl rfl rfl (fun h1 => ?_)
  refine g_aload_n (M := mX0_takeFrom) (pc := 11) 12 dX0_takeFrom_11 rfl rfl rfl ?_
  refine g_getR (M := mX0_takeFrom) (pc := 12) 15 dX0_takeFrom_12 rfl fX0_21 (oR0_1 hg) ?_
  refine g_aload_n (M := mX0_takeFrom) (pc := 15) 16 dX0_takeFrom_15 rfl rfl rfl ?_
  refine g_getR (M := mX0_takeFrom) (pc := 16) 19 dX0_takeFrom_16 rfl fX0_21 (oR0_1 hg1) ?_
  refine g_cV_VH (M := mX0_takeFrom) (pc := 19) (M' := mX8_takeFrom) (rest := []) 22 dX0_takeFrom_19 rfl kX0_135 okX8_takeFrom (CX8_takeFrom g g1 hg hg1 h1 L) (oO8 hg) rfl rfl rfl rfl (fun h2 => ?_)
  refine g_aload_n (M := mX0_takeFrom) (pc := 22) 23 dX0_takeFrom_22 rfl rfl rfl ?_
  refine g_getR (M := mX0_takeFrom) (pc := 23) 26 dX0_takeFrom_23 rfl fX0_28 (oR0_2 hg) ?_
  refine g_aload_n (M := mX0_takeFrom) (pc := 26) 27 dX0_takeFrom_26 rfl rfl rfl ?_
  refine g_getR (M := mX0_takeFrom) (pc := 27) 30 dX0_takeFrom_27 rfl fX0_28 (oR0_2 hg1) ?_
  refine g_cV_VH (M := mX0_takeFrom) (pc := 30) (M' := mX3_takeFrom) (rest := []) 33 dX0_takeFrom_30 rfl kX0_138 okX3_takeFrom (CX3_takeFrom g g1 hg hg1 h2 L) (oO14 hg) rfl rfl rfl rfl (fun h3 => ?_)
  refine g_aload_n (M := mX0_takeFrom) (pc := 33) 34 dX0_takeFrom_33 rfl rfl rfl ?_
  refine g_aload_n (M := mX0_takeFrom) (pc := 34) 35 dX0_takeFrom_34 rfl rfl rfl ?_
  refine g_getI (M := mX0_takeFrom) (pc := 35) 38 dX0_takeFrom_35 rfl fX0_32 (oF0_3 hg1) ?_
  refine g_put (M := mX0_takeFrom) (pc := 38) 41 dX0_takeFrom_38 rfl pX0_32 (oF0_3 hg) rfl rfl (fun h4 => ?_)
  refine g_aload_n (M := mX0_takeFrom) (pc := 41) 42 dX0_takeFrom_41 rfl rfl rfl ?_
  refine g_aload_n (M := mX0_takeFrom) (pc := 42) 43 dX0_takeFrom_42 rfl rfl rfl ?_
  refine g_getI (M := mX0_takeFrom) (pc := 43) 46 dX0_takeFrom_43 rfl fX0_36 (oF0_4 hg1) ?_
  refine g_put (M := mX0_takeFrom) (pc := 46) 49 dX0_takeFrom_46 rfl pX0_36 (oF0_4 hg) rfl rfl (fun h5 => ?_)
  refine g_aload_n (M := mX0_takeFrom) (pc := 49) 50 dX0_takeFrom_49 rfl rfl rfl ?_
  refine g_aload_n (M := mX0_takeFrom) (pc := 50) 51 dX0_takeFrom_50 rfl rfl rfl ?_
  refine g_getI (M := mX0_takeFrom) (pc := 51) 54 dX0_takeFrom_51 rfl fX0_39 (oF0_5 hg1) ?_
  refine g_put (M := mX0_takeFrom) (pc := 54) 57 dX0_takeFrom_54 rfl pX0_39 (oF0_5 hg) rfl rfl (fun h6 => ?_)
  exact g_vret (M := mX0_takeFrom) (pc := 57) dX0_takeFrom_57 rfl (fun z => z)
def JX1_lookAt_81 (g1 : Nat) (a2 : Int32) (s1 : Int32) (s2 : Int32) (h : HI) : Option ((Int32 × HI) ⊕ (HI)) :=
  nm (hP1 h 4 18 5 (s1 ||| s2)) fun h7 =>
  Option.bind (FX5_isUnder g1 a2 4 h7) fun r8 =>
  if r8 = 0 then
    nm (hP1 h7 4 18 6 ((h7 4 18 6) ||| 0)) fun h9 =>
    some (Sum.inl ((a2 + 1), h9))
  else
    nm (hP1 h7 4 18 6 ((h7 4 18 6) ||| (1 <<< (a2 &&& 31)))) fun h10 =>
    some (Sum.inl ((a2 + 1), h10))
def SX1_lookAt_34 (g1 : Nat) : (Int32 × HI) → Option ((Int32 × HI) ⊕ (HI))
  | (a2, h) =>
    if (h 4 18 7) ≤ a2 then
      some (Sum.inr h)
    else
      gd (ixb a2 12) <|
      gd (ixb a2 12) <|
      nm (hP1 h 4 22 (nC a2) (h g1 4 (nC a2))) fun h5 =>
      Option.bind (FX5_isUnder g1 a2 2 h5) fun r6 =>
      if r6 = 0 then
        JX1_lookAt_81 g1 a2 (h5 4 18 5) 0 h5
      else
        JX1_lookAt_81 g1 a2 (h5 4 18 5) (1 <<< (a2 &&& 31)) h5
def SX1_lookAt_146 (g1 : Nat) (a2 : Int32) : (Int32 × HI) → Option ((Int32 × HI) ⊕ (HI))
  | (a3, h) =>
    if (h 4 18 7) ≤ a3 then
      some (Sum.inr h)
    else
      Option.bind (FX0_gainOf g1 a3 a2 0 h) fun r13 =>
      gd (ixb ((a2 * 12) + a3) 144) <|
      nm (hP1 h 4 19 (nC ((a2 * 12) + a3)) r13) fun h14 =>
      Option.bind (FX0_gainOf g1 a3 a2 1 h14) fun r15 =>
      gd (ixb ((a2 * 12) + a3) 144) <|
      nm (hP1 h14 4 20 (nC ((a2 * 12) + a3)) r15) fun h16 =>
      some (Sum.inl ((a3 + 1), h16))
def SX1_lookAt_121 (g1 : Nat) : (Int32 × HI) → Option ((Int32 × HI) ⊕ (HI))
  | (a2, h) =>
    if (h 4 18 8) ≤ a2 then
      some (Sum.inr h)
    else
      gd (ixb a2 12) <|
      gd (ixb a2 12) <|
      nm (hP1 h 4 21 (nC a2) (h g1 10 (nC a2))) fun h12 =>
      Option.bind (loopN (SX1_lookAt_146 g1 a2) FU (0, h12)) fun h17 =>
        some (Sum.inl ((a2 + 1), h17))
def FX1_lookAt (g1 : Nat) (h : HI) : Option (HI) :=
  nm (hP1 h 4 18 7 (h g1 1 6)) fun h1 =>
  nm (hP1 h1 4 18 8 (h1 g1 8 5)) fun h2 =>
  nm (hP1 h2 4 18 5 0) fun h3 =>
  nm (hP1 h3 4 18 6 0) fun h4 =>
  Option.bind (loopN (SX1_lookAt_34 g1) FU (0, h4)) fun h11 =>
    Option.bind (loopN (SX1_lookAt_121 g1) FU (0, h11)) fun h18 =>
      some h18
set_option maxRecDepth 100000 in
set_option maxHeartbeats 4000000 in
theorem JX1_lookAt_81_ok (g1 : Nat) (hg1 : g1 < 3) (a2 : Int32) (s1 : Int32) (s2 : Int32) (T : ZT) (h : HI) (L : HL) : VX mX1_lookAt 1 T (gS (fun s : Int32 × HI => V mX1_lookAt 1 T 34 [some (aR 4 18), some (aR g1 0), some (aI (s.1)), none] [] (s.2) L) (fun s : HI => V mX1_lookAt 1 T 119 [some (aR 4 18), some (aR g1 0), none, none] [] s L)) 81 [some (aR 4 18), some (aR g1 0), some (aI a2), none] [aI s2, aI s1, aR 4 18] h L (JX1_lookAt_81 g1 a2 s1 s2 h) := by
  unfold JX1_lookAt_81
  refine g_ior (M := mX1_lookAt) (pc := 81) 82 dX1_lookAt_81 rfl ?_
  refine g_put (M := mX1_lookAt) (pc := 82) 85 dX1_lookAt_82 rfl pX1_27 oF18_5 rfl rfl (fun h7 => ?_)
  refine g_aload_n (M := mX1_lookAt) (pc := 85) 86 dX1_lookAt_85 rfl rfl rfl ?_
  refine g_dup (M := mX1_lookAt) (pc := 86) 87 dX1_lookAt_86 rfl rfl ?_
  refine g_getI (M := mX1_lookAt) (pc := 87) 90 dX1_lookAt_87 rfl fX1_31 oF18_6 ?_
  refine g_aload_n (M := mX1_lookAt) (pc := 90) 91 dX1_lookAt_90 rfl rfl rfl ?_
  refine g_getR (M := mX1_lookAt) (pc := 91) 94 dX1_lookAt_91 rfl fX1_40 (oR0_0 hg1) ?_
  refine g_iload_n (M := mX1_lookAt) (pc := 94) 95 dX1_lookAt_94 rfl rfl rfl ?_
  refine g_iconst (M := mX1_lookAt) (pc := 95) (v := 4) 96 dX1_lookAt_95 rfl ic4 ?_
  refine g_cV_I (M := mX1_lookAt) (pc := 96) (M' := mX5_isUnder) (rest := [aI (h7 4 18 6), aR 4 18]) 99 dX1_lookAt_96 rfl kX1_57 okX5_isUnder (CX5_isUnder g1 hg1 a2 4 h7 L) (oO1 hg1) rfl rfl rfl rfl (fun r8 => ?_)
  refine g_if_eq (M := mX1_lookAt) (pc := 99) 108 102 dX1_lookAt_99 (by decide) rfl (fun _ => ?_) (fun _ => ?_)
  · refine g_iconst (M := mX1_lookAt) (pc := 108) (v := 0) 109 dX1_lookAt_108 rfl ic0 ?_
    refine g_ior (M := mX1_lookAt) (pc := 109) 110 dX1_lookAt_109 rfl ?_
    refine g_put (M := mX1_lookAt) (pc := 110) 113 dX1_lookAt_110 rfl pX1_31 oF18_6 rfl rfl (fun h9 => ?_)
    refine g_iinc (M := mX1_lookAt) (pc := 113) (c := 1) (ls' := [some (aR 4 18), some (aR g1 0), some (aI (a2 + 1)), none]) 116 dX1_lookAt_113 rfl ic1 rfl rfl rfl ?_
    refine g_goto (M := mX1_lookAt) (pc := 116) 34 dX1_lookAt_116 (by decide) ?_
    exact g_jmp (fun z => v_fgt [true, true, true, false] z)
  · refine g_iconst (M := mX1_lookAt) (pc := 102) (v := 1) 103 dX1_lookAt_102 rfl ic1 ?_
    refine g_iload_n (M := mX1_lookAt) (pc := 103) 104 dX1_lookAt_103 rfl rfl rfl ?_
    refine g_ishl (M := mX1_lookAt) (pc := 104) 105 dX1_lookAt_104 rfl ?_
    refine g_goto (M := mX1_lookAt) (pc := 105) 109 dX1_lookAt_105 (by decide) ?_
    refine g_ior (M := mX1_lookAt) (pc := 109) 110 dX1_lookAt_109 rfl ?_
    refine g_put (M := mX1_lookAt) (pc := 110) 113 dX1_lookAt_110 rfl pX1_31 oF18_6 rfl rfl (fun h10 => ?_)
    refine g_iinc (M := mX1_lookAt) (pc := 113) (c := 1) (ls' := [some (aR 4 18), some (aR g1 0), some (aI (a2 + 1)), none]) 116 dX1_lookAt_113 rfl ic1 rfl rfl rfl ?_
    refine g_goto (M := mX1_lookAt) (pc := 116) 34 dX1_lookAt_116 (by decide) ?_
    exact g_jmp (fun z => v_fgt [true, true, true, false] z)
set_option maxRecDepth 100000 in
set_option maxHeartbeats 4000000 in
theorem SX1_lookAt_34_ok (g1 : Nat) (hg1 : g1 < 3) (L : HL) (T : ZT) (a2 : Int32) (h : HI) : VX mX1_lookAt 1 T (gS (fun s : Int32 × HI => V mX1_lookAt 1 T 34 [some (aR 4 18), some (aR g1 0), some (aI (s.1)), none] [] (s.2) L) (fun s : HI => V mX1_lookAt 1 T 119 [some (aR 4 18), some (aR g1 0), none, none] [] s L)) 34 [some (aR 4 18), some (aR g1 0), some (aI a2), none] [] h L (SX1_lookAt_34 g1 (a2, h)) := by
  unfold SX1_lookAt_34
  refine g_iload_n (M := mX1_lookAt) (pc := 34) 35 dX1_lookAt_34 rfl rfl rfl ?_
  refine g_aload_n (M := mX1_lookAt) (pc := 35) 36 dX1_lookAt_35 rfl rfl rfl ?_
  refine g_getI (M := mX1_lookAt) (pc := 36) 39 dX1_lookAt_36 rfl fX1_34 oF18_7 ?_
  refine g_icmp_ge (M := mX1_lookAt) (pc := 39) 119 42 dX1_lookAt_39 (by decide) rfl (fun _ => ?_) (fun _ => ?_)
  · exact g_jmp (fun z => v_fgt [true, true, false, false] z)
  · refine g_aload_n (M := mX1_lookAt) (pc := 42) 43 dX1_lookAt_42 rfl rfl rfl ?_
    refine g_getR (M := mX1_lookAt) (pc := 43) 46 dX1_lookAt_43 rfl fX1_21 oR18_3 ?_
    refine g_iload_n (M := mX1_lookAt) (pc := 46) 47 dX1_lookAt_46 rfl rfl rfl ?_
    refine g_aload_n (M := mX1_lookAt) (pc := 47) 48 dX1_lookAt_47 rfl rfl rfl ?_
    refine g_getR (M := mX1_lookAt) (pc := 48) 51 dX1_lookAt_48 rfl fX1_40 (oR0_0 hg1) ?_
    refine g_getR (M := mX1_lookAt) (pc := 51) 54 dX1_lookAt_51 rfl fX1_56 (oR1_2 hg1) ?_
    refine g_iload_n (M := mX1_lookAt) (pc := 54) 55 dX1_lookAt_54 rfl rfl rfl ?_
    refine g_iald (M := mX1_lookAt) (pc := 55) 56 dX1_lookAt_55 rfl (oA4 hg1) ?_
    refine g_iast (M := mX1_lookAt) (pc := 56) 57 dX1_lookAt_56 rfl oA22 (fun h5 => ?_)
    refine g_aload_n (M := mX1_lookAt) (pc := 57) 58 dX1_lookAt_57 rfl rfl rfl ?_
    refine g_dup (M := mX1_lookAt) (pc := 58) 59 dX1_lookAt_58 rfl rfl ?_
    refine g_getI (M := mX1_lookAt) (pc := 59) 62 dX1_lookAt_59 rfl fX1_27 oF18_5 ?_
    refine g_aload_n (M := mX1_lookAt) (pc := 62) 63 dX1_lookAt_62 rfl rfl rfl ?_
    refine g_getR (M := mX1_lookAt) (pc := 63) 66 dX1_lookAt_63 rfl fX1_40 (oR0_0 hg1) ?_
    refine g_iload_n (M := mX1_lookAt) (pc := 66) 67 dX1_lookAt_66 rfl rfl rfl ?_
    refine g_iconst (M := mX1_lookAt) (pc := 67) (v := 2) 68 dX1_lookAt_67 rfl ic2 ?_
    refine g_cV_I (M := mX1_lookAt) (pc := 68) (M' := mX5_isUnder) (rest := [aI (h5 4 18 5), aR 4 18]) 71 dX1_lookAt_68 rfl kX1_57 okX5_isUnder (CX5_isUnder g1 hg1 a2 2 h5 L) (oO1 hg1) rfl rfl rfl rfl (fun r6 => ?_)
    refine g_if_eq (M := mX1_lookAt) (pc := 71) 80 74 dX1_lookAt_71 (by decide) rfl (fun _ => ?_) (fun _ => ?_)
    · refine g_iconst (M := mX1_lookAt) (pc := 80) (v := 0) 81 dX1_lookAt_80 rfl ic0 ?_
      exact g_fgt [true, true, true, false] (JX1_lookAt_81_ok g1 hg1 a2 (h5 4 18 5) 0 T h5 L)
    · refine g_iconst (M := mX1_lookAt) (pc := 74) (v := 1) 75 dX1_lookAt_74 rfl ic1 ?_
      refine g_iload_n (M := mX1_lookAt) (pc := 75) 76 dX1_lookAt_75 rfl rfl rfl ?_
      refine g_ishl (M := mX1_lookAt) (pc := 76) 77 dX1_lookAt_76 rfl ?_
      refine g_goto (M := mX1_lookAt) (pc := 77) 81 dX1_lookAt_77 (by decide) ?_
      exact g_fgt [true, true, true, false] (JX1_lookAt_81_ok g1 hg1 a2 (h5 4 18 5) (1 <<< (a2 &&& 31)) T h5 L)
set_option maxRecDepth 100000 in
set_option maxHeartbeats 4000000 in
theorem SX1_lookAt_146_ok (g1 : Nat) (hg1 : g1 < 3) (a2 : Int32) (L : HL) (T : ZT) (a3 : Int32) (h : HI) : VX mX1_lookAt 1 T (gS (fun s : Int32 × HI => V mX1_lookAt 1 T 146 [some (aR 4 18), some (aR g1 0), some (aI a2), some (aI (s.1))] [] (s.2) L) (fun s : HI => V mX1_lookAt 1 T 196 [some (aR 4 18), some (aR g1 0), some (aI a2), none] [] s L)) 146 [some (aR 4 18), some (aR g1 0), some (aI a2), some (aI a3)] [] h L (SX1_lookAt_146 g1 a2 (a3, h)) := by
  unfold SX1_lookAt_146
  refine g_iload_n (M := mX1_lookAt) (pc := 146) 147 dX1_lookAt_146 rfl rfl rfl ?_
  refine g_aload_n (M := mX1_lookAt) (pc := 147) 148 dX1_lookAt_147 rfl rfl rfl ?_
  refine g_getI (M := mX1_lookAt) (pc := 148) 151 dX1_lookAt_148 rfl fX1_34 oF18_7 ?_
  refine g_icmp_ge (M := mX1_lookAt) (pc := 151) 196 154 dX1_lookAt_151 (by decide) rfl (fun _ => ?_) (fun _ => ?_)
  · exact g_jmp (fun z => v_fgt [true, true, true, false] z)
  · refine g_aload_n (M := mX1_lookAt) (pc := 154) 155 dX1_lookAt_154 rfl rfl rfl ?_
    refine g_getR (M := mX1_lookAt) (pc := 155) 158 dX1_lookAt_155 rfl fX1_9 oR18_0 ?_
    refine g_iload_n (M := mX1_lookAt) (pc := 158) 159 dX1_lookAt_158 rfl rfl rfl ?_
    refine g_bipush (M := mX1_lookAt) (pc := 159) (v := 12) 161 dX1_lookAt_159 rfl bp12 ?_
    refine g_imul (M := mX1_lookAt) (pc := 161) 162 dX1_lookAt_161 rfl ?_
    refine g_iload_n (M := mX1_lookAt) (pc := 162) 163 dX1_lookAt_162 rfl rfl rfl ?_
    refine g_iadd (M := mX1_lookAt) (pc := 163) 164 dX1_lookAt_163 rfl ?_
    refine g_aload_n (M := mX1_lookAt) (pc := 164) 165 dX1_lookAt_164 rfl rfl rfl ?_
    refine g_iload_n (M := mX1_lookAt) (pc := 165) 166 dX1_lookAt_165 rfl rfl rfl ?_
    refine g_iload_n (M := mX1_lookAt) (pc := 166) 167 dX1_lookAt_166 rfl rfl rfl ?_
    refine g_iconst (M := mX1_lookAt) (pc := 167) (v := 0) 168 dX1_lookAt_167 rfl ic0 ?_
    refine g_cV_I (M := mX1_lookAt) (pc := 168) (M' := mX0_gainOf) (rest := [aI ((a2 * 12) + a3), aR 4 19]) 171 dX1_lookAt_168 rfl kX1_62 okX0_gainOf (CX0_gainOf g1 hg1 a3 a2 0 h L) (oO0 hg1) rfl rfl rfl rfl (fun r13 => ?_)
    refine g_iast (M := mX1_lookAt) (pc := 171) 172 dX1_lookAt_171 rfl oA19 (fun h14 => ?_)
    refine g_aload_n (M := mX1_lookAt) (pc := 172) 173 dX1_lookAt_172 rfl rfl rfl ?_
    refine g_getR (M := mX1_lookAt) (pc := 173) 176 dX1_lookAt_173 rfl fX1_15 oR18_1 ?_
    refine g_iload_n (M := mX1_lookAt) (pc := 176) 177 dX1_lookAt_176 rfl rfl rfl ?_
    refine g_bipush (M := mX1_lookAt) (pc := 177) (v := 12) 179 dX1_lookAt_177 rfl bp12 ?_
    refine g_imul (M := mX1_lookAt) (pc := 179) 180 dX1_lookAt_179 rfl ?_
    refine g_iload_n (M := mX1_lookAt) (pc := 180) 181 dX1_lookAt_180 rfl rfl rfl ?_
    refine g_iadd (M := mX1_lookAt) (pc := 181) 182 dX1_lookAt_181 rfl ?_
    refine g_aload_n (M := mX1_lookAt) (pc := 182) 183 dX1_lookAt_182 rfl rfl rfl ?_
    refine g_iload_n (M := mX1_lookAt) (pc := 183) 184 dX1_lookAt_183 rfl rfl rfl ?_
    refine g_iload_n (M := mX1_lookAt) (pc := 184) 185 dX1_lookAt_184 rfl rfl rfl ?_
    refine g_iconst (M := mX1_lookAt) (pc := 185) (v := 1) 186 dX1_lookAt_185 rfl ic1 ?_
    refine g_cV_I (M := mX1_lookAt) (pc := 186) (M' := mX0_gainOf) (rest := [aI ((a2 * 12) + a3), aR 4 20]) 189 dX1_lookAt_186 rfl kX1_62 okX0_gainOf (CX0_gainOf g1 hg1 a3 a2 1 h14 L) (oO0 hg1) rfl rfl rfl rfl (fun r15 => ?_)
    refine g_iast (M := mX1_lookAt) (pc := 189) 190 dX1_lookAt_189 rfl oA20 (fun h16 => ?_)
    refine g_iinc (M := mX1_lookAt) (pc := 190) (c := 1) (ls' := [some (aR 4 18), some (aR g1 0), some (aI a2), some (aI (a3 + 1))]) 193 dX1_lookAt_190 rfl ic1 rfl rfl rfl ?_
    refine g_goto (M := mX1_lookAt) (pc := 193) 146 dX1_lookAt_193 (by decide) ?_
    exact g_jmp (fun z => v_fgt [true, true, true, true] z)
set_option maxRecDepth 100000 in
set_option maxHeartbeats 4000000 in
theorem SX1_lookAt_121_ok (g1 : Nat) (hg1 : g1 < 3) (L : HL) (T : ZT) (a2 : Int32) (h : HI) : VX mX1_lookAt 1 T (gS (fun s : Int32 × HI => V mX1_lookAt 1 T 121 [some (aR 4 18), some (aR g1 0), some (aI (s.1)), none] [] (s.2) L) (fun s : HI => V mX1_lookAt 1 T 202 [none, none, none, none] [] s L)) 121 [some (aR 4 18), some (aR g1 0), some (aI a2), none] [] h L (SX1_lookAt_121 g1 (a2, h)) := by
  unfold SX1_lookAt_121
  refine g_iload_n (M := mX1_lookAt) (pc := 121) 122 dX1_lookAt_121 rfl rfl rfl ?_
  refine g_aload_n (M := mX1_lookAt) (pc := 122) 123 dX1_lookAt_122 rfl rfl rfl ?_
  refine g_getI (M := mX1_lookAt) (pc := 123) 126 dX1_lookAt_123 rfl fX1_37 oF18_8 ?_
  refine g_icmp_ge (M := mX1_lookAt) (pc := 126) 202 129 dX1_lookAt_126 (by decide) rfl (fun _ => ?_) (fun _ => ?_)
  · exact g_jmp (fun z => v_fgt [false, false, false, false] z)
  · refine g_aload_n (M := mX1_lookAt) (pc := 129) 130 dX1_lookAt_129 rfl rfl rfl ?_
    refine g_getR (M := mX1_lookAt) (pc := 130) 133 dX1_lookAt_130 rfl fX1_18 oR18_2 ?_
    refine g_iload_n (M := mX1_lookAt) (pc := 133) 134 dX1_lookAt_133 rfl rfl rfl ?_
    refine g_aload_n (M := mX1_lookAt) (pc := 134) 135 dX1_lookAt_134 rfl rfl rfl ?_
    refine g_getR (M := mX1_lookAt) (pc := 135) 138 dX1_lookAt_135 rfl fX1_50 (oR0_1 hg1) ?_
    refine g_getR (M := mX1_lookAt) (pc := 138) 141 dX1_lookAt_138 rfl fX1_61 (oR8_1 hg1) ?_
    refine g_iload_n (M := mX1_lookAt) (pc := 141) 142 dX1_lookAt_141 rfl rfl rfl ?_
    refine g_iald (M := mX1_lookAt) (pc := 142) 143 dX1_lookAt_142 rfl (oA10 hg1) ?_
    refine g_iast (M := mX1_lookAt) (pc := 143) 144 dX1_lookAt_143 rfl oA21 (fun h12 => ?_)
    refine g_iconst (M := mX1_lookAt) (pc := 144) (v := 0) 145 dX1_lookAt_144 rfl ic0 ?_
    refine g_istore_n (M := mX1_lookAt) (pc := 145) (ls' := [some (aR 4 18), some (aR g1 0), some (aI a2), some (aI 0)]) 146 dX1_lookAt_145 rfl rfl rfl rfl ?_
    refine g_loop (fun s => SX1_lookAt_146_ok g1 hg1 a2 L T s.1 s.2) ?_ (fun z => v_fgt [true, true, true, true] z)
    intro h17
    show VX mX1_lookAt 1 T _ 196 [some (aR 4 18), some (aR g1 0), some (aI a2), none] [] h17 L _
    refine g_iinc (M := mX1_lookAt) (pc := 196) (c := 1) (ls' := [some (aR 4 18), some (aR g1 0), some (aI (a2 + 1)), none]) 199 dX1_lookAt_196 rfl ic1 rfl rfl rfl ?_
    refine g_goto (M := mX1_lookAt) (pc := 199) 121 dX1_lookAt_199 (by decide) ?_
    exact g_jmp (fun z => v_fgt [true, true, true, false] z)
set_option maxRecDepth 100000 in
set_option maxHeartbeats 4000000 in
theorem CX1_lookAt (g1 : Nat) (hg1 : g1 < 3) (h : HI) (L : HL) : CG mX1_lookAt 1 [aR 4 18, aR g1 0] h L (lfVH L) (FX1_lookAt g1 h) := by
  unfold FX1_lookAt
  refine cg_of [some (aR 4 18), some (aR g1 0), none, none] rfl (by decide) rfl rfl (fun T => ?_)
  refine g_aload_n (M := mX1_lookAt) (pc := 0) 1 dX1_lookAt_0 rfl rfl rfl ?_
  refine g_aload_n (M := mX1_lookAt) (pc := 1) 2 dX1_lookAt_1 rfl rfl rfl ?_
  refine g_getR (M := mX1_lookAt) (pc := 2) 5 dX1_lookAt_2 rfl fX1_40 (oR0_0 hg1) ?_
  refine g_getI (M := mX1_lookAt) (pc := 5) 8 dX1_lookAt_5 rfl fX1_45 (oF1_6 hg1) ?_
  refine g_put (M := mX1_lookAt) (pc := 8) 11 dX1_lookAt_8 rfl pX1_34 oF18_7 rfl rfl (fun h1 => ?_)
  refine g_aload_n (M := mX1_lookAt) (pc := 11) 12 dX1_lookAt_11 rfl rfl rfl ?_
  refine g_aload_n (M := mX1_lookAt) (pc := 12) 13 dX1_lookAt_12 rfl rfl rfl ?_
  refine g_getR (M := mX1_lookAt) (pc := 13) 16 dX1_lookAt_13 rfl fX1_50 (oR0_1 hg1) ?_
  refine g_getI (M := mX1_lookAt) (pc := 16) 19 dX1_lookAt_16 rfl fX1_53 (oF8_5 hg1) ?_
  refine g_put (M := mX1_lookAt) (pc := 19) 22 dX1_lookAt_19 rfl pX1_37 oF18_8 rfl rfl (fun h2 => ?_)
  refine g_aload_n (M := mX1_lookAt) (pc := 22) 23 dX1_lookAt_22 rfl rfl rfl ?_
  refine g_iconst (M := mX1_lookAt) (pc := 23) (v := 0) 24 dX1_lookAt_23 rfl ic0 ?_
  refine g_put (M := mX1_lookAt) (pc := 24) 27 dX1_lookAt_24 rfl pX1_27 oF18_5 rfl rfl (fun h3 => ?_)
  refine g_aload_n (M := mX1_lookAt) (pc := 27) 28 dX1_lookAt_27 rfl rfl rfl ?_
  refine g_iconst (M := mX1_lookAt) (pc := 28) (v := 0) 29 dX1_lookAt_28 rfl ic0 ?_
  refine g_put (M := mX1_lookAt) (pc := 29) 32 dX1_lookAt_29 rfl pX1_31 oF18_6 rfl rfl (fun h4 => ?_)
  refine g_iconst (M := mX1_lookAt) (pc := 32) (v := 0) 33 dX1_lookAt_32 rfl ic0 ?_
  refine g_istore_n (M := mX1_lookAt) (pc := 33) (ls' := [some (aR 4 18), some (aR g1 0), some (aI 0), none]) 34 dX1_lookAt_33 rfl rfl rfl rfl ?_
  refine g_loop (fun s => SX1_lookAt_34_ok g1 hg1 L T s.1 s.2) ?_ (fun z => v_fgt [true, true, true, false] z)
  intro h11
  show VX mX1_lookAt 1 T _ 119 [some (aR 4 18), some (aR g1 0), none, none] [] h11 L _
  refine g_iconst (M := mX1_lookAt) (pc := 119) (v := 0) 120 dX1_lookAt_119 rfl ic0 ?_
  refine g_istore_n (M := mX1_lookAt) (pc := 120) (ls' := [some (aR 4 18), some (aR g1 0), some (aI 0), none]) 121 dX1_lookAt_120 rfl rfl rfl rfl ?_
  refine g_loop (fun s => SX1_lookAt_121_ok g1 hg1 L T s.1 s.2) ?_ (fun z => v_fgt [true, true, true, false] z)
  intro h18
  show VX mX1_lookAt 1 T _ 202 [none, none, none, none] [] h18 L _
  exact g_vret (M := mX1_lookAt) (pc := 202) dX1_lookAt_202 rfl (fun z => z)
def SX1_listMembers_4 (a1 : Int32) : (Int32 × Int32 × HI) → Option ((Int32 × Int32 × HI) ⊕ (Int32 × HI))
  | (a2, a3, h) =>
    if (h 4 18 7) ≤ a3 then
      some (Sum.inr (a2, h))
    else
      Option.bind (FX9_isIn a1 a3) fun r1 =>
      if r1 = 0 then
        some (Sum.inl (a2, (a3 + 1), h))
      else
        gd (ixb a2 12) <|
        nm (hP1 h 4 23 (nC a2) a3) fun h2 =>
        some (Sum.inl ((a2 + 1), (a3 + 1), h2))
def FX1_listMembers (a1 : Int32) (h : HI) : Option (Int32 × HI) :=
  Option.bind (loopN (SX1_listMembers_4 a1) FU (0, 0, h)) fun (e3, h4) =>
    some (e3, h4)
set_option maxRecDepth 100000 in
set_option maxHeartbeats 4000000 in
theorem SX1_listMembers_4_ok (a1 : Int32) (L : HL) (T : ZT) (a2 : Int32) (a3 : Int32) (h : HI) : VX mX1_listMembers 1 T (gS (fun s : Int32 × Int32 × HI => V mX1_listMembers 1 T 4 [some (aR 4 18), some (aI a1), some (aI (s.1)), some (aI (s.2.1))] [] (s.2.2) L) (fun s : Int32 × HI => V mX1_listMembers 1 T 36 [none, none, some (aI (s.1)), none] [] (s.2) L)) 4 [some (aR 4 18), some (aI a1), some (aI a2), some (aI a3)] [] h L (SX1_listMembers_4 a1 (a2, a3, h)) := by
  unfold SX1_listMembers_4
  refine g_iload_n (M := mX1_listMembers) (pc := 4) 5 dX1_listMembers_4 rfl rfl rfl ?_
  refine g_aload_n (M := mX1_listMembers) (pc := 5) 6 dX1_listMembers_5 rfl rfl rfl ?_
  refine g_getI (M := mX1_listMembers) (pc := 6) 9 dX1_listMembers_6 rfl fX1_34 oF18_7 ?_
  refine g_icmp_ge (M := mX1_listMembers) (pc := 9) 36 12 dX1_listMembers_9 (by decide) rfl (fun _ => ?_) (fun _ => ?_)
  · exact g_jmp (fun z => v_fgt [false, false, true, false] z)
  · refine g_iload_n (M := mX1_listMembers) (pc := 12) 13 dX1_listMembers_12 rfl rfl rfl ?_
    refine g_iload_n (M := mX1_listMembers) (pc := 13) 14 dX1_listMembers_13 rfl rfl rfl ?_
    refine g_cN_I (M := mX1_listMembers) (pc := 14) (M' := mX9_isIn) (rest := []) 17 dX1_listMembers_14 rfl nX1_73 okX9_isIn (CX9_isIn a1 a3 h L) rfl rfl rfl rfl (fun r1 => ?_)
    refine g_if_eq (M := mX1_listMembers) (pc := 17) 30 20 dX1_listMembers_17 (by decide) rfl (fun _ => ?_) (fun _ => ?_)
    · refine g_iinc (M := mX1_listMembers) (pc := 30) (c := 1) (ls' := [some (aR 4 18), some (aI a1), some (aI a2), some (aI (a3 + 1))]) 33 dX1_listMembers_30 rfl ic1 rfl rfl rfl ?_
      refine g_goto (M := mX1_listMembers) (pc := 33) 4 dX1_listMembers_33 (by decide) ?_
      exact g_jmp (fun z => v_fgt [true, true, true, true] z)
    · refine g_aload_n (M := mX1_listMembers) (pc := 20) 21 dX1_listMembers_20 rfl rfl rfl ?_
      refine g_getR (M := mX1_listMembers) (pc := 21) 24 dX1_listMembers_21 rfl fX1_24 oR18_4 ?_
      refine g_iload_n (M := mX1_listMembers) (pc := 24) 25 dX1_listMembers_24 rfl rfl rfl ?_
      refine g_iload_n (M := mX1_listMembers) (pc := 25) 26 dX1_listMembers_25 rfl rfl rfl ?_
      refine g_iast (M := mX1_listMembers) (pc := 26) 27 dX1_listMembers_26 rfl oA23 (fun h2 => ?_)
      refine g_iinc (M := mX1_listMembers) (pc := 27) (c := 1) (ls' := [some (aR 4 18), some (aI a1), some (aI (a2 + 1)), some (aI a3)]) 30 dX1_listMembers_27 rfl ic1 rfl rfl rfl ?_
      refine g_iinc (M := mX1_listMembers) (pc := 30) (c := 1) (ls' := [some (aR 4 18), some (aI a1), some (aI (a2 + 1)), some (aI (a3 + 1))]) 33 dX1_listMembers_30 rfl ic1 rfl rfl rfl ?_
      refine g_goto (M := mX1_listMembers) (pc := 33) 4 dX1_listMembers_33 (by decide) ?_
      exact g_jmp (fun z => v_fgt [true, true, true, true] z)
set_option maxRecDepth 100000 in
set_option maxHeartbeats 4000000 in
theorem CX1_listMembers (a1 : Int32) (h : HI) (L : HL) : CG mX1_listMembers 1 [aR 4 18, aI a1] h L (lfIH L) (FX1_listMembers a1 h) := by
  unfold FX1_listMembers
  refine cg_of [some (aR 4 18), some (aI a1), none, none] rfl (by decide) rfl rfl (fun T => ?_)
  refine g_iconst (M := mX1_listMembers) (pc := 0) (v := 0) 1 dX1_listMembers_0 rfl ic0 ?_
  refine g_istore_n (M := mX1_listMembers) (pc := 1) (ls' := [some (aR 4 18), some (aI a1), some (aI 0), none]) 2 dX1_listMembers_1 rfl rfl rfl rfl ?_
  refine g_iconst (M := mX1_listMembers) (pc := 2) (v := 0) 3 dX1_listMembers_2 rfl ic0 ?_
  refine g_istore_n (M := mX1_listMembers) (pc := 3) (ls' := [some (aR 4 18), some (aI a1), some (aI 0), some (aI 0)]) 4 dX1_listMembers_3 rfl rfl rfl rfl ?_
  refine g_loop (fun s => SX1_listMembers_4_ok a1 L T s.1 s.2.1 s.2.2) ?_ (fun z => v_fgt [true, true, true, true] z)
  rintro ⟨e3, h4⟩
  show VX mX1_listMembers 1 T _ 36 [none, none, some (aI e3), none] [] h4 L _
  refine g_iload_n (M := mX1_listMembers) (pc := 36) 37 dX1_listMembers_36 rfl rfl rfl ?_
  exact g_iret (M := mX1_listMembers) (pc := 37) dX1_listMembers_37 rfl rfl (fun z => z)
