-- functions of the methods and their contracts, by program (wip/whole/dec.py): X5_maySet X6_isSheet X6_isMissing X6_hasNumbers X6_lay X6_cut X6_replace X6_move X7_hasRoom X7_append X7_clear X8_row X8_mayChange X9_tell X9_phrase X9_isPhrase X9_of X9_exchange X9_set X9_turn X9_as X9_want X9_isWant X9_wantOf X9_change X9_isSet X9_gain X9_met X9_value X9_orNone X9_by X9_best X9_greedy X9_next X9_spare X9_minutesFor X9_queue X9_skip
def FX5_maySet (g : Nat) (a1 : Int32) (a2 : Int32) (h : HI) : Option (Int32) :=
  if a1 < 1 then
    some 0
  else
    if 5 ≤ a1 then
      some 0
    else
      gd (ixb a1 5) <|
      gd (ixb a1 5) <|
      Option.bind (FX9_within a2 (([0, 0, 1, 0, 0] : List Int32).getD (nC a1) 0) (([5, 9, 60, 10, 100] : List Int32).getD (nC a1) 0)) fun r1 =>
      if r1 = 0 then
        some 0
      else
        some 1
set_option maxRecDepth 100000 in
set_option maxHeartbeats 4000000 in
theorem CX5_maySet (g : Nat) (hg : g < 3) (a1 : Int32) (a2 : Int32) (h : HI) (L : HL) : CG mX5_maySet 1 [aR g 1, aI a1, aI a2] h L (lfI h L) (FX5_maySet g a1 a2 h) := by
  unfold FX5_maySet
  refine cg_of [some (aR g 1), some (aI a1), some (aI a2)] rfl (by decide) rfl rfl (fun T => ?_)
  refine g_iload_n (M := mX5_maySet) (pc := 0) 1 dX5_maySet_0 rfl rfl rfl ?_
  refine g_iconst (M := mX5_maySet) (pc := 1) (v := 1) 2 dX5_maySet_1 rfl ic1 ?_
  refine g_icmp_lt (M := mX5_maySet) (pc := 2) 34 5 dX5_maySet_2 (by decide) rfl (fun _ => ?_) (fun _ => ?_)
  · refine g_iconst (M := mX5_maySet) (pc := 34) (v := 0) 35 dX5_maySet_34 rfl ic0 ?_
    exact g_iret (M := mX5_maySet) (pc := 35) dX5_maySet_35 rfl nz0 (fun z => z)
  · refine g_iload_n (M := mX5_maySet) (pc := 5) 6 dX5_maySet_5 rfl rfl rfl ?_
    refine g_gets (M := mX5_maySet) (pc := 6) (j := 2) 9 dX5_maySet_6 rfl sX5_34 rfl ?_
    refine g_slen (M := mX5_maySet) (pc := 9) (v := 5) 10 dX5_maySet_9 rfl rfl rfl ?_
    refine g_icmp_ge (M := mX5_maySet) (pc := 10) 34 13 dX5_maySet_10 (by decide) rfl (fun _ => ?_) (fun _ => ?_)
    · refine g_iconst (M := mX5_maySet) (pc := 34) (v := 0) 35 dX5_maySet_34 rfl ic0 ?_
      exact g_iret (M := mX5_maySet) (pc := 35) dX5_maySet_35 rfl nz0 (fun z => z)
    · refine g_iload_n (M := mX5_maySet) (pc := 13) 14 dX5_maySet_13 rfl rfl rfl ?_
      refine g_gets (M := mX5_maySet) (pc := 14) (j := 1) 17 dX5_maySet_14 rfl sX5_37 rfl ?_
      refine g_iload_n (M := mX5_maySet) (pc := 17) 18 dX5_maySet_17 rfl rfl rfl ?_
      refine g_sald (M := mX5_maySet) (pc := 18) (n := 5) 19 dX5_maySet_18 rfl rfl rfl ?_
      refine g_gets (M := mX5_maySet) (pc := 19) (j := 2) 22 dX5_maySet_19 rfl sX5_34 rfl ?_
      refine g_iload_n (M := mX5_maySet) (pc := 22) 23 dX5_maySet_22 rfl rfl rfl ?_
      refine g_sald (M := mX5_maySet) (pc := 23) (n := 5) 24 dX5_maySet_23 rfl rfl rfl ?_
      refine g_cN_I (M := mX5_maySet) (pc := 24) (M' := mX9_within) (rest := []) 27 dX5_maySet_24 rfl nX5_40 okX9_within (CX9_within a2 (([0, 0, 1, 0, 0] : List Int32).getD (nC a1) 0) (([5, 9, 60, 10, 100] : List Int32).getD (nC a1) 0) h L) rfl rfl rfl rfl (fun r1 => ?_)
      refine g_if_eq (M := mX5_maySet) (pc := 27) 34 30 dX5_maySet_27 (by decide) rfl (fun _ => ?_) (fun _ => ?_)
      · refine g_iconst (M := mX5_maySet) (pc := 34) (v := 0) 35 dX5_maySet_34 rfl ic0 ?_
        exact g_iret (M := mX5_maySet) (pc := 35) dX5_maySet_35 rfl nz0 (fun z => z)
      · refine g_iconst (M := mX5_maySet) (pc := 30) (v := 1) 31 dX5_maySet_30 rfl ic1 ?_
        refine g_goto (M := mX5_maySet) (pc := 31) 35 dX5_maySet_31 (by decide) ?_
        exact g_iret (M := mX5_maySet) (pc := 35) dX5_maySet_35 rfl nz1 (fun z => z)
def FX6_isSheet (a1 : Int32) : Option (Int32) :=
  if a1 < 0 then
    some 0
  else
    if 4 ≤ a1 then
      some 0
    else
      some 1
set_option maxRecDepth 100000 in
set_option maxHeartbeats 4000000 in
theorem CX6_isSheet (a1 : Int32) (h : HI) (L : HL) : CG mX6_isSheet 0 [aR 6 28, aI a1] h L (lfI h L) (FX6_isSheet a1) := by
  unfold FX6_isSheet
  refine cg_of [some (aR 6 28), some (aI a1)] rfl (by decide) rfl rfl (fun T => ?_)
  refine g_iload_n (M := mX6_isSheet) (pc := 0) 1 dX6_isSheet_0 rfl rfl rfl ?_
  refine g_if_lt (M := mX6_isSheet) (pc := 1) 13 4 dX6_isSheet_1 (by decide) rfl (fun _ => ?_) (fun _ => ?_)
  · refine g_iconst (M := mX6_isSheet) (pc := 13) (v := 0) 14 dX6_isSheet_13 rfl ic0 ?_
    exact g_iret (M := mX6_isSheet) (pc := 14) dX6_isSheet_14 rfl nz0 (fun z => z)
  · refine g_iload_n (M := mX6_isSheet) (pc := 4) 5 dX6_isSheet_4 rfl rfl rfl ?_
    refine g_iconst (M := mX6_isSheet) (pc := 5) (v := 4) 6 dX6_isSheet_5 rfl ic4 ?_
    refine g_icmp_ge (M := mX6_isSheet) (pc := 6) 13 9 dX6_isSheet_6 (by decide) rfl (fun _ => ?_) (fun _ => ?_)
    · refine g_iconst (M := mX6_isSheet) (pc := 13) (v := 0) 14 dX6_isSheet_13 rfl ic0 ?_
      exact g_iret (M := mX6_isSheet) (pc := 14) dX6_isSheet_14 rfl nz0 (fun z => z)
    · refine g_iconst (M := mX6_isSheet) (pc := 9) (v := 1) 10 dX6_isSheet_9 rfl ic1 ?_
      refine g_goto (M := mX6_isSheet) (pc := 10) 14 dX6_isSheet_10 (by decide) ?_
      exact g_iret (M := mX6_isSheet) (pc := 14) dX6_isSheet_14 rfl nz1 (fun z => z)
def FX6_isMissing (a1 : Int32) (h : HI) : Option (Int32) :=
  gd (ixb a1 4) <|
  if (h 6 29 (nC a1)) = 0 then
    some 1
  else
    some 0
set_option maxRecDepth 100000 in
set_option maxHeartbeats 4000000 in
theorem CX6_isMissing (a1 : Int32) (h : HI) (L : HL) : CG mX6_isMissing 0 [aR 6 28, aI a1] h L (lfI h L) (FX6_isMissing a1 h) := by
  unfold FX6_isMissing
  refine cg_of [some (aR 6 28), some (aI a1)] rfl (by decide) rfl rfl (fun T => ?_)
  refine g_aload_n (M := mX6_isMissing) (pc := 0) 1 dX6_isMissing_0 rfl rfl rfl ?_
  refine g_getR (M := mX6_isMissing) (pc := 1) 4 dX6_isMissing_1 rfl fX6_9 oR28_0 ?_
  refine g_iload_n (M := mX6_isMissing) (pc := 4) 5 dX6_isMissing_4 rfl rfl rfl ?_
  refine g_iald (M := mX6_isMissing) (pc := 5) 6 dX6_isMissing_5 rfl oA29 ?_
  refine g_if_ne (M := mX6_isMissing) (pc := 6) 13 9 dX6_isMissing_6 (by decide) rfl (fun _ => ?_) (fun _ => ?_)
  · refine g_iconst (M := mX6_isMissing) (pc := 13) (v := 0) 14 dX6_isMissing_13 rfl ic0 ?_
    exact g_iret (M := mX6_isMissing) (pc := 14) dX6_isMissing_14 rfl nz0 (fun z => z)
  · refine g_iconst (M := mX6_isMissing) (pc := 9) (v := 1) 10 dX6_isMissing_9 rfl ic1 ?_
    refine g_goto (M := mX6_isMissing) (pc := 10) 14 dX6_isMissing_10 (by decide) ?_
    exact g_iret (M := mX6_isMissing) (pc := 14) dX6_isMissing_14 rfl nz1 (fun z => z)
def FX6_hasNumbers (a1 : Int32) (a2 : Int32) (a3 : Int32) (h : HI) : Option (Int32) :=
  if a2 < 0 then
    some 0
  else
    if a3 < 0 then
      some 0
    else
      gd (ixb a1 4) <|
      if (h 6 30 (nC a1)) < a2 then
        some 0
      else
        gd (ixb a1 4) <|
        if ((h 6 30 (nC a1)) - a2) < a3 then
          some 0
        else
          some 1
set_option maxRecDepth 100000 in
set_option maxHeartbeats 4000000 in
theorem CX6_hasNumbers (a1 : Int32) (a2 : Int32) (a3 : Int32) (h : HI) (L : HL) : CG mX6_hasNumbers 0 [aR 6 28, aI a1, aI a2, aI a3] h L (lfI h L) (FX6_hasNumbers a1 a2 a3 h) := by
  unfold FX6_hasNumbers
  refine cg_of [some (aR 6 28), some (aI a1), some (aI a2), some (aI a3)] rfl (by decide) rfl rfl (fun T => ?_)
  refine g_iload_n (M := mX6_hasNumbers) (pc := 0) 1 dX6_hasNumbers_0 rfl rfl rfl ?_
  refine g_if_lt (M := mX6_hasNumbers) (pc := 1) 34 4 dX6_hasNumbers_1 (by decide) rfl (fun _ => ?_) (fun _ => ?_)
  · refine g_iconst (M := mX6_hasNumbers) (pc := 34) (v := 0) 35 dX6_hasNumbers_34 rfl ic0 ?_
    exact g_iret (M := mX6_hasNumbers) (pc := 35) dX6_hasNumbers_35 rfl nz0 (fun z => z)
  · refine g_iload_n (M := mX6_hasNumbers) (pc := 4) 5 dX6_hasNumbers_4 rfl rfl rfl ?_
    refine g_if_lt (M := mX6_hasNumbers) (pc := 5) 34 8 dX6_hasNumbers_5 (by decide) rfl (fun _ => ?_) (fun _ => ?_)
    · refine g_iconst (M := mX6_hasNumbers) (pc := 34) (v := 0) 35 dX6_hasNumbers_34 rfl ic0 ?_
      exact g_iret (M := mX6_hasNumbers) (pc := 35) dX6_hasNumbers_35 rfl nz0 (fun z => z)
    · refine g_iload_n (M := mX6_hasNumbers) (pc := 8) 9 dX6_hasNumbers_8 rfl rfl rfl ?_
      refine g_aload_n (M := mX6_hasNumbers) (pc := 9) 10 dX6_hasNumbers_9 rfl rfl rfl ?_
      refine g_getR (M := mX6_hasNumbers) (pc := 10) 13 dX6_hasNumbers_10 rfl fX6_13 oR28_1 ?_
      refine g_iload_n (M := mX6_hasNumbers) (pc := 13) 14 dX6_hasNumbers_13 rfl rfl rfl ?_
      refine g_iald (M := mX6_hasNumbers) (pc := 14) 15 dX6_hasNumbers_14 rfl oA30 ?_
      refine g_icmp_gt (M := mX6_hasNumbers) (pc := 15) 34 18 dX6_hasNumbers_15 (by decide) rfl (fun _ => ?_) (fun _ => ?_)
      · refine g_iconst (M := mX6_hasNumbers) (pc := 34) (v := 0) 35 dX6_hasNumbers_34 rfl ic0 ?_
        exact g_iret (M := mX6_hasNumbers) (pc := 35) dX6_hasNumbers_35 rfl nz0 (fun z => z)
      · refine g_iload_n (M := mX6_hasNumbers) (pc := 18) 19 dX6_hasNumbers_18 rfl rfl rfl ?_
        refine g_aload_n (M := mX6_hasNumbers) (pc := 19) 20 dX6_hasNumbers_19 rfl rfl rfl ?_
        refine g_getR (M := mX6_hasNumbers) (pc := 20) 23 dX6_hasNumbers_20 rfl fX6_13 oR28_1 ?_
        refine g_iload_n (M := mX6_hasNumbers) (pc := 23) 24 dX6_hasNumbers_23 rfl rfl rfl ?_
        refine g_iald (M := mX6_hasNumbers) (pc := 24) 25 dX6_hasNumbers_24 rfl oA30 ?_
        refine g_iload_n (M := mX6_hasNumbers) (pc := 25) 26 dX6_hasNumbers_25 rfl rfl rfl ?_
        refine g_isub (M := mX6_hasNumbers) (pc := 26) 27 dX6_hasNumbers_26 rfl ?_
        refine g_icmp_gt (M := mX6_hasNumbers) (pc := 27) 34 30 dX6_hasNumbers_27 (by decide) rfl (fun _ => ?_) (fun _ => ?_)
        · refine g_iconst (M := mX6_hasNumbers) (pc := 34) (v := 0) 35 dX6_hasNumbers_34 rfl ic0 ?_
          exact g_iret (M := mX6_hasNumbers) (pc := 35) dX6_hasNumbers_35 rfl nz0 (fun z => z)
        · refine g_iconst (M := mX6_hasNumbers) (pc := 30) (v := 1) 31 dX6_hasNumbers_30 rfl ic1 ?_
          refine g_goto (M := mX6_hasNumbers) (pc := 31) 35 dX6_hasNumbers_31 (by decide) ?_
          exact g_iret (M := mX6_hasNumbers) (pc := 35) dX6_hasNumbers_35 rfl nz1 (fun z => z)
def SX6_lay_25 (a1 : Int32) (h : HI) : (Int32 × HL) → Option ((Int32 × HL) ⊕ (HL))
  | (a4, L) =>
    if 40 ≤ a4 then
      some (Sum.inr L)
    else
      gd (ixb ((a1 * 40) + a4) 160) <|
      nm (lP1 L 6 31 (nC ((a1 * 40) + a4)) 0) fun L3 =>
      some (Sum.inl ((a4 + 1), L3))
def FX6_lay (a1 : Int32) (a2 : Int32) (a3 : Int32) (h : HI) (L : HL) : Option (Int32 × HI × HL) :=
  gd (ixb a1 4) <|
  nm (hP1 h 6 29 (nC a1) a2) fun h1 =>
  if a2 = 0 then
    gd (ixb a1 4) <|
    nm (hP1 h1 6 30 (nC a1) 0) fun h5 =>
    Option.bind (loopN (SX6_lay_25 a1 h5) FU (0, L)) fun L6 =>
      gd (ixb a1 4) <|
      some ((h5 6 30 (nC a1)), h5, L6)
  else
    gd (ixb a1 4) <|
    nm (hP1 h1 6 30 (nC a1) a3) fun h2 =>
    Option.bind (loopN (SX6_lay_25 a1 h2) FU (0, L)) fun L4 =>
      gd (ixb a1 4) <|
      some ((h2 6 30 (nC a1)), h2, L4)
set_option maxRecDepth 100000 in
set_option maxHeartbeats 4000000 in
theorem SX6_lay_25_ok (a1 : Int32) (h : HI) (T : ZT) (a4 : Int32) (L : HL) : VX mX6_lay 0 T (gS (fun s : Int32 × HL => V mX6_lay 0 T 25 [some (aR 6 28), some (aI a1), none, none, some (aI (s.1))] [] h (s.2)) (fun s : HL => V mX6_lay 0 T 51 [some (aR 6 28), some (aI a1), none, none, none] [] h s)) 25 [some (aR 6 28), some (aI a1), none, none, some (aI a4)] [] h L (SX6_lay_25 a1 h (a4, L)) := by
  unfold SX6_lay_25
  refine g_iload (M := mX6_lay) (pc := 25) 27 dX6_lay_25 rfl rfl ?_
  refine g_bipush (M := mX6_lay) (pc := 27) (v := 40) 29 dX6_lay_27 rfl bp40 ?_
  refine g_icmp_ge (M := mX6_lay) (pc := 29) 51 32 dX6_lay_29 (by decide) rfl (fun _ => ?_) (fun _ => ?_)
  · exact g_jmp (fun z => v_fgt [true, true, false, false, false] z)
  · refine g_aload_n (M := mX6_lay) (pc := 32) 33 dX6_lay_32 rfl rfl rfl ?_
    refine g_getR (M := mX6_lay) (pc := 33) 36 dX6_lay_33 rfl fX6_16 oR28_2 ?_
    refine g_iload_n (M := mX6_lay) (pc := 36) 37 dX6_lay_36 rfl rfl rfl ?_
    refine g_bipush (M := mX6_lay) (pc := 37) (v := 40) 39 dX6_lay_37 rfl bp40 ?_
    refine g_imul (M := mX6_lay) (pc := 39) 40 dX6_lay_39 rfl ?_
    refine g_iload (M := mX6_lay) (pc := 40) 42 dX6_lay_40 rfl rfl ?_
    refine g_iadd (M := mX6_lay) (pc := 42) 43 dX6_lay_42 rfl ?_
    refine g_lconst (M := mX6_lay) (pc := 43) (v := 0) 44 dX6_lay_43 rfl rfl ?_
    refine g_last (M := mX6_lay) (pc := 44) 45 dX6_lay_44 rfl oA31 (fun L3 => ?_)
    refine g_iinc (M := mX6_lay) (pc := 45) (c := 1) (ls' := [some (aR 6 28), some (aI a1), none, none, some (aI (a4 + 1))]) 48 dX6_lay_45 rfl ic1 rfl rfl rfl ?_
    refine g_goto (M := mX6_lay) (pc := 48) 25 dX6_lay_48 (by decide) ?_
    exact g_jmp (fun z => v_fgt [true, true, false, false, true] z)
set_option maxRecDepth 100000 in
set_option maxHeartbeats 4000000 in
theorem CX6_lay (a1 : Int32) (a2 : Int32) (a3 : Int32) (h : HI) (L : HL) : CG mX6_lay 0 [aR 6 28, aI a1, aI a2, aI a3] h L (lfIHL) (FX6_lay a1 a2 a3 h L) := by
  unfold FX6_lay
  refine cg_of [some (aR 6 28), some (aI a1), some (aI a2), some (aI a3), none] rfl (by decide) rfl rfl (fun T => ?_)
  refine g_aload_n (M := mX6_lay) (pc := 0) 1 dX6_lay_0 rfl rfl rfl ?_
  refine g_getR (M := mX6_lay) (pc := 1) 4 dX6_lay_1 rfl fX6_9 oR28_0 ?_
  refine g_iload_n (M := mX6_lay) (pc := 4) 5 dX6_lay_4 rfl rfl rfl ?_
  refine g_iload_n (M := mX6_lay) (pc := 5) 6 dX6_lay_5 rfl rfl rfl ?_
  refine g_iast (M := mX6_lay) (pc := 6) 7 dX6_lay_6 rfl oA29 (fun h1 => ?_)
  refine g_aload_n (M := mX6_lay) (pc := 7) 8 dX6_lay_7 rfl rfl rfl ?_
  refine g_getR (M := mX6_lay) (pc := 8) 11 dX6_lay_8 rfl fX6_13 oR28_1 ?_
  refine g_iload_n (M := mX6_lay) (pc := 11) 12 dX6_lay_11 rfl rfl rfl ?_
  refine g_iload_n (M := mX6_lay) (pc := 12) 13 dX6_lay_12 rfl rfl rfl ?_
  refine g_if_ne (M := mX6_lay) (pc := 13) 20 16 dX6_lay_13 (by decide) rfl (fun _ => ?_) (fun _ => ?_)
  · refine g_iload_n (M := mX6_lay) (pc := 20) 21 dX6_lay_20 rfl rfl rfl ?_
    refine g_iast (M := mX6_lay) (pc := 21) 22 dX6_lay_21 rfl oA30 (fun h2 => ?_)
    refine g_iconst (M := mX6_lay) (pc := 22) (v := 0) 23 dX6_lay_22 rfl ic0 ?_
    refine g_istore (M := mX6_lay) (pc := 23) (ls' := [some (aR 6 28), some (aI a1), some (aI a2), some (aI a3), some (aI 0)]) 25 dX6_lay_23 rfl rfl rfl ?_
    refine g_loop (fun s => SX6_lay_25_ok a1 h2 T s.1 s.2) ?_ (fun z => v_fgt [true, true, false, false, true] z)
    intro L4
    show VX mX6_lay 0 T _ 51 [some (aR 6 28), some (aI a1), none, none, none] [] h2 L4 _
    refine g_aload_n (M := mX6_lay) (pc := 51) 52 dX6_lay_51 rfl rfl rfl ?_
    refine g_getR (M := mX6_lay) (pc := 52) 55 dX6_lay_52 rfl fX6_13 oR28_1 ?_
    refine g_iload_n (M := mX6_lay) (pc := 55) 56 dX6_lay_55 rfl rfl rfl ?_
    refine g_iald (M := mX6_lay) (pc := 56) 57 dX6_lay_56 rfl oA30 ?_
    exact g_iret (M := mX6_lay) (pc := 57) dX6_lay_57 rfl rfl (fun z => z)
  · refine g_iconst (M := mX6_lay) (pc := 16) (v := 0) 17 dX6_lay_16 rfl ic0 ?_
    refine g_goto (M := mX6_lay) (pc := 17) 21 dX6_lay_17 (by decide) ?_
    refine g_iast (M := mX6_lay) (pc := 21) 22 dX6_lay_21 rfl oA30 (fun h5 => ?_)
    refine g_iconst (M := mX6_lay) (pc := 22) (v := 0) 23 dX6_lay_22 rfl ic0 ?_
    refine g_istore (M := mX6_lay) (pc := 23) (ls' := [some (aR 6 28), some (aI a1), some (aI a2), some (aI a3), some (aI 0)]) 25 dX6_lay_23 rfl rfl rfl ?_
    refine g_loop (fun s => SX6_lay_25_ok a1 h5 T s.1 s.2) ?_ (fun z => v_fgt [true, true, false, false, true] z)
    intro L6
    show VX mX6_lay 0 T _ 51 [some (aR 6 28), some (aI a1), none, none, none] [] h5 L6 _
    refine g_aload_n (M := mX6_lay) (pc := 51) 52 dX6_lay_51 rfl rfl rfl ?_
    refine g_getR (M := mX6_lay) (pc := 52) 55 dX6_lay_52 rfl fX6_13 oR28_1 ?_
    refine g_iload_n (M := mX6_lay) (pc := 55) 56 dX6_lay_55 rfl rfl rfl ?_
    refine g_iald (M := mX6_lay) (pc := 56) 57 dX6_lay_56 rfl oA30 ?_
    exact g_iret (M := mX6_lay) (pc := 57) dX6_lay_57 rfl rfl (fun z => z)
def FX6_cut (a0 : Int64) (a2 : Int32) : Option (Int64) :=
  if a2 = 8 then
    some (Int32.toInt64 (Int8.toInt32 (Int32.toInt8 (Int64.toInt32 a0))))
  else
    if a2 = 16 then
      some (Int32.toInt64 (Int16.toInt32 (Int32.toInt16 (Int64.toInt32 a0))))
    else
      some a0
set_option maxRecDepth 100000 in
set_option maxHeartbeats 4000000 in
theorem CX6_cut (a0 : Int64) (a2 : Int32) (h : HI) (L : HL) : CG mX6_cut 0 [aL a0, aI a2] h L (lfJ h L) (FX6_cut a0 a2) := by
  unfold FX6_cut
  refine cg_of [some (aL a0), none, some (aI a2)] rfl (by decide) rfl rfl (fun T => ?_)
  refine g_iload_n (M := mX6_cut) (pc := 0) 1 dX6_cut_0 rfl rfl rfl ?_
  refine g_bipush (M := mX6_cut) (pc := 1) (v := 8) 3 dX6_cut_1 rfl bp8 ?_
  refine g_icmp_ne (M := mX6_cut) (pc := 3) 11 6 dX6_cut_3 (by decide) rfl (fun _ => ?_) (fun _ => ?_)
  · refine g_iload_n (M := mX6_cut) (pc := 11) 12 dX6_cut_11 rfl rfl rfl ?_
    refine g_bipush (M := mX6_cut) (pc := 12) (v := 16) 14 dX6_cut_12 rfl bp16 ?_
    refine g_icmp_ne (M := mX6_cut) (pc := 14) 24 17 dX6_cut_14 (by decide) rfl (fun _ => ?_) (fun _ => ?_)
    · refine g_lload_n (M := mX6_cut) (pc := 24) 25 dX6_cut_24 rfl rfl rfl ?_
      exact g_lret (M := mX6_cut) (pc := 25) dX6_cut_25 rfl (fun z => z)
    · refine g_lload_n (M := mX6_cut) (pc := 17) 18 dX6_cut_17 rfl rfl rfl ?_
      refine g_l2i (M := mX6_cut) (pc := 18) 19 dX6_cut_18 rfl ?_
      refine g_i2s (M := mX6_cut) (pc := 19) 20 dX6_cut_19 rfl ?_
      refine g_i2l (M := mX6_cut) (pc := 20) 21 dX6_cut_20 rfl ?_
      refine g_goto (M := mX6_cut) (pc := 21) 25 dX6_cut_21 (by decide) ?_
      exact g_lret (M := mX6_cut) (pc := 25) dX6_cut_25 rfl (fun z => z)
  · refine g_lload_n (M := mX6_cut) (pc := 6) 7 dX6_cut_6 rfl rfl rfl ?_
    refine g_l2i (M := mX6_cut) (pc := 7) 8 dX6_cut_7 rfl ?_
    refine g_i2b (M := mX6_cut) (pc := 8) 9 dX6_cut_8 rfl ?_
    refine g_i2l (M := mX6_cut) (pc := 9) 10 dX6_cut_9 rfl ?_
    exact g_lret (M := mX6_cut) (pc := 10) dX6_cut_10 rfl (fun z => z)
def FX6_replace (a1 : Int32) (a2 : Int32) (a3 : Int64) (h : HI) (L : HL) : Option (Int64 × HL) :=
  Option.bind (FX6_at a1 a2 L) fun r1 =>
  gd (ixb a1 4) <|
  Option.bind (FX6_cut a3 (h 6 29 (nC a1))) fun r2 =>
  gd (ixb ((a1 * 40) + a2) 160) <|
  nm (lP1 L 6 31 (nC ((a1 * 40) + a2)) r2) fun L3 =>
  some (r1, L3)
set_option maxRecDepth 100000 in
set_option maxHeartbeats 4000000 in
theorem CX6_replace (a1 : Int32) (a2 : Int32) (a3 : Int64) (h : HI) (L : HL) : CG mX6_replace 1 [aR 6 28, aI a1, aI a2, aL a3] h L (lfJL h) (FX6_replace a1 a2 a3 h L) := by
  unfold FX6_replace
  refine cg_of [some (aR 6 28), some (aI a1), some (aI a2), some (aL a3), none, none, none] rfl (by decide) rfl rfl (fun T => ?_)
  refine g_aload_n (M := mX6_replace) (pc := 0) 1 dX6_replace_0 rfl rfl rfl ?_
  refine g_iload_n (M := mX6_replace) (pc := 1) 2 dX6_replace_1 rfl rfl rfl ?_
  refine g_iload_n (M := mX6_replace) (pc := 2) 3 dX6_replace_2 rfl rfl rfl ?_
  refine g_cV_J (M := mX6_replace) (pc := 3) (M' := mX6_at) (rest := []) 6 dX6_replace_3 rfl kX6_20 okX6_at (CX6_at a1 a2 h L) oO28 rfl rfl rfl rfl (fun r1 => ?_)
  refine g_lstore (M := mX6_replace) (pc := 6) (ls' := [some (aR 6 28), some (aI a1), some (aI a2), some (aL a3), none, some (aL r1), none]) 8 dX6_replace_6 rfl rfl rfl ?_
  refine g_aload_n (M := mX6_replace) (pc := 8) 9 dX6_replace_8 rfl rfl rfl ?_
  refine g_getR (M := mX6_replace) (pc := 9) 12 dX6_replace_9 rfl fX6_16 oR28_2 ?_
  refine g_iload_n (M := mX6_replace) (pc := 12) 13 dX6_replace_12 rfl rfl rfl ?_
  refine g_bipush (M := mX6_replace) (pc := 13) (v := 40) 15 dX6_replace_13 rfl bp40 ?_
  refine g_imul (M := mX6_replace) (pc := 15) 16 dX6_replace_15 rfl ?_
  refine g_iload_n (M := mX6_replace) (pc := 16) 17 dX6_replace_16 rfl rfl rfl ?_
  refine g_iadd (M := mX6_replace) (pc := 17) 18 dX6_replace_17 rfl ?_
  refine g_lload_n (M := mX6_replace) (pc := 18) 19 dX6_replace_18 rfl rfl rfl ?_
  refine g_aload_n (M := mX6_replace) (pc := 19) 20 dX6_replace_19 rfl rfl rfl ?_
  refine g_getR (M := mX6_replace) (pc := 20) 23 dX6_replace_20 rfl fX6_9 oR28_0 ?_
  refine g_iload_n (M := mX6_replace) (pc := 23) 24 dX6_replace_23 rfl rfl rfl ?_
  refine g_iald (M := mX6_replace) (pc := 24) 25 dX6_replace_24 rfl oA29 ?_
  refine g_cS_J (M := mX6_replace) (pc := 25) (M' := mX6_cut) (rest := [aI ((a1 * 40) + a2), aR 6 31]) 28 dX6_replace_25 rfl kX6_24 okX6_cut (CX6_cut a3 (h 6 29 (nC a1)) h L) rfl rfl rfl rfl (fun r2 => ?_)
  refine g_last (M := mX6_replace) (pc := 28) 29 dX6_replace_28 rfl oA31 (fun L3 => ?_)
  refine g_lload (M := mX6_replace) (pc := 29) 31 dX6_replace_29 rfl rfl ?_
  exact g_lret (M := mX6_replace) (pc := 31) dX6_replace_31 rfl (fun z => z)
def FX6_move (a1 : Int32) (a2 : Int32) (a3 : Int32) (a4 : Int32) (a5 : Int32) (L : HL) : Option (HL) :=
  gd (cpb ((a1 * 40) + a2) ((a3 * 40) + a4) a5 160 160) <|
  nm (lPF L 6 31 (va_cpy (L 6 31) (L 6 31) (nC ((a1 * 40) + a2)) (nC ((a3 * 40) + a4)) (nC a5))) fun L1 =>
  some L1
set_option maxRecDepth 100000 in
set_option maxHeartbeats 4000000 in
theorem CX6_move (a1 : Int32) (a2 : Int32) (a3 : Int32) (a4 : Int32) (a5 : Int32) (h : HI) (L : HL) : CG mX6_move 1 [aR 6 28, aI a1, aI a2, aI a3, aI a4, aI a5] h L (lfVL h) (FX6_move a1 a2 a3 a4 a5 L) := by
  unfold FX6_move
  refine cg_of [some (aR 6 28), some (aI a1), some (aI a2), some (aI a3), some (aI a4), some (aI a5)] rfl (by decide) rfl rfl (fun T => ?_)
  refine g_aload_n (M := mX6_move) (pc := 0) 1 dX6_move_0 rfl rfl rfl ?_
  refine g_getR (M := mX6_move) (pc := 1) 4 dX6_move_1 rfl fX6_16 oR28_2 ?_
  refine g_iload_n (M := mX6_move) (pc := 4) 5 dX6_move_4 rfl rfl rfl ?_
  refine g_bipush (M := mX6_move) (pc := 5) (v := 40) 7 dX6_move_5 rfl bp40 ?_
  refine g_imul (M := mX6_move) (pc := 7) 8 dX6_move_7 rfl ?_
  refine g_iload_n (M := mX6_move) (pc := 8) 9 dX6_move_8 rfl rfl rfl ?_
  refine g_iadd (M := mX6_move) (pc := 9) 10 dX6_move_9 rfl ?_
  refine g_aload_n (M := mX6_move) (pc := 10) 11 dX6_move_10 rfl rfl rfl ?_
  refine g_getR (M := mX6_move) (pc := 11) 14 dX6_move_11 rfl fX6_16 oR28_2 ?_
  refine g_iload_n (M := mX6_move) (pc := 14) 15 dX6_move_14 rfl rfl rfl ?_
  refine g_bipush (M := mX6_move) (pc := 15) (v := 40) 17 dX6_move_15 rfl bp40 ?_
  refine g_imul (M := mX6_move) (pc := 17) 18 dX6_move_17 rfl ?_
  refine g_iload (M := mX6_move) (pc := 18) 20 dX6_move_18 rfl rfl ?_
  refine g_iadd (M := mX6_move) (pc := 20) 21 dX6_move_20 rfl ?_
  refine g_iload (M := mX6_move) (pc := 21) 23 dX6_move_21 rfl rfl ?_
  refine g_acpyL (M := mX6_move) (pc := 23) 26 dX6_move_23 rfl kX6_28 oA31 oA31 rfl rfl (fun L1 => ?_)
  exact g_vret (M := mX6_move) (pc := 26) dX6_move_26 rfl (fun z => z)
def FX7_hasRoom (a1 : Int32) (h : HI) : Option (Int32) :=
  if 120 < ((h 5 26 1) + a1) then
    some 0
  else
    some 1
set_option maxRecDepth 100000 in
set_option maxHeartbeats 4000000 in
theorem CX7_hasRoom (a1 : Int32) (h : HI) (L : HL) : CG mX7_hasRoom 0 [aR 5 26, aI a1] h L (lfI h L) (FX7_hasRoom a1 h) := by
  unfold FX7_hasRoom
  refine cg_of [some (aR 5 26), some (aI a1)] rfl (by decide) rfl rfl (fun T => ?_)
  refine g_aload_n (M := mX7_hasRoom) (pc := 0) 1 dX7_hasRoom_0 rfl rfl rfl ?_
  refine g_getI (M := mX7_hasRoom) (pc := 1) 4 dX7_hasRoom_1 rfl fX7_13 oF26_1 ?_
  refine g_iload_n (M := mX7_hasRoom) (pc := 4) 5 dX7_hasRoom_4 rfl rfl rfl ?_
  refine g_iadd (M := mX7_hasRoom) (pc := 5) 6 dX7_hasRoom_5 rfl ?_
  refine g_bipush (M := mX7_hasRoom) (pc := 6) (v := 120) 8 dX7_hasRoom_6 rfl bp120 ?_
  refine g_icmp_gt (M := mX7_hasRoom) (pc := 8) 15 11 dX7_hasRoom_8 (by decide) rfl (fun _ => ?_) (fun _ => ?_)
  · refine g_iconst (M := mX7_hasRoom) (pc := 15) (v := 0) 16 dX7_hasRoom_15 rfl ic0 ?_
    exact g_iret (M := mX7_hasRoom) (pc := 16) dX7_hasRoom_16 rfl nz0 (fun z => z)
  · refine g_iconst (M := mX7_hasRoom) (pc := 11) (v := 1) 12 dX7_hasRoom_11 rfl ic1 ?_
    refine g_goto (M := mX7_hasRoom) (pc := 12) 16 dX7_hasRoom_12 (by decide) ?_
    exact g_iret (M := mX7_hasRoom) (pc := 16) dX7_hasRoom_16 rfl nz1 (fun z => z)
def FX7_append (a1 : Int32) (h : HI) : Option (HI) :=
  if 120 ≤ (h 5 26 1) then
    some h
  else
    gd (ixb (h 5 26 1) 120) <|
    nm (hP1 h 5 27 (nC (h 5 26 1)) a1) fun h1 =>
    nm (hP1 h1 5 26 1 ((h1 5 26 1) + 1)) fun h2 =>
    some h2
set_option maxRecDepth 100000 in
set_option maxHeartbeats 4000000 in
theorem CX7_append (a1 : Int32) (h : HI) (L : HL) : CG mX7_append 0 [aR 5 26, aI a1] h L (lfVH L) (FX7_append a1 h) := by
  unfold FX7_append
  refine cg_of [some (aR 5 26), some (aI a1)] rfl (by decide) rfl rfl (fun T => ?_)
  refine g_aload_n (M := mX7_append) (pc := 0) 1 dX7_append_0 rfl rfl rfl ?_
  refine g_getI (M := mX7_append) (pc := 1) 4 dX7_append_1 rfl fX7_13 oF26_1 ?_
  refine g_bipush (M := mX7_append) (pc := 4) (v := 120) 6 dX7_append_4 rfl bp120 ?_
  refine g_icmp_ge (M := mX7_append) (pc := 6) 29 9 dX7_append_6 (by decide) rfl (fun _ => ?_) (fun _ => ?_)
  · exact g_vret (M := mX7_append) (pc := 29) dX7_append_29 rfl (fun z => z)
  · refine g_aload_n (M := mX7_append) (pc := 9) 10 dX7_append_9 rfl rfl rfl ?_
    refine g_getR (M := mX7_append) (pc := 10) 13 dX7_append_10 rfl fX7_9 oR26_0 ?_
    refine g_aload_n (M := mX7_append) (pc := 13) 14 dX7_append_13 rfl rfl rfl ?_
    refine g_getI (M := mX7_append) (pc := 14) 17 dX7_append_14 rfl fX7_13 oF26_1 ?_
    refine g_iload_n (M := mX7_append) (pc := 17) 18 dX7_append_17 rfl rfl rfl ?_
    refine g_iast (M := mX7_append) (pc := 18) 19 dX7_append_18 rfl oA27 (fun h1 => ?_)
    refine g_aload_n (M := mX7_append) (pc := 19) 20 dX7_append_19 rfl rfl rfl ?_
    refine g_dup (M := mX7_append) (pc := 20) 21 dX7_append_20 rfl rfl ?_
    refine g_getI (M := mX7_append) (pc := 21) 24 dX7_append_21 rfl fX7_13 oF26_1 ?_
    refine g_iconst (M := mX7_append) (pc := 24) (v := 1) 25 dX7_append_24 rfl ic1 ?_
    refine g_iadd (M := mX7_append) (pc := 25) 26 dX7_append_25 rfl ?_
    refine g_put (M := mX7_append) (pc := 26) 29 dX7_append_26 rfl pX7_13 oF26_1 rfl rfl (fun h2 => ?_)
    exact g_vret (M := mX7_append) (pc := 29) dX7_append_29 rfl (fun z => z)
def FX7_clear (h : HI) : Option (Int32 × HI) :=
  nm (h 5 26 1) fun t1 =>
  nm (hP1 h 5 26 1 0) fun h2 =>
  some (t1, h2)
set_option maxRecDepth 100000 in
set_option maxHeartbeats 4000000 in
theorem CX7_clear (h : HI) (L : HL) : CG mX7_clear 0 [aR 5 26] h L (lfIH L) (FX7_clear h) := by
  unfold FX7_clear
  refine cg_of [some (aR 5 26), none] rfl (by decide) rfl rfl (fun T => ?_)
  refine g_aload_n (M := mX7_clear) (pc := 0) 1 dX7_clear_0 rfl rfl rfl ?_
  refine g_getI (M := mX7_clear) (pc := 1) 4 dX7_clear_1 rfl fX7_13 oF26_1 ?_
  refine g_nmI (fun t1 => ?_)
  refine g_istore_n (M := mX7_clear) (pc := 4) (ls' := [some (aR 5 26), some (aI t1)]) 5 dX7_clear_4 rfl rfl rfl rfl ?_
  refine g_aload_n (M := mX7_clear) (pc := 5) 6 dX7_clear_5 rfl rfl rfl ?_
  refine g_iconst (M := mX7_clear) (pc := 6) (v := 0) 7 dX7_clear_6 rfl ic0 ?_
  refine g_put (M := mX7_clear) (pc := 7) 10 dX7_clear_7 rfl pX7_13 oF26_1 rfl rfl (fun h2 => ?_)
  refine g_iload_n (M := mX7_clear) (pc := 10) 11 dX7_clear_10 rfl rfl rfl ?_
  exact g_iret (M := mX7_clear) (pc := 11) dX7_clear_11 rfl rfl (fun z => z)
def FX8_row (g : Nat) (a1 : Int32) : Option (Nat) :=
  if a1 = 0 then
    some 9
  else
  if a1 = 1 then
    some 10
  else
  if a1 = 2 then
    some 11
  else
  if a1 = 3 then
    some 12
  else
  some 13
set_option maxRecDepth 100000 in
set_option maxHeartbeats 4000000 in
theorem CX8_row (g : Nat) (hg : g < 3) (a1 : Int32) (h : HI) (L : HL) : CG mX8_row 0 [aR g 8, aI a1] h L (lfR g h L) (FX8_row g a1) := by
  unfold FX8_row
  refine cg_of [some (aR g 8), some (aI a1)] rfl (by decide) rfl rfl (fun T => ?_)
  refine g_iload_n (M := mX8_row) (pc := 0) 1 dX8_row_0 rfl rfl rfl ?_
  refine g_tsc (M := mX8_row) (pc := 1) (v := 0) 32 dX8_row_1 (by decide) (by decide) rfl (by decide) (fun _ => ?_) (fun z0 => ?_)
  · refine g_aload_n (M := mX8_row) (pc := 32) 33 dX8_row_32 rfl rfl rfl ?_
    refine g_getR (M := mX8_row) (pc := 33) 36 dX8_row_33 rfl fX8_9 (oR8_0 hg) ?_
    exact g_aret (M := mX8_row) (pc := 36) dX8_row_36 rfl (fun z => z)
  refine g_tsc (M := mX8_row) (pc := 1) (v := 1) 37 dX8_row_1 (by decide) (by decide) rfl (by decide) (fun _ => ?_) (fun z1 => ?_)
  · refine g_aload_n (M := mX8_row) (pc := 37) 38 dX8_row_37 rfl rfl rfl ?_
    refine g_getR (M := mX8_row) (pc := 38) 41 dX8_row_38 rfl fX8_15 (oR8_1 hg) ?_
    exact g_aret (M := mX8_row) (pc := 41) dX8_row_41 rfl (fun z => z)
  refine g_tsc (M := mX8_row) (pc := 1) (v := 2) 42 dX8_row_1 (by decide) (by decide) rfl (by decide) (fun _ => ?_) (fun z2 => ?_)
  · refine g_aload_n (M := mX8_row) (pc := 42) 43 dX8_row_42 rfl rfl rfl ?_
    refine g_getR (M := mX8_row) (pc := 43) 46 dX8_row_43 rfl fX8_18 (oR8_2 hg) ?_
    exact g_aret (M := mX8_row) (pc := 46) dX8_row_46 rfl (fun z => z)
  refine g_tsc (M := mX8_row) (pc := 1) (v := 3) 47 dX8_row_1 (by decide) (by decide) rfl (by decide) (fun _ => ?_) (fun z3 => ?_)
  · refine g_aload_n (M := mX8_row) (pc := 47) 48 dX8_row_47 rfl rfl rfl ?_
    refine g_getR (M := mX8_row) (pc := 48) 51 dX8_row_48 rfl fX8_21 (oR8_3 hg) ?_
    exact g_aret (M := mX8_row) (pc := 51) dX8_row_51 rfl (fun z => z)
  refine g_tsOut (M := mX8_row) (pc := 1) 52 dX8_row_1 (by have y0 := lv_neT z0 (a := 0) rfl; have y1 := lv_neT z1 (a := 1) rfl; have y2 := lv_neT z2 (a := 2) rfl; have y3 := lv_neT z3 (a := 3) rfl; omega) (by decide) ?_
  refine g_aload_n (M := mX8_row) (pc := 52) 53 dX8_row_52 rfl rfl rfl ?_
  refine g_getR (M := mX8_row) (pc := 53) 56 dX8_row_53 rfl fX8_24 (oR8_4 hg) ?_
  exact g_aret (M := mX8_row) (pc := 56) dX8_row_56 rfl (fun z => z)
def FX8_mayChange (g : Nat) (a1 : Int32) (a2 : Int32) (h : HI) : Option (Int32) :=
  if a1 < 1 then
    some 0
  else
    if 5 ≤ a1 then
      some 0
    else
      gd (ixb a1 5) <|
      Option.bind (FX9_within a2 0 (([9, 99, 99, 1, 1] : List Int32).getD (nC a1) 0)) fun r1 =>
      if r1 = 0 then
        some 0
      else
        some 1
set_option maxRecDepth 100000 in
set_option maxHeartbeats 4000000 in
theorem CX8_mayChange (g : Nat) (hg : g < 3) (a1 : Int32) (a2 : Int32) (h : HI) (L : HL) : CG mX8_mayChange 1 [aR g 8, aI a1, aI a2] h L (lfI h L) (FX8_mayChange g a1 a2 h) := by
  unfold FX8_mayChange
  refine cg_of [some (aR g 8), some (aI a1), some (aI a2)] rfl (by decide) rfl rfl (fun T => ?_)
  refine g_iload_n (M := mX8_mayChange) (pc := 0) 1 dX8_mayChange_0 rfl rfl rfl ?_
  refine g_iconst (M := mX8_mayChange) (pc := 1) (v := 1) 2 dX8_mayChange_1 rfl ic1 ?_
  refine g_icmp_lt (M := mX8_mayChange) (pc := 2) 30 5 dX8_mayChange_2 (by decide) rfl (fun _ => ?_) (fun _ => ?_)
  · refine g_iconst (M := mX8_mayChange) (pc := 30) (v := 0) 31 dX8_mayChange_30 rfl ic0 ?_
    exact g_iret (M := mX8_mayChange) (pc := 31) dX8_mayChange_31 rfl nz0 (fun z => z)
  · refine g_iload_n (M := mX8_mayChange) (pc := 5) 6 dX8_mayChange_5 rfl rfl rfl ?_
    refine g_gets (M := mX8_mayChange) (pc := 6) (j := 3) 9 dX8_mayChange_6 rfl sX8_31 rfl ?_
    refine g_slen (M := mX8_mayChange) (pc := 9) (v := 5) 10 dX8_mayChange_9 rfl rfl rfl ?_
    refine g_icmp_ge (M := mX8_mayChange) (pc := 10) 30 13 dX8_mayChange_10 (by decide) rfl (fun _ => ?_) (fun _ => ?_)
    · refine g_iconst (M := mX8_mayChange) (pc := 30) (v := 0) 31 dX8_mayChange_30 rfl ic0 ?_
      exact g_iret (M := mX8_mayChange) (pc := 31) dX8_mayChange_31 rfl nz0 (fun z => z)
    · refine g_iload_n (M := mX8_mayChange) (pc := 13) 14 dX8_mayChange_13 rfl rfl rfl ?_
      refine g_iconst (M := mX8_mayChange) (pc := 14) (v := 0) 15 dX8_mayChange_14 rfl ic0 ?_
      refine g_gets (M := mX8_mayChange) (pc := 15) (j := 3) 18 dX8_mayChange_15 rfl sX8_31 rfl ?_
      refine g_iload_n (M := mX8_mayChange) (pc := 18) 19 dX8_mayChange_18 rfl rfl rfl ?_
      refine g_sald (M := mX8_mayChange) (pc := 19) (n := 5) 20 dX8_mayChange_19 rfl rfl rfl ?_
      refine g_cN_I (M := mX8_mayChange) (pc := 20) (M' := mX9_within) (rest := []) 23 dX8_mayChange_20 rfl nX8_34 okX9_within (CX9_within a2 0 (([9, 99, 99, 1, 1] : List Int32).getD (nC a1) 0) h L) rfl rfl rfl rfl (fun r1 => ?_)
      refine g_if_eq (M := mX8_mayChange) (pc := 23) 30 26 dX8_mayChange_23 (by decide) rfl (fun _ => ?_) (fun _ => ?_)
      · refine g_iconst (M := mX8_mayChange) (pc := 30) (v := 0) 31 dX8_mayChange_30 rfl ic0 ?_
        exact g_iret (M := mX8_mayChange) (pc := 31) dX8_mayChange_31 rfl nz0 (fun z => z)
      · refine g_iconst (M := mX8_mayChange) (pc := 26) (v := 1) 27 dX8_mayChange_26 rfl ic1 ?_
        refine g_goto (M := mX8_mayChange) (pc := 27) 31 dX8_mayChange_27 (by decide) ?_
        exact g_iret (M := mX8_mayChange) (pc := 31) dX8_mayChange_31 rfl nz1 (fun z => z)
def FX9_tell (a1 : Int32) (h : HI) : Option (Int32 × HI) :=
  nm ((-1000000001) - a1) fun t1 =>
  if t1 < 0 then
    some (a1, h)
  else
    if 7 ≤ t1 then
      some (a1, h)
    else
      gd (ixb t1 7) <|
      gd (ixb t1 7) <|
      nm (hP1 h 3 17 (nC t1) ((h 3 17 (nC t1)) + 1)) fun h2 =>
      some (a1, h2)
set_option maxRecDepth 100000 in
set_option maxHeartbeats 4000000 in
theorem CX9_tell (a1 : Int32) (h : HI) (L : HL) : CG mX9_tell 0 [aR 3 16, aI a1] h L (lfIH L) (FX9_tell a1 h) := by
  unfold FX9_tell
  refine cg_of [some (aR 3 16), some (aI a1), none] rfl (by decide) rfl rfl (fun T => ?_)
  refine g_ldc (M := mX9_tell) (pc := 0) 2 dX9_tell_0 rfl cX9_59 ?_
  refine g_iload_n (M := mX9_tell) (pc := 2) 3 dX9_tell_2 rfl rfl rfl ?_
  refine g_isub (M := mX9_tell) (pc := 3) 4 dX9_tell_3 rfl ?_
  refine g_nmI (fun t1 => ?_)
  refine g_istore_n (M := mX9_tell) (pc := 4) (ls' := [some (aR 3 16), some (aI a1), some (aI t1)]) 5 dX9_tell_4 rfl rfl rfl rfl ?_
  refine g_iload_n (M := mX9_tell) (pc := 5) 6 dX9_tell_5 rfl rfl rfl ?_
  refine g_if_lt (M := mX9_tell) (pc := 6) 25 9 dX9_tell_6 (by decide) rfl (fun _ => ?_) (fun _ => ?_)
  · refine g_iload_n (M := mX9_tell) (pc := 25) 26 dX9_tell_25 rfl rfl rfl ?_
    exact g_iret (M := mX9_tell) (pc := 26) dX9_tell_26 rfl rfl (fun z => z)
  · refine g_iload_n (M := mX9_tell) (pc := 9) 10 dX9_tell_9 rfl rfl rfl ?_
    refine g_bipush (M := mX9_tell) (pc := 10) (v := 7) 12 dX9_tell_10 rfl bp7 ?_
    refine g_icmp_ge (M := mX9_tell) (pc := 12) 25 15 dX9_tell_12 (by decide) rfl (fun _ => ?_) (fun _ => ?_)
    · refine g_iload_n (M := mX9_tell) (pc := 25) 26 dX9_tell_25 rfl rfl rfl ?_
      exact g_iret (M := mX9_tell) (pc := 26) dX9_tell_26 rfl rfl (fun z => z)
    · refine g_aload_n (M := mX9_tell) (pc := 15) 16 dX9_tell_15 rfl rfl rfl ?_
      refine g_getR (M := mX9_tell) (pc := 16) 19 dX9_tell_16 rfl fX9_9 oR16_0 ?_
      refine g_iload_n (M := mX9_tell) (pc := 19) 20 dX9_tell_19 rfl rfl rfl ?_
      refine g_dup2 (M := mX9_tell) (pc := 20) 21 dX9_tell_20 rfl rfl rfl ?_
      refine g_iald (M := mX9_tell) (pc := 21) 22 dX9_tell_21 rfl oA17 ?_
      refine g_iconst (M := mX9_tell) (pc := 22) (v := 1) 23 dX9_tell_22 rfl ic1 ?_
      refine g_iadd (M := mX9_tell) (pc := 23) 24 dX9_tell_23 rfl ?_
      refine g_iast (M := mX9_tell) (pc := 24) 25 dX9_tell_24 rfl oA17 (fun h2 => ?_)
      refine g_iload_n (M := mX9_tell) (pc := 25) 26 dX9_tell_25 rfl rfl rfl ?_
      exact g_iret (M := mX9_tell) (pc := 26) dX9_tell_26 rfl rfl (fun z => z)
def FX9_phrase (a1 : Int32) (a2 : Int32) (a3 : Int32) (a4 : Int32) (h : HI) : Option (Int32 × HI) :=
  Option.bind (FX9_within a1 0 5) fun r1 =>
  if r1 = 0 then
    Option.bind (FX9_tell (-1000000001) h) fun (r2, h3) =>
    some (r2, h3)
  else
    Option.bind (FX9_within a2 0 9) fun r4 =>
    if r4 = 0 then
      Option.bind (FX9_tell (-1000000001) h) fun (r5, h6) =>
      some (r5, h6)
    else
      Option.bind (FX9_within a3 1 60) fun r7 =>
      if r7 = 0 then
        Option.bind (FX9_tell (-1000000001) h) fun (r8, h9) =>
        some (r8, h9)
      else
        Option.bind (FX9_within a4 0 10) fun r10 =>
        if r10 = 0 then
          Option.bind (FX9_tell (-1000000001) h) fun (r16, h17) =>
          some (r16, h17)
        else
          Option.bind (FX5_isFull 0 h) fun r11 =>
          if r11 = 0 then
            Option.bind (FX5_add 0 a1 a2 a3 a4 h) fun (r12, h13) =>
            some (r12, h13)
          else
            Option.bind (FX9_tell (-1000000002) h) fun (r14, h15) =>
            some (r14, h15)
set_option maxRecDepth 100000 in
set_option maxHeartbeats 4000000 in
theorem CX9_phrase (a1 : Int32) (a2 : Int32) (a3 : Int32) (a4 : Int32) (h : HI) (L : HL) : CG mX9_phrase 1 [aR 3 16, aI a1, aI a2, aI a3, aI a4] h L (lfIH L) (FX9_phrase a1 a2 a3 a4 h) := by
  unfold FX9_phrase
  refine cg_of [some (aR 3 16), some (aI a1), some (aI a2), some (aI a3), some (aI a4)] rfl (by decide) rfl rfl (fun T => ?_)
  refine g_iload_n (M := mX9_phrase) (pc := 0) 1 dX9_phrase_0 rfl rfl rfl ?_
  refine g_iconst (M := mX9_phrase) (pc := 1) (v := 0) 2 dX9_phrase_1 rfl ic0 ?_
  refine g_iconst (M := mX9_phrase) (pc := 2) (v := 5) 3 dX9_phrase_2 rfl ic5 ?_
  refine g_cS_I (M := mX9_phrase) (pc := 3) (M' := mX9_within) (rest := []) 6 dX9_phrase_3 rfl kX9_55 okX9_within (CX9_within a1 0 5 h L) rfl rfl rfl rfl (fun r1 => ?_)
  refine g_if_eq (M := mX9_phrase) (pc := 6) 40 9 dX9_phrase_6 (by decide) rfl (fun _ => ?_) (fun _ => ?_)
  · refine g_aload_n (M := mX9_phrase) (pc := 40) 41 dX9_phrase_40 rfl rfl rfl ?_
    refine g_ldc (M := mX9_phrase) (pc := 41) 43 dX9_phrase_41 rfl cX9_59 ?_
    refine g_cV_IH (M := mX9_phrase) (pc := 43) (M' := mX9_tell) (rest := []) 46 dX9_phrase_43 rfl kX9_60 okX9_tell (CX9_tell (-1000000001) h L) oO16 rfl rfl rfl rfl (fun r2 h3 => ?_)
    exact g_iret (M := mX9_phrase) (pc := 46) dX9_phrase_46 rfl rfl (fun z => z)
  · refine g_iload_n (M := mX9_phrase) (pc := 9) 10 dX9_phrase_9 rfl rfl rfl ?_
    refine g_iconst (M := mX9_phrase) (pc := 10) (v := 0) 11 dX9_phrase_10 rfl ic0 ?_
    refine g_bipush (M := mX9_phrase) (pc := 11) (v := 9) 13 dX9_phrase_11 rfl bp9 ?_
    refine g_cS_I (M := mX9_phrase) (pc := 13) (M' := mX9_within) (rest := []) 16 dX9_phrase_13 rfl kX9_55 okX9_within (CX9_within a2 0 9 h L) rfl rfl rfl rfl (fun r4 => ?_)
    refine g_if_eq (M := mX9_phrase) (pc := 16) 40 19 dX9_phrase_16 (by decide) rfl (fun _ => ?_) (fun _ => ?_)
    · refine g_aload_n (M := mX9_phrase) (pc := 40) 41 dX9_phrase_40 rfl rfl rfl ?_
      refine g_ldc (M := mX9_phrase) (pc := 41) 43 dX9_phrase_41 rfl cX9_59 ?_
      refine g_cV_IH (M := mX9_phrase) (pc := 43) (M' := mX9_tell) (rest := []) 46 dX9_phrase_43 rfl kX9_60 okX9_tell (CX9_tell (-1000000001) h L) oO16 rfl rfl rfl rfl (fun r5 h6 => ?_)
      exact g_iret (M := mX9_phrase) (pc := 46) dX9_phrase_46 rfl rfl (fun z => z)
    · refine g_iload_n (M := mX9_phrase) (pc := 19) 20 dX9_phrase_19 rfl rfl rfl ?_
      refine g_iconst (M := mX9_phrase) (pc := 20) (v := 1) 21 dX9_phrase_20 rfl ic1 ?_
      refine g_bipush (M := mX9_phrase) (pc := 21) (v := 60) 23 dX9_phrase_21 rfl bp60 ?_
      refine g_cS_I (M := mX9_phrase) (pc := 23) (M' := mX9_within) (rest := []) 26 dX9_phrase_23 rfl kX9_55 okX9_within (CX9_within a3 1 60 h L) rfl rfl rfl rfl (fun r7 => ?_)
      refine g_if_eq (M := mX9_phrase) (pc := 26) 40 29 dX9_phrase_26 (by decide) rfl (fun _ => ?_) (fun _ => ?_)
      · refine g_aload_n (M := mX9_phrase) (pc := 40) 41 dX9_phrase_40 rfl rfl rfl ?_
        refine g_ldc (M := mX9_phrase) (pc := 41) 43 dX9_phrase_41 rfl cX9_59 ?_
        refine g_cV_IH (M := mX9_phrase) (pc := 43) (M' := mX9_tell) (rest := []) 46 dX9_phrase_43 rfl kX9_60 okX9_tell (CX9_tell (-1000000001) h L) oO16 rfl rfl rfl rfl (fun r8 h9 => ?_)
        exact g_iret (M := mX9_phrase) (pc := 46) dX9_phrase_46 rfl rfl (fun z => z)
      · refine g_iload (M := mX9_phrase) (pc := 29) 31 dX9_phrase_29 rfl rfl ?_
        refine g_iconst (M := mX9_phrase) (pc := 31) (v := 0) 32 dX9_phrase_31 rfl ic0 ?_
        refine g_bipush (M := mX9_phrase) (pc := 32) (v := 10) 34 dX9_phrase_32 rfl bp10 ?_
        refine g_cS_I (M := mX9_phrase) (pc := 34) (M' := mX9_within) (rest := []) 37 dX9_phrase_34 rfl kX9_55 okX9_within (CX9_within a4 0 10 h L) rfl rfl rfl rfl (fun r10 => ?_)
        refine g_if_ne (M := mX9_phrase) (pc := 37) 47 40 dX9_phrase_37 (by decide) rfl (fun _ => ?_) (fun _ => ?_)
        · refine g_aload_n (M := mX9_phrase) (pc := 47) 48 dX9_phrase_47 rfl rfl rfl ?_
          refine g_getR (M := mX9_phrase) (pc := 48) 51 dX9_phrase_48 rfl fX9_16 oR16_1 ?_
          refine g_getR (M := mX9_phrase) (pc := 51) 54 dX9_phrase_51 rfl fX9_64 (oR0_0 (by decide)) ?_
          refine g_cV_I (M := mX9_phrase) (pc := 54) (M' := mX5_isFull) (rest := []) 57 dX9_phrase_54 rfl kX9_68 okX5_isFull (CX5_isFull 0 (by decide) h L) (oO1 (by decide)) rfl rfl rfl rfl (fun r11 => ?_)
          refine g_if_eq (M := mX9_phrase) (pc := 57) 67 60 dX9_phrase_57 (by decide) rfl (fun _ => ?_) (fun _ => ?_)
          · refine g_aload_n (M := mX9_phrase) (pc := 67) 68 dX9_phrase_67 rfl rfl rfl ?_
            refine g_getR (M := mX9_phrase) (pc := 68) 71 dX9_phrase_68 rfl fX9_16 oR16_1 ?_
            refine g_getR (M := mX9_phrase) (pc := 71) 74 dX9_phrase_71 rfl fX9_64 (oR0_0 (by decide)) ?_
            refine g_iload_n (M := mX9_phrase) (pc := 74) 75 dX9_phrase_74 rfl rfl rfl ?_
            refine g_iload_n (M := mX9_phrase) (pc := 75) 76 dX9_phrase_75 rfl rfl rfl ?_
            refine g_iload_n (M := mX9_phrase) (pc := 76) 77 dX9_phrase_76 rfl rfl rfl ?_
            refine g_iload (M := mX9_phrase) (pc := 77) 79 dX9_phrase_77 rfl rfl ?_
            refine g_cV_IH (M := mX9_phrase) (pc := 79) (M' := mX5_add) (rest := []) 82 dX9_phrase_79 rfl kX9_75 okX5_add (CX5_add 0 (by decide) a1 a2 a3 a4 h L) (oO1 (by decide)) rfl rfl rfl rfl (fun r12 h13 => ?_)
            exact g_iret (M := mX9_phrase) (pc := 82) dX9_phrase_82 rfl rfl (fun z => z)
          · refine g_aload_n (M := mX9_phrase) (pc := 60) 61 dX9_phrase_60 rfl rfl rfl ?_
            refine g_ldc (M := mX9_phrase) (pc := 61) 63 dX9_phrase_61 rfl cX9_74 ?_
            refine g_cV_IH (M := mX9_phrase) (pc := 63) (M' := mX9_tell) (rest := []) 66 dX9_phrase_63 rfl kX9_60 okX9_tell (CX9_tell (-1000000002) h L) oO16 rfl rfl rfl rfl (fun r14 h15 => ?_)
            exact g_iret (M := mX9_phrase) (pc := 66) dX9_phrase_66 rfl rfl (fun z => z)
        · refine g_aload_n (M := mX9_phrase) (pc := 40) 41 dX9_phrase_40 rfl rfl rfl ?_
          refine g_ldc (M := mX9_phrase) (pc := 41) 43 dX9_phrase_41 rfl cX9_59 ?_
          refine g_cV_IH (M := mX9_phrase) (pc := 43) (M' := mX9_tell) (rest := []) 46 dX9_phrase_43 rfl kX9_60 okX9_tell (CX9_tell (-1000000001) h L) oO16 rfl rfl rfl rfl (fun r16 h17 => ?_)
          exact g_iret (M := mX9_phrase) (pc := 46) dX9_phrase_46 rfl rfl (fun z => z)
def FX9_isPhrase (a1 : Int32) (h : HI) : Option (Int32) :=
  if a1 < 0 then
    some 0
  else
    if (h 0 1 6) ≤ a1 then
      some 0
    else
      some 1
set_option maxRecDepth 100000 in
set_option maxHeartbeats 4000000 in
theorem CX9_isPhrase (a1 : Int32) (h : HI) (L : HL) : CG mX9_isPhrase 0 [aR 3 16, aI a1] h L (lfI h L) (FX9_isPhrase a1 h) := by
  unfold FX9_isPhrase
  refine cg_of [some (aR 3 16), some (aI a1)] rfl (by decide) rfl rfl (fun T => ?_)
  refine g_iload_n (M := mX9_isPhrase) (pc := 0) 1 dX9_isPhrase_0 rfl rfl rfl ?_
  refine g_if_lt (M := mX9_isPhrase) (pc := 1) 22 4 dX9_isPhrase_1 (by decide) rfl (fun _ => ?_) (fun _ => ?_)
  · refine g_iconst (M := mX9_isPhrase) (pc := 22) (v := 0) 23 dX9_isPhrase_22 rfl ic0 ?_
    exact g_iret (M := mX9_isPhrase) (pc := 23) dX9_isPhrase_23 rfl nz0 (fun z => z)
  · refine g_iload_n (M := mX9_isPhrase) (pc := 4) 5 dX9_isPhrase_4 rfl rfl rfl ?_
    refine g_aload_n (M := mX9_isPhrase) (pc := 5) 6 dX9_isPhrase_5 rfl rfl rfl ?_
    refine g_getR (M := mX9_isPhrase) (pc := 6) 9 dX9_isPhrase_6 rfl fX9_16 oR16_1 ?_
    refine g_getR (M := mX9_isPhrase) (pc := 9) 12 dX9_isPhrase_9 rfl fX9_64 (oR0_0 (by decide)) ?_
    refine g_getI (M := mX9_isPhrase) (pc := 12) 15 dX9_isPhrase_12 rfl fX9_229 (oF1_6 (by decide)) ?_
    refine g_icmp_ge (M := mX9_isPhrase) (pc := 15) 22 18 dX9_isPhrase_15 (by decide) rfl (fun _ => ?_) (fun _ => ?_)
    · refine g_iconst (M := mX9_isPhrase) (pc := 22) (v := 0) 23 dX9_isPhrase_22 rfl ic0 ?_
      exact g_iret (M := mX9_isPhrase) (pc := 23) dX9_isPhrase_23 rfl nz0 (fun z => z)
    · refine g_iconst (M := mX9_isPhrase) (pc := 18) (v := 1) 19 dX9_isPhrase_18 rfl ic1 ?_
      refine g_goto (M := mX9_isPhrase) (pc := 19) 23 dX9_isPhrase_19 (by decide) ?_
      exact g_iret (M := mX9_isPhrase) (pc := 23) dX9_isPhrase_23 rfl nz1 (fun z => z)
def FX9_of (a1 : Int32) (a2 : Int32) (h : HI) : Option (Int32 × HI) :=
  Option.bind (FX9_isPhrase a1 h) fun r1 =>
  if r1 = 0 then
    Option.bind (FX9_tell (-1000000001) h) fun (r2, h3) =>
    some (r2, h3)
  else
    Option.bind (FX9_within a2 0 7) fun r4 =>
    if r4 = 0 then
      Option.bind (FX9_tell (-1000000001) h) fun (r8, h9) =>
      some (r8, h9)
    else
      if a2 = 6 then
        Option.bind (FX0_isKnown 0 a1 h) fun r7 =>
        if r7 = 0 then
          some (0, h)
        else
          some (1, h)
      else
        if a2 = 7 then
          Option.bind (FX5_forgets 0 a1 h) fun r6 =>
          some (r6, h)
        else
          Option.bind (FX5_row 0 a2) fun r5 =>
          gd (okI 0 r5 && ixb a1 (alen r5)) <|
          some ((h 0 r5 (nC a1)), h)
set_option maxRecDepth 100000 in
set_option maxHeartbeats 4000000 in
theorem CX9_of (a1 : Int32) (a2 : Int32) (h : HI) (L : HL) : CG mX9_of 2 [aR 3 16, aI a1, aI a2] h L (lfIH L) (FX9_of a1 a2 h) := by
  unfold FX9_of
  refine cg_of [some (aR 3 16), some (aI a1), some (aI a2)] rfl (by decide) rfl rfl (fun T => ?_)
  refine g_aload_n (M := mX9_of) (pc := 0) 1 dX9_of_0 rfl rfl rfl ?_
  refine g_iload_n (M := mX9_of) (pc := 1) 2 dX9_of_1 rfl rfl rfl ?_
  refine g_cV_I (M := mX9_of) (pc := 2) (M' := mX9_isPhrase) (rest := []) 5 dX9_of_2 rfl kX9_79 okX9_isPhrase (CX9_isPhrase a1 h L) oO16 rfl rfl rfl rfl (fun r1 => ?_)
  refine g_if_eq (M := mX9_of) (pc := 5) 18 8 dX9_of_5 (by decide) rfl (fun _ => ?_) (fun _ => ?_)
  · refine g_aload_n (M := mX9_of) (pc := 18) 19 dX9_of_18 rfl rfl rfl ?_
    refine g_ldc (M := mX9_of) (pc := 19) 21 dX9_of_19 rfl cX9_59 ?_
    refine g_cV_IH (M := mX9_of) (pc := 21) (M' := mX9_tell) (rest := []) 24 dX9_of_21 rfl kX9_60 okX9_tell (CX9_tell (-1000000001) h L) oO16 rfl rfl rfl rfl (fun r2 h3 => ?_)
    exact g_iret (M := mX9_of) (pc := 24) dX9_of_24 rfl rfl (fun z => z)
  · refine g_iload_n (M := mX9_of) (pc := 8) 9 dX9_of_8 rfl rfl rfl ?_
    refine g_iconst (M := mX9_of) (pc := 9) (v := 0) 10 dX9_of_9 rfl ic0 ?_
    refine g_bipush (M := mX9_of) (pc := 10) (v := 7) 12 dX9_of_10 rfl bp7 ?_
    refine g_cS_I (M := mX9_of) (pc := 12) (M' := mX9_within) (rest := []) 15 dX9_of_12 rfl kX9_55 okX9_within (CX9_within a2 0 7 h L) rfl rfl rfl rfl (fun r4 => ?_)
    refine g_if_ne (M := mX9_of) (pc := 15) 25 18 dX9_of_15 (by decide) rfl (fun _ => ?_) (fun _ => ?_)
    · refine g_iload_n (M := mX9_of) (pc := 25) 26 dX9_of_25 rfl rfl rfl ?_
      refine g_bipush (M := mX9_of) (pc := 26) (v := 6) 28 dX9_of_26 rfl bp6 ?_
      refine g_icmp_ne (M := mX9_of) (pc := 28) 48 31 dX9_of_28 (by decide) rfl (fun _ => ?_) (fun _ => ?_)
      · refine g_iload_n (M := mX9_of) (pc := 48) 49 dX9_of_48 rfl rfl rfl ?_
        refine g_bipush (M := mX9_of) (pc := 49) (v := 7) 51 dX9_of_49 rfl bp7 ?_
        refine g_icmp_ne (M := mX9_of) (pc := 51) 66 54 dX9_of_51 (by decide) rfl (fun _ => ?_) (fun _ => ?_)
        · refine g_aload_n (M := mX9_of) (pc := 66) 67 dX9_of_66 rfl rfl rfl ?_
          refine g_getR (M := mX9_of) (pc := 67) 70 dX9_of_67 rfl fX9_16 oR16_1 ?_
          refine g_getR (M := mX9_of) (pc := 70) 73 dX9_of_70 rfl fX9_64 (oR0_0 (by decide)) ?_
          refine g_iload_n (M := mX9_of) (pc := 73) 74 dX9_of_73 rfl rfl rfl ?_
          refine g_cV_R (M := mX9_of) (pc := 74) (M' := mX5_row) (rest := []) 77 dX9_of_74 rfl kX9_89 okX5_row (CX5_row 0 (by decide) a2 h L) (oO1 (by decide)) rfl rfl rfl rfl (fun r5 => ?_)
          refine g_iload_n (M := mX9_of) (pc := 77) 78 dX9_of_77 rfl rfl rfl ?_
          refine g_ialdV (M := mX9_of) (pc := 78) 79 dX9_of_78 rfl ?_
          exact g_iret (M := mX9_of) (pc := 79) dX9_of_79 rfl rfl (fun z => z)
        · refine g_aload_n (M := mX9_of) (pc := 54) 55 dX9_of_54 rfl rfl rfl ?_
          refine g_getR (M := mX9_of) (pc := 55) 58 dX9_of_55 rfl fX9_16 oR16_1 ?_
          refine g_getR (M := mX9_of) (pc := 58) 61 dX9_of_58 rfl fX9_64 (oR0_0 (by decide)) ?_
          refine g_iload_n (M := mX9_of) (pc := 61) 62 dX9_of_61 rfl rfl rfl ?_
          refine g_cV_I (M := mX9_of) (pc := 62) (M' := mX5_forgets) (rest := []) 65 dX9_of_62 rfl kX9_86 okX5_forgets (CX5_forgets 0 (by decide) a1 h L) (oO1 (by decide)) rfl rfl rfl rfl (fun r6 => ?_)
          exact g_iret (M := mX9_of) (pc := 65) dX9_of_65 rfl rfl (fun z => z)
      · refine g_aload_n (M := mX9_of) (pc := 31) 32 dX9_of_31 rfl rfl rfl ?_
        refine g_getR (M := mX9_of) (pc := 32) 35 dX9_of_32 rfl fX9_16 oR16_1 ?_
        refine g_iload_n (M := mX9_of) (pc := 35) 36 dX9_of_35 rfl rfl rfl ?_
        refine g_cV_I (M := mX9_of) (pc := 36) (M' := mX0_isKnown) (rest := []) 39 dX9_of_36 rfl kX9_83 okX0_isKnown (CX0_isKnown 0 (by decide) a1 h L) (oO0 (by decide)) rfl rfl rfl rfl (fun r7 => ?_)
        refine g_if_eq (M := mX9_of) (pc := 39) 46 42 dX9_of_39 (by decide) rfl (fun _ => ?_) (fun _ => ?_)
        · refine g_iconst (M := mX9_of) (pc := 46) (v := 0) 47 dX9_of_46 rfl ic0 ?_
          exact g_iret (M := mX9_of) (pc := 47) dX9_of_47 rfl rfl (fun z => z)
        · refine g_iconst (M := mX9_of) (pc := 42) (v := 1) 43 dX9_of_42 rfl ic1 ?_
          refine g_goto (M := mX9_of) (pc := 43) 47 dX9_of_43 (by decide) ?_
          exact g_iret (M := mX9_of) (pc := 47) dX9_of_47 rfl rfl (fun z => z)
    · refine g_aload_n (M := mX9_of) (pc := 18) 19 dX9_of_18 rfl rfl rfl ?_
      refine g_ldc (M := mX9_of) (pc := 19) 21 dX9_of_19 rfl cX9_59 ?_
      refine g_cV_IH (M := mX9_of) (pc := 21) (M' := mX9_tell) (rest := []) 24 dX9_of_21 rfl kX9_60 okX9_tell (CX9_tell (-1000000001) h L) oO16 rfl rfl rfl rfl (fun r8 h9 => ?_)
      exact g_iret (M := mX9_of) (pc := 24) dX9_of_24 rfl rfl (fun z => z)
def FX9_exchange (g0 : Nat) (k0 : Nat) (a1 : Int32) (a2 : Int32) (h : HI) : Option (Int32 × HI) :=
  gd (okI g0 k0 && ixb a1 (alen k0)) <|
  nm (h g0 k0 (nC a1)) fun t1 =>
  gd (okI g0 k0 && ixb a1 (alen k0)) <|
  nm (hP1 h g0 k0 (nC a1) a2) fun h2 =>
  some (t1, h2)
set_option maxRecDepth 100000 in
set_option maxHeartbeats 4000000 in
theorem CX9_exchange (g0 : Nat) (k0 : Nat) (a1 : Int32) (a2 : Int32) (h : HI) (L : HL) : CG mX9_exchange 0 [aR g0 k0, aI a1, aI a2] h L (lfIH L) (FX9_exchange g0 k0 a1 a2 h) := by
  unfold FX9_exchange
  refine cg_of [some (aR g0 k0), some (aI a1), some (aI a2), none] rfl (by decide) rfl rfl (fun T => ?_)
  refine g_aload_n (M := mX9_exchange) (pc := 0) 1 dX9_exchange_0 rfl rfl rfl ?_
  refine g_iload_n (M := mX9_exchange) (pc := 1) 2 dX9_exchange_1 rfl rfl rfl ?_
  refine g_ialdV (M := mX9_exchange) (pc := 2) 3 dX9_exchange_2 rfl ?_
  refine g_nmI (fun t1 => ?_)
  refine g_istore_n (M := mX9_exchange) (pc := 3) (ls' := [some (aR g0 k0), some (aI a1), some (aI a2), some (aI t1)]) 4 dX9_exchange_3 rfl rfl rfl rfl ?_
  refine g_aload_n (M := mX9_exchange) (pc := 4) 5 dX9_exchange_4 rfl rfl rfl ?_
  refine g_iload_n (M := mX9_exchange) (pc := 5) 6 dX9_exchange_5 rfl rfl rfl ?_
  refine g_iload_n (M := mX9_exchange) (pc := 6) 7 dX9_exchange_6 rfl rfl rfl ?_
  refine g_iastV (M := mX9_exchange) (pc := 7) 8 dX9_exchange_7 rfl (fun h2 => ?_)
  refine g_iload_n (M := mX9_exchange) (pc := 8) 9 dX9_exchange_8 rfl rfl rfl ?_
  exact g_iret (M := mX9_exchange) (pc := 9) dX9_exchange_9 rfl rfl (fun z => z)
def FX9_set (a1 : Int32) (a2 : Int32) (a3 : Int32) (h : HI) : Option (Int32 × HI) :=
  Option.bind (FX9_isPhrase a1 h) fun r1 =>
  if r1 = 0 then
    Option.bind (FX9_tell (-1000000001) h) fun (r2, h3) =>
    some (r2, h3)
  else
    Option.bind (FX5_maySet 0 a2 a3 h) fun r4 =>
    if r4 = 0 then
      Option.bind (FX9_tell (-1000000001) h) fun (r8, h9) =>
      some (r8, h9)
    else
      Option.bind (FX5_row 0 a2) fun r5 =>
      Option.bind (FX9_exchange 0 r5 a1 a3 h) fun (r6, h7) =>
      some (r6, h7)
set_option maxRecDepth 100000 in
set_option maxHeartbeats 4000000 in
theorem CX9_set (a1 : Int32) (a2 : Int32) (a3 : Int32) (h : HI) (L : HL) : CG mX9_set 2 [aR 3 16, aI a1, aI a2, aI a3] h L (lfIH L) (FX9_set a1 a2 a3 h) := by
  unfold FX9_set
  refine cg_of [some (aR 3 16), some (aI a1), some (aI a2), some (aI a3)] rfl (by decide) rfl rfl (fun T => ?_)
  refine g_aload_n (M := mX9_set) (pc := 0) 1 dX9_set_0 rfl rfl rfl ?_
  refine g_iload_n (M := mX9_set) (pc := 1) 2 dX9_set_1 rfl rfl rfl ?_
  refine g_cV_I (M := mX9_set) (pc := 2) (M' := mX9_isPhrase) (rest := []) 5 dX9_set_2 rfl kX9_79 okX9_isPhrase (CX9_isPhrase a1 h L) oO16 rfl rfl rfl rfl (fun r1 => ?_)
  refine g_if_eq (M := mX9_set) (pc := 5) 23 8 dX9_set_5 (by decide) rfl (fun _ => ?_) (fun _ => ?_)
  · refine g_aload_n (M := mX9_set) (pc := 23) 24 dX9_set_23 rfl rfl rfl ?_
    refine g_ldc (M := mX9_set) (pc := 24) 26 dX9_set_24 rfl cX9_59 ?_
    refine g_cV_IH (M := mX9_set) (pc := 26) (M' := mX9_tell) (rest := []) 29 dX9_set_26 rfl kX9_60 okX9_tell (CX9_tell (-1000000001) h L) oO16 rfl rfl rfl rfl (fun r2 h3 => ?_)
    exact g_iret (M := mX9_set) (pc := 29) dX9_set_29 rfl rfl (fun z => z)
  · refine g_aload_n (M := mX9_set) (pc := 8) 9 dX9_set_8 rfl rfl rfl ?_
    refine g_getR (M := mX9_set) (pc := 9) 12 dX9_set_9 rfl fX9_16 oR16_1 ?_
    refine g_getR (M := mX9_set) (pc := 12) 15 dX9_set_12 rfl fX9_64 (oR0_0 (by decide)) ?_
    refine g_iload_n (M := mX9_set) (pc := 15) 16 dX9_set_15 rfl rfl rfl ?_
    refine g_iload_n (M := mX9_set) (pc := 16) 17 dX9_set_16 rfl rfl rfl ?_
    refine g_cV_I (M := mX9_set) (pc := 17) (M' := mX5_maySet) (rest := []) 20 dX9_set_17 rfl kX9_93 okX5_maySet (CX5_maySet 0 (by decide) a2 a3 h L) (oO1 (by decide)) rfl rfl rfl rfl (fun r4 => ?_)
    refine g_if_ne (M := mX9_set) (pc := 20) 30 23 dX9_set_20 (by decide) rfl (fun _ => ?_) (fun _ => ?_)
    · refine g_aload_n (M := mX9_set) (pc := 30) 31 dX9_set_30 rfl rfl rfl ?_
      refine g_getR (M := mX9_set) (pc := 31) 34 dX9_set_31 rfl fX9_16 oR16_1 ?_
      refine g_getR (M := mX9_set) (pc := 34) 37 dX9_set_34 rfl fX9_64 (oR0_0 (by decide)) ?_
      refine g_iload_n (M := mX9_set) (pc := 37) 38 dX9_set_37 rfl rfl rfl ?_
      refine g_cV_R (M := mX9_set) (pc := 38) (M' := mX5_row) (rest := []) 41 dX9_set_38 rfl kX9_89 okX5_row (CX5_row 0 (by decide) a2 h L) (oO1 (by decide)) rfl rfl rfl rfl (fun r5 => ?_)
      refine g_iload_n (M := mX9_set) (pc := 41) 42 dX9_set_41 rfl rfl rfl ?_
      refine g_iload_n (M := mX9_set) (pc := 42) 43 dX9_set_42 rfl rfl rfl ?_
      refine g_cS_IH (M := mX9_set) (pc := 43) (M' := mX9_exchange) (rest := []) 46 dX9_set_43 rfl kX9_97 okX9_exchange (CX9_exchange 0 r5 a1 a3 h L) rfl rfl rfl rfl (fun r6 h7 => ?_)
      exact g_iret (M := mX9_set) (pc := 46) dX9_set_46 rfl rfl (fun z => z)
    · refine g_aload_n (M := mX9_set) (pc := 23) 24 dX9_set_23 rfl rfl rfl ?_
      refine g_ldc (M := mX9_set) (pc := 24) 26 dX9_set_24 rfl cX9_59 ?_
      refine g_cV_IH (M := mX9_set) (pc := 26) (M' := mX9_tell) (rest := []) 29 dX9_set_26 rfl kX9_60 okX9_tell (CX9_tell (-1000000001) h L) oO16 rfl rfl rfl rfl (fun r8 h9 => ?_)
      exact g_iret (M := mX9_set) (pc := 29) dX9_set_29 rfl rfl (fun z => z)
def FX9_turn (a1 : Int32) (a2 : Int32) (h : HI) : Option (Int32 × HI) :=
  Option.bind (FX9_isPhrase a1 h) fun r1 =>
  if r1 = 0 then
    Option.bind (FX9_tell (-1000000001) h) fun (r2, h3) =>
    some (r2, h3)
  else
    Option.bind (FX9_within a2 0 5) fun r4 =>
    if r4 = 0 then
      Option.bind (FX9_tell (-1000000001) h) fun (r7, h8) =>
      some (r7, h8)
    else
      Option.bind (FX9_exchange 0 2 a1 a2 h) fun (r5, h6) =>
      some (r5, h6)
set_option maxRecDepth 100000 in
set_option maxHeartbeats 4000000 in
theorem CX9_turn (a1 : Int32) (a2 : Int32) (h : HI) (L : HL) : CG mX9_turn 1 [aR 3 16, aI a1, aI a2] h L (lfIH L) (FX9_turn a1 a2 h) := by
  unfold FX9_turn
  refine cg_of [some (aR 3 16), some (aI a1), some (aI a2)] rfl (by decide) rfl rfl (fun T => ?_)
  refine g_aload_n (M := mX9_turn) (pc := 0) 1 dX9_turn_0 rfl rfl rfl ?_
  refine g_iload_n (M := mX9_turn) (pc := 1) 2 dX9_turn_1 rfl rfl rfl ?_
  refine g_cV_I (M := mX9_turn) (pc := 2) (M' := mX9_isPhrase) (rest := []) 5 dX9_turn_2 rfl kX9_79 okX9_isPhrase (CX9_isPhrase a1 h L) oO16 rfl rfl rfl rfl (fun r1 => ?_)
  refine g_if_eq (M := mX9_turn) (pc := 5) 17 8 dX9_turn_5 (by decide) rfl (fun _ => ?_) (fun _ => ?_)
  · refine g_aload_n (M := mX9_turn) (pc := 17) 18 dX9_turn_17 rfl rfl rfl ?_
    refine g_ldc (M := mX9_turn) (pc := 18) 20 dX9_turn_18 rfl cX9_59 ?_
    refine g_cV_IH (M := mX9_turn) (pc := 20) (M' := mX9_tell) (rest := []) 23 dX9_turn_20 rfl kX9_60 okX9_tell (CX9_tell (-1000000001) h L) oO16 rfl rfl rfl rfl (fun r2 h3 => ?_)
    exact g_iret (M := mX9_turn) (pc := 23) dX9_turn_23 rfl rfl (fun z => z)
  · refine g_iload_n (M := mX9_turn) (pc := 8) 9 dX9_turn_8 rfl rfl rfl ?_
    refine g_iconst (M := mX9_turn) (pc := 9) (v := 0) 10 dX9_turn_9 rfl ic0 ?_
    refine g_iconst (M := mX9_turn) (pc := 10) (v := 5) 11 dX9_turn_10 rfl ic5 ?_
    refine g_cS_I (M := mX9_turn) (pc := 11) (M' := mX9_within) (rest := []) 14 dX9_turn_11 rfl kX9_55 okX9_within (CX9_within a2 0 5 h L) rfl rfl rfl rfl (fun r4 => ?_)
    refine g_if_ne (M := mX9_turn) (pc := 14) 24 17 dX9_turn_14 (by decide) rfl (fun _ => ?_) (fun _ => ?_)
    · refine g_aload_n (M := mX9_turn) (pc := 24) 25 dX9_turn_24 rfl rfl rfl ?_
      refine g_getR (M := mX9_turn) (pc := 25) 28 dX9_turn_25 rfl fX9_16 oR16_1 ?_
      refine g_getR (M := mX9_turn) (pc := 28) 31 dX9_turn_28 rfl fX9_64 (oR0_0 (by decide)) ?_
      refine g_getR (M := mX9_turn) (pc := 31) 34 dX9_turn_31 rfl fX9_101 (oR1_0 (by decide)) ?_
      refine g_iload_n (M := mX9_turn) (pc := 34) 35 dX9_turn_34 rfl rfl rfl ?_
      refine g_iload_n (M := mX9_turn) (pc := 35) 36 dX9_turn_35 rfl rfl rfl ?_
      refine g_cS_IH (M := mX9_turn) (pc := 36) (M' := mX9_exchange) (rest := []) 39 dX9_turn_36 rfl kX9_97 okX9_exchange (CX9_exchange 0 2 a1 a2 h L) rfl rfl rfl rfl (fun r5 h6 => ?_)
      exact g_iret (M := mX9_turn) (pc := 39) dX9_turn_39 rfl rfl (fun z => z)
    · refine g_aload_n (M := mX9_turn) (pc := 17) 18 dX9_turn_17 rfl rfl rfl ?_
      refine g_ldc (M := mX9_turn) (pc := 18) 20 dX9_turn_18 rfl cX9_59 ?_
      refine g_cV_IH (M := mX9_turn) (pc := 20) (M' := mX9_tell) (rest := []) 23 dX9_turn_20 rfl kX9_60 okX9_tell (CX9_tell (-1000000001) h L) oO16 rfl rfl rfl rfl (fun r7 h8 => ?_)
      exact g_iret (M := mX9_turn) (pc := 23) dX9_turn_23 rfl rfl (fun z => z)
def FX9_as (a1 : Int32) (a2 : Int32) (h : HI) : Option (Int32 × HI) :=
  Option.bind (FX9_isPhrase a1 h) fun r1 =>
  if r1 = 0 then
    Option.bind (FX9_tell (-1000000001) h) fun (r2, h3) =>
    some (r2, h3)
  else
    Option.bind (FX9_within a2 0 5) fun r4 =>
    if r4 = 0 then
      Option.bind (FX9_tell (-1000000001) h) fun (r8, h9) =>
      some (r8, h9)
    else
      Option.bind (FX5_isUnder 0 a1 a2 h) fun r5 =>
      if r5 = 0 then
        Option.bind (FX9_tell (-1000000003) h) fun (r6, h7) =>
        some (r6, h7)
      else
        gd (ixb a1 12) <|
        some ((h 0 6 (nC a1)), h)
set_option maxRecDepth 100000 in
set_option maxHeartbeats 4000000 in
theorem CX9_as (a1 : Int32) (a2 : Int32) (h : HI) (L : HL) : CG mX9_as 1 [aR 3 16, aI a1, aI a2] h L (lfIH L) (FX9_as a1 a2 h) := by
  unfold FX9_as
  refine cg_of [some (aR 3 16), some (aI a1), some (aI a2)] rfl (by decide) rfl rfl (fun T => ?_)
  refine g_aload_n (M := mX9_as) (pc := 0) 1 dX9_as_0 rfl rfl rfl ?_
  refine g_iload_n (M := mX9_as) (pc := 1) 2 dX9_as_1 rfl rfl rfl ?_
  refine g_cV_I (M := mX9_as) (pc := 2) (M' := mX9_isPhrase) (rest := []) 5 dX9_as_2 rfl kX9_79 okX9_isPhrase (CX9_isPhrase a1 h L) oO16 rfl rfl rfl rfl (fun r1 => ?_)
  refine g_if_eq (M := mX9_as) (pc := 5) 17 8 dX9_as_5 (by decide) rfl (fun _ => ?_) (fun _ => ?_)
  · refine g_aload_n (M := mX9_as) (pc := 17) 18 dX9_as_17 rfl rfl rfl ?_
    refine g_ldc (M := mX9_as) (pc := 18) 20 dX9_as_18 rfl cX9_59 ?_
    refine g_cV_IH (M := mX9_as) (pc := 20) (M' := mX9_tell) (rest := []) 23 dX9_as_20 rfl kX9_60 okX9_tell (CX9_tell (-1000000001) h L) oO16 rfl rfl rfl rfl (fun r2 h3 => ?_)
    exact g_iret (M := mX9_as) (pc := 23) dX9_as_23 rfl rfl (fun z => z)
  · refine g_iload_n (M := mX9_as) (pc := 8) 9 dX9_as_8 rfl rfl rfl ?_
    refine g_iconst (M := mX9_as) (pc := 9) (v := 0) 10 dX9_as_9 rfl ic0 ?_
    refine g_iconst (M := mX9_as) (pc := 10) (v := 5) 11 dX9_as_10 rfl ic5 ?_
    refine g_cS_I (M := mX9_as) (pc := 11) (M' := mX9_within) (rest := []) 14 dX9_as_11 rfl kX9_55 okX9_within (CX9_within a2 0 5 h L) rfl rfl rfl rfl (fun r4 => ?_)
    refine g_if_ne (M := mX9_as) (pc := 14) 24 17 dX9_as_14 (by decide) rfl (fun _ => ?_) (fun _ => ?_)
    · refine g_aload_n (M := mX9_as) (pc := 24) 25 dX9_as_24 rfl rfl rfl ?_
      refine g_getR (M := mX9_as) (pc := 25) 28 dX9_as_25 rfl fX9_16 oR16_1 ?_
      refine g_getR (M := mX9_as) (pc := 28) 31 dX9_as_28 rfl fX9_64 (oR0_0 (by decide)) ?_
      refine g_iload_n (M := mX9_as) (pc := 31) 32 dX9_as_31 rfl rfl rfl ?_
      refine g_iload_n (M := mX9_as) (pc := 32) 33 dX9_as_32 rfl rfl rfl ?_
      refine g_cV_I (M := mX9_as) (pc := 33) (M' := mX5_isUnder) (rest := []) 36 dX9_as_33 rfl kX9_104 okX5_isUnder (CX5_isUnder 0 (by decide) a1 a2 h L) (oO1 (by decide)) rfl rfl rfl rfl (fun r5 => ?_)
      refine g_if_ne (M := mX9_as) (pc := 36) 46 39 dX9_as_36 (by decide) rfl (fun _ => ?_) (fun _ => ?_)
      · refine g_aload_n (M := mX9_as) (pc := 46) 47 dX9_as_46 rfl rfl rfl ?_
        refine g_getR (M := mX9_as) (pc := 47) 50 dX9_as_47 rfl fX9_16 oR16_1 ?_
        refine g_getR (M := mX9_as) (pc := 50) 53 dX9_as_50 rfl fX9_64 (oR0_0 (by decide)) ?_
        refine g_getR (M := mX9_as) (pc := 53) 56 dX9_as_53 rfl fX9_108 (oR1_4 (by decide)) ?_
        refine g_iload_n (M := mX9_as) (pc := 56) 57 dX9_as_56 rfl rfl rfl ?_
        refine g_iald (M := mX9_as) (pc := 57) 58 dX9_as_57 rfl (oA6 (by decide)) ?_
        exact g_iret (M := mX9_as) (pc := 58) dX9_as_58 rfl rfl (fun z => z)
      · refine g_aload_n (M := mX9_as) (pc := 39) 40 dX9_as_39 rfl rfl rfl ?_
        refine g_ldc (M := mX9_as) (pc := 40) 42 dX9_as_40 rfl cX9_107 ?_
        refine g_cV_IH (M := mX9_as) (pc := 42) (M' := mX9_tell) (rest := []) 45 dX9_as_42 rfl kX9_60 okX9_tell (CX9_tell (-1000000003) h L) oO16 rfl rfl rfl rfl (fun r6 h7 => ?_)
        exact g_iret (M := mX9_as) (pc := 45) dX9_as_45 rfl rfl (fun z => z)
    · refine g_aload_n (M := mX9_as) (pc := 17) 18 dX9_as_17 rfl rfl rfl ?_
      refine g_ldc (M := mX9_as) (pc := 18) 20 dX9_as_18 rfl cX9_59 ?_
      refine g_cV_IH (M := mX9_as) (pc := 20) (M' := mX9_tell) (rest := []) 23 dX9_as_20 rfl kX9_60 okX9_tell (CX9_tell (-1000000001) h L) oO16 rfl rfl rfl rfl (fun r8 h9 => ?_)
      exact g_iret (M := mX9_as) (pc := 23) dX9_as_23 rfl rfl (fun z => z)
def FX9_want (a1 : Int32) (a2 : Int32) (a3 : Int32) (h : HI) : Option (Int32 × HI) :=
  Option.bind (FX9_within a1 0 9) fun r1 =>
  if r1 = 0 then
    Option.bind (FX9_tell (-1000000001) h) fun (r2, h3) =>
    some (r2, h3)
  else
    Option.bind (FX9_within a2 0 99) fun r4 =>
    if r4 = 0 then
      Option.bind (FX9_tell (-1000000001) h) fun (r5, h6) =>
      some (r5, h6)
    else
      Option.bind (FX9_within a3 0 99) fun r7 =>
      if r7 = 0 then
        Option.bind (FX9_tell (-1000000001) h) fun (r13, h14) =>
        some (r13, h14)
      else
        Option.bind (FX8_isFull 0 h) fun r8 =>
        if r8 = 0 then
          Option.bind (FX8_add 0 a1 a2 a3 h) fun (r9, h10) =>
          some (r9, h10)
        else
          Option.bind (FX9_tell (-1000000002) h) fun (r11, h12) =>
          some (r11, h12)
set_option maxRecDepth 100000 in
set_option maxHeartbeats 4000000 in
theorem CX9_want (a1 : Int32) (a2 : Int32) (a3 : Int32) (h : HI) (L : HL) : CG mX9_want 1 [aR 3 16, aI a1, aI a2, aI a3] h L (lfIH L) (FX9_want a1 a2 a3 h) := by
  unfold FX9_want
  refine cg_of [some (aR 3 16), some (aI a1), some (aI a2), some (aI a3)] rfl (by decide) rfl rfl (fun T => ?_)
  refine g_iload_n (M := mX9_want) (pc := 0) 1 dX9_want_0 rfl rfl rfl ?_
  refine g_iconst (M := mX9_want) (pc := 1) (v := 0) 2 dX9_want_1 rfl ic0 ?_
  refine g_bipush (M := mX9_want) (pc := 2) (v := 9) 4 dX9_want_2 rfl bp9 ?_
  refine g_cS_I (M := mX9_want) (pc := 4) (M' := mX9_within) (rest := []) 7 dX9_want_4 rfl kX9_55 okX9_within (CX9_within a1 0 9 h L) rfl rfl rfl rfl (fun r1 => ?_)
  refine g_if_eq (M := mX9_want) (pc := 7) 30 10 dX9_want_7 (by decide) rfl (fun _ => ?_) (fun _ => ?_)
  · refine g_aload_n (M := mX9_want) (pc := 30) 31 dX9_want_30 rfl rfl rfl ?_
    refine g_ldc (M := mX9_want) (pc := 31) 33 dX9_want_31 rfl cX9_59 ?_
    refine g_cV_IH (M := mX9_want) (pc := 33) (M' := mX9_tell) (rest := []) 36 dX9_want_33 rfl kX9_60 okX9_tell (CX9_tell (-1000000001) h L) oO16 rfl rfl rfl rfl (fun r2 h3 => ?_)
    exact g_iret (M := mX9_want) (pc := 36) dX9_want_36 rfl rfl (fun z => z)
  · refine g_iload_n (M := mX9_want) (pc := 10) 11 dX9_want_10 rfl rfl rfl ?_
    refine g_iconst (M := mX9_want) (pc := 11) (v := 0) 12 dX9_want_11 rfl ic0 ?_
    refine g_bipush (M := mX9_want) (pc := 12) (v := 99) 14 dX9_want_12 rfl bp99 ?_
    refine g_cS_I (M := mX9_want) (pc := 14) (M' := mX9_within) (rest := []) 17 dX9_want_14 rfl kX9_55 okX9_within (CX9_within a2 0 99 h L) rfl rfl rfl rfl (fun r4 => ?_)
    refine g_if_eq (M := mX9_want) (pc := 17) 30 20 dX9_want_17 (by decide) rfl (fun _ => ?_) (fun _ => ?_)
    · refine g_aload_n (M := mX9_want) (pc := 30) 31 dX9_want_30 rfl rfl rfl ?_
      refine g_ldc (M := mX9_want) (pc := 31) 33 dX9_want_31 rfl cX9_59 ?_
      refine g_cV_IH (M := mX9_want) (pc := 33) (M' := mX9_tell) (rest := []) 36 dX9_want_33 rfl kX9_60 okX9_tell (CX9_tell (-1000000001) h L) oO16 rfl rfl rfl rfl (fun r5 h6 => ?_)
      exact g_iret (M := mX9_want) (pc := 36) dX9_want_36 rfl rfl (fun z => z)
    · refine g_iload_n (M := mX9_want) (pc := 20) 21 dX9_want_20 rfl rfl rfl ?_
      refine g_iconst (M := mX9_want) (pc := 21) (v := 0) 22 dX9_want_21 rfl ic0 ?_
      refine g_bipush (M := mX9_want) (pc := 22) (v := 99) 24 dX9_want_22 rfl bp99 ?_
      refine g_cS_I (M := mX9_want) (pc := 24) (M' := mX9_within) (rest := []) 27 dX9_want_24 rfl kX9_55 okX9_within (CX9_within a3 0 99 h L) rfl rfl rfl rfl (fun r7 => ?_)
      refine g_if_ne (M := mX9_want) (pc := 27) 37 30 dX9_want_27 (by decide) rfl (fun _ => ?_) (fun _ => ?_)
      · refine g_aload_n (M := mX9_want) (pc := 37) 38 dX9_want_37 rfl rfl rfl ?_
        refine g_getR (M := mX9_want) (pc := 38) 41 dX9_want_38 rfl fX9_16 oR16_1 ?_
        refine g_getR (M := mX9_want) (pc := 41) 44 dX9_want_41 rfl fX9_111 (oR0_1 (by decide)) ?_
        refine g_cV_I (M := mX9_want) (pc := 44) (M' := mX8_isFull) (rest := []) 47 dX9_want_44 rfl kX9_115 okX8_isFull (CX8_isFull 0 (by decide) h L) (oO8 (by decide)) rfl rfl rfl rfl (fun r8 => ?_)
        refine g_if_eq (M := mX9_want) (pc := 47) 57 50 dX9_want_47 (by decide) rfl (fun _ => ?_) (fun _ => ?_)
        · refine g_aload_n (M := mX9_want) (pc := 57) 58 dX9_want_57 rfl rfl rfl ?_
          refine g_getR (M := mX9_want) (pc := 58) 61 dX9_want_58 rfl fX9_16 oR16_1 ?_
          refine g_getR (M := mX9_want) (pc := 61) 64 dX9_want_61 rfl fX9_111 (oR0_1 (by decide)) ?_
          refine g_iload_n (M := mX9_want) (pc := 64) 65 dX9_want_64 rfl rfl rfl ?_
          refine g_iload_n (M := mX9_want) (pc := 65) 66 dX9_want_65 rfl rfl rfl ?_
          refine g_iload_n (M := mX9_want) (pc := 66) 67 dX9_want_66 rfl rfl rfl ?_
          refine g_cV_IH (M := mX9_want) (pc := 67) (M' := mX8_add) (rest := []) 70 dX9_want_67 rfl kX9_118 okX8_add (CX8_add 0 (by decide) a1 a2 a3 h L) (oO8 (by decide)) rfl rfl rfl rfl (fun r9 h10 => ?_)
          exact g_iret (M := mX9_want) (pc := 70) dX9_want_70 rfl rfl (fun z => z)
        · refine g_aload_n (M := mX9_want) (pc := 50) 51 dX9_want_50 rfl rfl rfl ?_
          refine g_ldc (M := mX9_want) (pc := 51) 53 dX9_want_51 rfl cX9_74 ?_
          refine g_cV_IH (M := mX9_want) (pc := 53) (M' := mX9_tell) (rest := []) 56 dX9_want_53 rfl kX9_60 okX9_tell (CX9_tell (-1000000002) h L) oO16 rfl rfl rfl rfl (fun r11 h12 => ?_)
          exact g_iret (M := mX9_want) (pc := 56) dX9_want_56 rfl rfl (fun z => z)
      · refine g_aload_n (M := mX9_want) (pc := 30) 31 dX9_want_30 rfl rfl rfl ?_
        refine g_ldc (M := mX9_want) (pc := 31) 33 dX9_want_31 rfl cX9_59 ?_
        refine g_cV_IH (M := mX9_want) (pc := 33) (M' := mX9_tell) (rest := []) 36 dX9_want_33 rfl kX9_60 okX9_tell (CX9_tell (-1000000001) h L) oO16 rfl rfl rfl rfl (fun r13 h14 => ?_)
        exact g_iret (M := mX9_want) (pc := 36) dX9_want_36 rfl rfl (fun z => z)
def FX9_isWant (a1 : Int32) (h : HI) : Option (Int32) :=
  if a1 < 0 then
    some 0
  else
    if (h 0 8 5) ≤ a1 then
      some 0
    else
      some 1
set_option maxRecDepth 100000 in
set_option maxHeartbeats 4000000 in
theorem CX9_isWant (a1 : Int32) (h : HI) (L : HL) : CG mX9_isWant 0 [aR 3 16, aI a1] h L (lfI h L) (FX9_isWant a1 h) := by
  unfold FX9_isWant
  refine cg_of [some (aR 3 16), some (aI a1)] rfl (by decide) rfl rfl (fun T => ?_)
  refine g_iload_n (M := mX9_isWant) (pc := 0) 1 dX9_isWant_0 rfl rfl rfl ?_
  refine g_if_lt (M := mX9_isWant) (pc := 1) 22 4 dX9_isWant_1 (by decide) rfl (fun _ => ?_) (fun _ => ?_)
  · refine g_iconst (M := mX9_isWant) (pc := 22) (v := 0) 23 dX9_isWant_22 rfl ic0 ?_
    exact g_iret (M := mX9_isWant) (pc := 23) dX9_isWant_23 rfl nz0 (fun z => z)
  · refine g_iload_n (M := mX9_isWant) (pc := 4) 5 dX9_isWant_4 rfl rfl rfl ?_
    refine g_aload_n (M := mX9_isWant) (pc := 5) 6 dX9_isWant_5 rfl rfl rfl ?_
    refine g_getR (M := mX9_isWant) (pc := 6) 9 dX9_isWant_6 rfl fX9_16 oR16_1 ?_
    refine g_getR (M := mX9_isWant) (pc := 9) 12 dX9_isWant_9 rfl fX9_111 (oR0_1 (by decide)) ?_
    refine g_getI (M := mX9_isWant) (pc := 12) 15 dX9_isWant_12 rfl fX9_327 (oF8_5 (by decide)) ?_
    refine g_icmp_ge (M := mX9_isWant) (pc := 15) 22 18 dX9_isWant_15 (by decide) rfl (fun _ => ?_) (fun _ => ?_)
    · refine g_iconst (M := mX9_isWant) (pc := 22) (v := 0) 23 dX9_isWant_22 rfl ic0 ?_
      exact g_iret (M := mX9_isWant) (pc := 23) dX9_isWant_23 rfl nz0 (fun z => z)
    · refine g_iconst (M := mX9_isWant) (pc := 18) (v := 1) 19 dX9_isWant_18 rfl ic1 ?_
      refine g_goto (M := mX9_isWant) (pc := 19) 23 dX9_isWant_19 (by decide) ?_
      exact g_iret (M := mX9_isWant) (pc := 23) dX9_isWant_23 rfl nz1 (fun z => z)
def FX9_wantOf (a1 : Int32) (a2 : Int32) (h : HI) : Option (Int32 × HI) :=
  Option.bind (FX9_isWant a1 h) fun r1 =>
  if r1 = 0 then
    Option.bind (FX9_tell (-1000000001) h) fun (r2, h3) =>
    some (r2, h3)
  else
    Option.bind (FX9_within a2 0 4) fun r4 =>
    if r4 = 0 then
      Option.bind (FX9_tell (-1000000001) h) fun (r6, h7) =>
      some (r6, h7)
    else
      Option.bind (FX8_row 0 a2) fun r5 =>
      gd (okI 0 r5 && ixb a1 (alen r5)) <|
      some ((h 0 r5 (nC a1)), h)
set_option maxRecDepth 100000 in
set_option maxHeartbeats 4000000 in
theorem CX9_wantOf (a1 : Int32) (a2 : Int32) (h : HI) (L : HL) : CG mX9_wantOf 1 [aR 3 16, aI a1, aI a2] h L (lfIH L) (FX9_wantOf a1 a2 h) := by
  unfold FX9_wantOf
  refine cg_of [some (aR 3 16), some (aI a1), some (aI a2)] rfl (by decide) rfl rfl (fun T => ?_)
  refine g_aload_n (M := mX9_wantOf) (pc := 0) 1 dX9_wantOf_0 rfl rfl rfl ?_
  refine g_iload_n (M := mX9_wantOf) (pc := 1) 2 dX9_wantOf_1 rfl rfl rfl ?_
  refine g_cV_I (M := mX9_wantOf) (pc := 2) (M' := mX9_isWant) (rest := []) 5 dX9_wantOf_2 rfl kX9_121 okX9_isWant (CX9_isWant a1 h L) oO16 rfl rfl rfl rfl (fun r1 => ?_)
  refine g_if_eq (M := mX9_wantOf) (pc := 5) 17 8 dX9_wantOf_5 (by decide) rfl (fun _ => ?_) (fun _ => ?_)
  · refine g_aload_n (M := mX9_wantOf) (pc := 17) 18 dX9_wantOf_17 rfl rfl rfl ?_
    refine g_ldc (M := mX9_wantOf) (pc := 18) 20 dX9_wantOf_18 rfl cX9_59 ?_
    refine g_cV_IH (M := mX9_wantOf) (pc := 20) (M' := mX9_tell) (rest := []) 23 dX9_wantOf_20 rfl kX9_60 okX9_tell (CX9_tell (-1000000001) h L) oO16 rfl rfl rfl rfl (fun r2 h3 => ?_)
    exact g_iret (M := mX9_wantOf) (pc := 23) dX9_wantOf_23 rfl rfl (fun z => z)
  · refine g_iload_n (M := mX9_wantOf) (pc := 8) 9 dX9_wantOf_8 rfl rfl rfl ?_
    refine g_iconst (M := mX9_wantOf) (pc := 9) (v := 0) 10 dX9_wantOf_9 rfl ic0 ?_
    refine g_iconst (M := mX9_wantOf) (pc := 10) (v := 4) 11 dX9_wantOf_10 rfl ic4 ?_
    refine g_cS_I (M := mX9_wantOf) (pc := 11) (M' := mX9_within) (rest := []) 14 dX9_wantOf_11 rfl kX9_55 okX9_within (CX9_within a2 0 4 h L) rfl rfl rfl rfl (fun r4 => ?_)
    refine g_if_ne (M := mX9_wantOf) (pc := 14) 24 17 dX9_wantOf_14 (by decide) rfl (fun _ => ?_) (fun _ => ?_)
    · refine g_aload_n (M := mX9_wantOf) (pc := 24) 25 dX9_wantOf_24 rfl rfl rfl ?_
      refine g_getR (M := mX9_wantOf) (pc := 25) 28 dX9_wantOf_25 rfl fX9_16 oR16_1 ?_
      refine g_getR (M := mX9_wantOf) (pc := 28) 31 dX9_wantOf_28 rfl fX9_111 (oR0_1 (by decide)) ?_
      refine g_iload_n (M := mX9_wantOf) (pc := 31) 32 dX9_wantOf_31 rfl rfl rfl ?_
      refine g_cV_R (M := mX9_wantOf) (pc := 32) (M' := mX8_row) (rest := []) 35 dX9_wantOf_32 rfl kX9_124 okX8_row (CX8_row 0 (by decide) a2 h L) (oO8 (by decide)) rfl rfl rfl rfl (fun r5 => ?_)
      refine g_iload_n (M := mX9_wantOf) (pc := 35) 36 dX9_wantOf_35 rfl rfl rfl ?_
      refine g_ialdV (M := mX9_wantOf) (pc := 36) 37 dX9_wantOf_36 rfl ?_
      exact g_iret (M := mX9_wantOf) (pc := 37) dX9_wantOf_37 rfl rfl (fun z => z)
    · refine g_aload_n (M := mX9_wantOf) (pc := 17) 18 dX9_wantOf_17 rfl rfl rfl ?_
      refine g_ldc (M := mX9_wantOf) (pc := 18) 20 dX9_wantOf_18 rfl cX9_59 ?_
      refine g_cV_IH (M := mX9_wantOf) (pc := 20) (M' := mX9_tell) (rest := []) 23 dX9_wantOf_20 rfl kX9_60 okX9_tell (CX9_tell (-1000000001) h L) oO16 rfl rfl rfl rfl (fun r6 h7 => ?_)
      exact g_iret (M := mX9_wantOf) (pc := 23) dX9_wantOf_23 rfl rfl (fun z => z)
def FX9_change (a1 : Int32) (a2 : Int32) (a3 : Int32) (h : HI) : Option (Int32 × HI) :=
  Option.bind (FX9_isWant a1 h) fun r1 =>
  if r1 = 0 then
    Option.bind (FX9_tell (-1000000001) h) fun (r2, h3) =>
    some (r2, h3)
  else
    Option.bind (FX8_mayChange 0 a2 a3 h) fun r4 =>
    if r4 = 0 then
      Option.bind (FX9_tell (-1000000001) h) fun (r8, h9) =>
      some (r8, h9)
    else
      Option.bind (FX8_row 0 a2) fun r5 =>
      Option.bind (FX9_exchange 0 r5 a1 a3 h) fun (r6, h7) =>
      some (r6, h7)
set_option maxRecDepth 100000 in
set_option maxHeartbeats 4000000 in
theorem CX9_change (a1 : Int32) (a2 : Int32) (a3 : Int32) (h : HI) (L : HL) : CG mX9_change 2 [aR 3 16, aI a1, aI a2, aI a3] h L (lfIH L) (FX9_change a1 a2 a3 h) := by
  unfold FX9_change
  refine cg_of [some (aR 3 16), some (aI a1), some (aI a2), some (aI a3)] rfl (by decide) rfl rfl (fun T => ?_)
  refine g_aload_n (M := mX9_change) (pc := 0) 1 dX9_change_0 rfl rfl rfl ?_
  refine g_iload_n (M := mX9_change) (pc := 1) 2 dX9_change_1 rfl rfl rfl ?_
  refine g_cV_I (M := mX9_change) (pc := 2) (M' := mX9_isWant) (rest := []) 5 dX9_change_2 rfl kX9_121 okX9_isWant (CX9_isWant a1 h L) oO16 rfl rfl rfl rfl (fun r1 => ?_)
  refine g_if_eq (M := mX9_change) (pc := 5) 23 8 dX9_change_5 (by decide) rfl (fun _ => ?_) (fun _ => ?_)
  · refine g_aload_n (M := mX9_change) (pc := 23) 24 dX9_change_23 rfl rfl rfl ?_
    refine g_ldc (M := mX9_change) (pc := 24) 26 dX9_change_24 rfl cX9_59 ?_
    refine g_cV_IH (M := mX9_change) (pc := 26) (M' := mX9_tell) (rest := []) 29 dX9_change_26 rfl kX9_60 okX9_tell (CX9_tell (-1000000001) h L) oO16 rfl rfl rfl rfl (fun r2 h3 => ?_)
    exact g_iret (M := mX9_change) (pc := 29) dX9_change_29 rfl rfl (fun z => z)
  · refine g_aload_n (M := mX9_change) (pc := 8) 9 dX9_change_8 rfl rfl rfl ?_
    refine g_getR (M := mX9_change) (pc := 9) 12 dX9_change_9 rfl fX9_16 oR16_1 ?_
    refine g_getR (M := mX9_change) (pc := 12) 15 dX9_change_12 rfl fX9_111 (oR0_1 (by decide)) ?_
    refine g_iload_n (M := mX9_change) (pc := 15) 16 dX9_change_15 rfl rfl rfl ?_
    refine g_iload_n (M := mX9_change) (pc := 16) 17 dX9_change_16 rfl rfl rfl ?_
    refine g_cV_I (M := mX9_change) (pc := 17) (M' := mX8_mayChange) (rest := []) 20 dX9_change_17 rfl kX9_125 okX8_mayChange (CX8_mayChange 0 (by decide) a2 a3 h L) (oO8 (by decide)) rfl rfl rfl rfl (fun r4 => ?_)
    refine g_if_ne (M := mX9_change) (pc := 20) 30 23 dX9_change_20 (by decide) rfl (fun _ => ?_) (fun _ => ?_)
    · refine g_aload_n (M := mX9_change) (pc := 30) 31 dX9_change_30 rfl rfl rfl ?_
      refine g_getR (M := mX9_change) (pc := 31) 34 dX9_change_31 rfl fX9_16 oR16_1 ?_
      refine g_getR (M := mX9_change) (pc := 34) 37 dX9_change_34 rfl fX9_111 (oR0_1 (by decide)) ?_
      refine g_iload_n (M := mX9_change) (pc := 37) 38 dX9_change_37 rfl rfl rfl ?_
      refine g_cV_R (M := mX9_change) (pc := 38) (M' := mX8_row) (rest := []) 41 dX9_change_38 rfl kX9_124 okX8_row (CX8_row 0 (by decide) a2 h L) (oO8 (by decide)) rfl rfl rfl rfl (fun r5 => ?_)
      refine g_iload_n (M := mX9_change) (pc := 41) 42 dX9_change_41 rfl rfl rfl ?_
      refine g_iload_n (M := mX9_change) (pc := 42) 43 dX9_change_42 rfl rfl rfl ?_
      refine g_cS_IH (M := mX9_change) (pc := 43) (M' := mX9_exchange) (rest := []) 46 dX9_change_43 rfl kX9_97 okX9_exchange (CX9_exchange 0 r5 a1 a3 h L) rfl rfl rfl rfl (fun r6 h7 => ?_)
      exact g_iret (M := mX9_change) (pc := 46) dX9_change_46 rfl rfl (fun z => z)
    · refine g_aload_n (M := mX9_change) (pc := 23) 24 dX9_change_23 rfl rfl rfl ?_
      refine g_ldc (M := mX9_change) (pc := 24) 26 dX9_change_24 rfl cX9_59 ?_
      refine g_cV_IH (M := mX9_change) (pc := 26) (M' := mX9_tell) (rest := []) 29 dX9_change_26 rfl kX9_60 okX9_tell (CX9_tell (-1000000001) h L) oO16 rfl rfl rfl rfl (fun r8 h9 => ?_)
      exact g_iret (M := mX9_change) (pc := 29) dX9_change_29 rfl rfl (fun z => z)
def FX9_isSet (a1 : Int32) (h : HI) : Option (Int32) :=
  if a1 < 0 then
    some 0
  else
    if (1 <<< ((h 0 1 6) &&& 31)) ≤ a1 then
      some 0
    else
      some 1
set_option maxRecDepth 100000 in
set_option maxHeartbeats 4000000 in
theorem CX9_isSet (a1 : Int32) (h : HI) (L : HL) : CG mX9_isSet 0 [aR 3 16, aI a1] h L (lfI h L) (FX9_isSet a1 h) := by
  unfold FX9_isSet
  refine cg_of [some (aR 3 16), some (aI a1)] rfl (by decide) rfl rfl (fun T => ?_)
  refine g_iload_n (M := mX9_isSet) (pc := 0) 1 dX9_isSet_0 rfl rfl rfl ?_
  refine g_if_lt (M := mX9_isSet) (pc := 1) 24 4 dX9_isSet_1 (by decide) rfl (fun _ => ?_) (fun _ => ?_)
  · refine g_iconst (M := mX9_isSet) (pc := 24) (v := 0) 25 dX9_isSet_24 rfl ic0 ?_
    exact g_iret (M := mX9_isSet) (pc := 25) dX9_isSet_25 rfl nz0 (fun z => z)
  · refine g_iload_n (M := mX9_isSet) (pc := 4) 5 dX9_isSet_4 rfl rfl rfl ?_
    refine g_iconst (M := mX9_isSet) (pc := 5) (v := 1) 6 dX9_isSet_5 rfl ic1 ?_
    refine g_aload_n (M := mX9_isSet) (pc := 6) 7 dX9_isSet_6 rfl rfl rfl ?_
    refine g_getR (M := mX9_isSet) (pc := 7) 10 dX9_isSet_7 rfl fX9_16 oR16_1 ?_
    refine g_getR (M := mX9_isSet) (pc := 10) 13 dX9_isSet_10 rfl fX9_64 (oR0_0 (by decide)) ?_
    refine g_getI (M := mX9_isSet) (pc := 13) 16 dX9_isSet_13 rfl fX9_229 (oF1_6 (by decide)) ?_
    refine g_ishl (M := mX9_isSet) (pc := 16) 17 dX9_isSet_16 rfl ?_
    refine g_icmp_ge (M := mX9_isSet) (pc := 17) 24 20 dX9_isSet_17 (by decide) rfl (fun _ => ?_) (fun _ => ?_)
    · refine g_iconst (M := mX9_isSet) (pc := 24) (v := 0) 25 dX9_isSet_24 rfl ic0 ?_
      exact g_iret (M := mX9_isSet) (pc := 25) dX9_isSet_25 rfl nz0 (fun z => z)
    · refine g_iconst (M := mX9_isSet) (pc := 20) (v := 1) 21 dX9_isSet_20 rfl ic1 ?_
      refine g_goto (M := mX9_isSet) (pc := 21) 25 dX9_isSet_21 (by decide) ?_
      exact g_iret (M := mX9_isSet) (pc := 25) dX9_isSet_25 rfl nz1 (fun z => z)
def FX9_gain (a1 : Int32) (a2 : Int32) (a3 : Int32) (h : HI) : Option (Int32 × HI) :=
  Option.bind (FX9_isPhrase a1 h) fun r1 =>
  if r1 = 0 then
    Option.bind (FX9_tell (-1000000001) h) fun (r2, h3) =>
    some (r2, h3)
  else
    Option.bind (FX9_isWant a2 h) fun r4 =>
    if r4 = 0 then
      Option.bind (FX9_tell (-1000000001) h) fun (r5, h6) =>
      some (r5, h6)
    else
      Option.bind (FX9_isSet a3 h) fun r7 =>
      if r7 = 0 then
        Option.bind (FX9_tell (-1000000001) h) fun (r10, h11) =>
        some (r10, h11)
      else
        Option.bind (FX5_hasKind 0 a3 2 h) fun r8 =>
        Option.bind (FX0_gainOf 0 a1 a2 r8 h) fun r9 =>
        some (r9, h)
set_option maxRecDepth 100000 in
set_option maxHeartbeats 4000000 in
theorem CX9_gain (a1 : Int32) (a2 : Int32) (a3 : Int32) (h : HI) (L : HL) : CG mX9_gain 2 [aR 3 16, aI a1, aI a2, aI a3] h L (lfIH L) (FX9_gain a1 a2 a3 h) := by
  unfold FX9_gain
  refine cg_of [some (aR 3 16), some (aI a1), some (aI a2), some (aI a3)] rfl (by decide) rfl rfl (fun T => ?_)
  refine g_aload_n (M := mX9_gain) (pc := 0) 1 dX9_gain_0 rfl rfl rfl ?_
  refine g_iload_n (M := mX9_gain) (pc := 1) 2 dX9_gain_1 rfl rfl rfl ?_
  refine g_cV_I (M := mX9_gain) (pc := 2) (M' := mX9_isPhrase) (rest := []) 5 dX9_gain_2 rfl kX9_79 okX9_isPhrase (CX9_isPhrase a1 h L) oO16 rfl rfl rfl rfl (fun r1 => ?_)
  refine g_if_eq (M := mX9_gain) (pc := 5) 24 8 dX9_gain_5 (by decide) rfl (fun _ => ?_) (fun _ => ?_)
  · refine g_aload_n (M := mX9_gain) (pc := 24) 25 dX9_gain_24 rfl rfl rfl ?_
    refine g_ldc (M := mX9_gain) (pc := 25) 27 dX9_gain_25 rfl cX9_59 ?_
    refine g_cV_IH (M := mX9_gain) (pc := 27) (M' := mX9_tell) (rest := []) 30 dX9_gain_27 rfl kX9_60 okX9_tell (CX9_tell (-1000000001) h L) oO16 rfl rfl rfl rfl (fun r2 h3 => ?_)
    exact g_iret (M := mX9_gain) (pc := 30) dX9_gain_30 rfl rfl (fun z => z)
  · refine g_aload_n (M := mX9_gain) (pc := 8) 9 dX9_gain_8 rfl rfl rfl ?_
    refine g_iload_n (M := mX9_gain) (pc := 9) 10 dX9_gain_9 rfl rfl rfl ?_
    refine g_cV_I (M := mX9_gain) (pc := 10) (M' := mX9_isWant) (rest := []) 13 dX9_gain_10 rfl kX9_121 okX9_isWant (CX9_isWant a2 h L) oO16 rfl rfl rfl rfl (fun r4 => ?_)
    refine g_if_eq (M := mX9_gain) (pc := 13) 24 16 dX9_gain_13 (by decide) rfl (fun _ => ?_) (fun _ => ?_)
    · refine g_aload_n (M := mX9_gain) (pc := 24) 25 dX9_gain_24 rfl rfl rfl ?_
      refine g_ldc (M := mX9_gain) (pc := 25) 27 dX9_gain_25 rfl cX9_59 ?_
      refine g_cV_IH (M := mX9_gain) (pc := 27) (M' := mX9_tell) (rest := []) 30 dX9_gain_27 rfl kX9_60 okX9_tell (CX9_tell (-1000000001) h L) oO16 rfl rfl rfl rfl (fun r5 h6 => ?_)
      exact g_iret (M := mX9_gain) (pc := 30) dX9_gain_30 rfl rfl (fun z => z)
    · refine g_aload_n (M := mX9_gain) (pc := 16) 17 dX9_gain_16 rfl rfl rfl ?_
      refine g_iload_n (M := mX9_gain) (pc := 17) 18 dX9_gain_17 rfl rfl rfl ?_
      refine g_cV_I (M := mX9_gain) (pc := 18) (M' := mX9_isSet) (rest := []) 21 dX9_gain_18 rfl kX9_128 okX9_isSet (CX9_isSet a3 h L) oO16 rfl rfl rfl rfl (fun r7 => ?_)
      refine g_if_ne (M := mX9_gain) (pc := 21) 31 24 dX9_gain_21 (by decide) rfl (fun _ => ?_) (fun _ => ?_)
      · refine g_aload_n (M := mX9_gain) (pc := 31) 32 dX9_gain_31 rfl rfl rfl ?_
        refine g_getR (M := mX9_gain) (pc := 32) 35 dX9_gain_32 rfl fX9_16 oR16_1 ?_
        refine g_iload_n (M := mX9_gain) (pc := 35) 36 dX9_gain_35 rfl rfl rfl ?_
        refine g_iload_n (M := mX9_gain) (pc := 36) 37 dX9_gain_36 rfl rfl rfl ?_
        refine g_aload_n (M := mX9_gain) (pc := 37) 38 dX9_gain_37 rfl rfl rfl ?_
        refine g_getR (M := mX9_gain) (pc := 38) 41 dX9_gain_38 rfl fX9_16 oR16_1 ?_
        refine g_getR (M := mX9_gain) (pc := 41) 44 dX9_gain_41 rfl fX9_64 (oR0_0 (by decide)) ?_
        refine g_iload_n (M := mX9_gain) (pc := 44) 45 dX9_gain_44 rfl rfl rfl ?_
        refine g_iconst (M := mX9_gain) (pc := 45) (v := 2) 46 dX9_gain_45 rfl ic2 ?_
        refine g_cV_I (M := mX9_gain) (pc := 46) (M' := mX5_hasKind) (rest := [aI a2, aI a1, aR 0 0]) 49 dX9_gain_46 rfl kX9_131 okX5_hasKind (CX5_hasKind 0 (by decide) a3 2 h L) (oO1 (by decide)) rfl rfl rfl rfl (fun r8 => ?_)
        refine g_cV_I (M := mX9_gain) (pc := 49) (M' := mX0_gainOf) (rest := []) 52 dX9_gain_49 rfl kX9_134 okX0_gainOf (CX0_gainOf 0 (by decide) a1 a2 r8 h L) (oO0 (by decide)) rfl rfl rfl rfl (fun r9 => ?_)
        exact g_iret (M := mX9_gain) (pc := 52) dX9_gain_52 rfl rfl (fun z => z)
      · refine g_aload_n (M := mX9_gain) (pc := 24) 25 dX9_gain_24 rfl rfl rfl ?_
        refine g_ldc (M := mX9_gain) (pc := 25) 27 dX9_gain_25 rfl cX9_59 ?_
        refine g_cV_IH (M := mX9_gain) (pc := 27) (M' := mX9_tell) (rest := []) 30 dX9_gain_27 rfl kX9_60 okX9_tell (CX9_tell (-1000000001) h L) oO16 rfl rfl rfl rfl (fun r10 h11 => ?_)
        exact g_iret (M := mX9_gain) (pc := 30) dX9_gain_30 rfl rfl (fun z => z)
def FX9_met (a1 : Int32) (a2 : Int32) (h : HI) : Option (Int32 × HI) :=
  Option.bind (FX9_isWant a1 h) fun r1 =>
  if r1 = 0 then
    Option.bind (FX9_tell (-1000000001) h) fun (r2, h3) =>
    some (r2, h3)
  else
    Option.bind (FX9_isSet a2 h) fun r4 =>
    if r4 = 0 then
      Option.bind (FX9_tell (-1000000001) h) fun (r9, h10) =>
      some (r9, h10)
    else
      Option.bind (FX5_hasKind 0 a2 2 h) fun r5 =>
      Option.bind (FX5_hasKind 0 a2 4 h) fun r6 =>
      Option.bind (FX0_gainsMost 0 a1 a2 r5 h) fun r7 =>
      Option.bind (FX0_metBy 0 a1 r7 r5 r6 h) fun r8 =>
      some (r8, h)
set_option maxRecDepth 100000 in
set_option maxHeartbeats 4000000 in
theorem CX9_met (a1 : Int32) (a2 : Int32) (h : HI) (L : HL) : CG mX9_met 3 [aR 3 16, aI a1, aI a2] h L (lfIH L) (FX9_met a1 a2 h) := by
  unfold FX9_met
  refine cg_of [some (aR 3 16), some (aI a1), some (aI a2), none, none] rfl (by decide) rfl rfl (fun T => ?_)
  refine g_aload_n (M := mX9_met) (pc := 0) 1 dX9_met_0 rfl rfl rfl ?_
  refine g_iload_n (M := mX9_met) (pc := 1) 2 dX9_met_1 rfl rfl rfl ?_
  refine g_cV_I (M := mX9_met) (pc := 2) (M' := mX9_isWant) (rest := []) 5 dX9_met_2 rfl kX9_121 okX9_isWant (CX9_isWant a1 h L) oO16 rfl rfl rfl rfl (fun r1 => ?_)
  refine g_if_eq (M := mX9_met) (pc := 5) 16 8 dX9_met_5 (by decide) rfl (fun _ => ?_) (fun _ => ?_)
  · refine g_aload_n (M := mX9_met) (pc := 16) 17 dX9_met_16 rfl rfl rfl ?_
    refine g_ldc (M := mX9_met) (pc := 17) 19 dX9_met_17 rfl cX9_59 ?_
    refine g_cV_IH (M := mX9_met) (pc := 19) (M' := mX9_tell) (rest := []) 22 dX9_met_19 rfl kX9_60 okX9_tell (CX9_tell (-1000000001) h L) oO16 rfl rfl rfl rfl (fun r2 h3 => ?_)
    exact g_iret (M := mX9_met) (pc := 22) dX9_met_22 rfl rfl (fun z => z)
  · refine g_aload_n (M := mX9_met) (pc := 8) 9 dX9_met_8 rfl rfl rfl ?_
    refine g_iload_n (M := mX9_met) (pc := 9) 10 dX9_met_9 rfl rfl rfl ?_
    refine g_cV_I (M := mX9_met) (pc := 10) (M' := mX9_isSet) (rest := []) 13 dX9_met_10 rfl kX9_128 okX9_isSet (CX9_isSet a2 h L) oO16 rfl rfl rfl rfl (fun r4 => ?_)
    refine g_if_ne (M := mX9_met) (pc := 13) 23 16 dX9_met_13 (by decide) rfl (fun _ => ?_) (fun _ => ?_)
    · refine g_aload_n (M := mX9_met) (pc := 23) 24 dX9_met_23 rfl rfl rfl ?_
      refine g_getR (M := mX9_met) (pc := 24) 27 dX9_met_24 rfl fX9_16 oR16_1 ?_
      refine g_getR (M := mX9_met) (pc := 27) 30 dX9_met_27 rfl fX9_64 (oR0_0 (by decide)) ?_
      refine g_iload_n (M := mX9_met) (pc := 30) 31 dX9_met_30 rfl rfl rfl ?_
      refine g_iconst (M := mX9_met) (pc := 31) (v := 2) 32 dX9_met_31 rfl ic2 ?_
      refine g_cV_I (M := mX9_met) (pc := 32) (M' := mX5_hasKind) (rest := []) 35 dX9_met_32 rfl kX9_131 okX5_hasKind (CX5_hasKind 0 (by decide) a2 2 h L) (oO1 (by decide)) rfl rfl rfl rfl (fun r5 => ?_)
      refine g_istore_n (M := mX9_met) (pc := 35) (ls' := [some (aR 3 16), some (aI a1), some (aI a2), some (aI r5), none]) 36 dX9_met_35 rfl rfl rfl rfl ?_
      refine g_aload_n (M := mX9_met) (pc := 36) 37 dX9_met_36 rfl rfl rfl ?_
      refine g_getR (M := mX9_met) (pc := 37) 40 dX9_met_37 rfl fX9_16 oR16_1 ?_
      refine g_getR (M := mX9_met) (pc := 40) 43 dX9_met_40 rfl fX9_64 (oR0_0 (by decide)) ?_
      refine g_iload_n (M := mX9_met) (pc := 43) 44 dX9_met_43 rfl rfl rfl ?_
      refine g_iconst (M := mX9_met) (pc := 44) (v := 4) 45 dX9_met_44 rfl ic4 ?_
      refine g_cV_I (M := mX9_met) (pc := 45) (M' := mX5_hasKind) (rest := []) 48 dX9_met_45 rfl kX9_131 okX5_hasKind (CX5_hasKind 0 (by decide) a2 4 h L) (oO1 (by decide)) rfl rfl rfl rfl (fun r6 => ?_)
      refine g_istore (M := mX9_met) (pc := 48) (ls' := [some (aR 3 16), some (aI a1), some (aI a2), some (aI r5), some (aI r6)]) 50 dX9_met_48 rfl rfl rfl ?_
      refine g_aload_n (M := mX9_met) (pc := 50) 51 dX9_met_50 rfl rfl rfl ?_
      refine g_getR (M := mX9_met) (pc := 51) 54 dX9_met_51 rfl fX9_16 oR16_1 ?_
      refine g_iload_n (M := mX9_met) (pc := 54) 55 dX9_met_54 rfl rfl rfl ?_
      refine g_aload_n (M := mX9_met) (pc := 55) 56 dX9_met_55 rfl rfl rfl ?_
      refine g_getR (M := mX9_met) (pc := 56) 59 dX9_met_56 rfl fX9_16 oR16_1 ?_
      refine g_iload_n (M := mX9_met) (pc := 59) 60 dX9_met_59 rfl rfl rfl ?_
      refine g_iload_n (M := mX9_met) (pc := 60) 61 dX9_met_60 rfl rfl rfl ?_
      refine g_iload_n (M := mX9_met) (pc := 61) 62 dX9_met_61 rfl rfl rfl ?_
      refine g_cV_I (M := mX9_met) (pc := 62) (M' := mX0_gainsMost) (rest := [aI a1, aR 0 0]) 65 dX9_met_62 rfl kX9_138 okX0_gainsMost (CX0_gainsMost 0 (by decide) a1 a2 r5 h L) (oO0 (by decide)) rfl rfl rfl rfl (fun r7 => ?_)
      refine g_iload_n (M := mX9_met) (pc := 65) 66 dX9_met_65 rfl rfl rfl ?_
      refine g_iload (M := mX9_met) (pc := 66) 68 dX9_met_66 rfl rfl ?_
      refine g_cV_I (M := mX9_met) (pc := 68) (M' := mX0_metBy) (rest := []) 71 dX9_met_68 rfl kX9_141 okX0_metBy (CX0_metBy 0 (by decide) a1 r7 r5 r6 h L) (oO0 (by decide)) rfl rfl rfl rfl (fun r8 => ?_)
      exact g_iret (M := mX9_met) (pc := 71) dX9_met_71 rfl rfl (fun z => z)
    · refine g_aload_n (M := mX9_met) (pc := 16) 17 dX9_met_16 rfl rfl rfl ?_
      refine g_ldc (M := mX9_met) (pc := 17) 19 dX9_met_17 rfl cX9_59 ?_
      refine g_cV_IH (M := mX9_met) (pc := 19) (M' := mX9_tell) (rest := []) 22 dX9_met_19 rfl kX9_60 okX9_tell (CX9_tell (-1000000001) h L) oO16 rfl rfl rfl rfl (fun r9 h10 => ?_)
      exact g_iret (M := mX9_met) (pc := 22) dX9_met_22 rfl rfl (fun z => z)
def FX9_value (a1 : Int32) (h : HI) : Option (Int32 × HI) :=
  Option.bind (FX9_isSet a1 h) fun r1 =>
  if r1 = 0 then
    Option.bind (FX9_tell (-1000000001) h) fun (r5, h6) =>
    some (r5, h6)
  else
    Option.bind (FX1_lookAt 0 h) fun h2 =>
    Option.bind (FX1_valueOf a1 h2) fun (r3, h4) =>
    some (r3, h4)
set_option maxRecDepth 100000 in
set_option maxHeartbeats 4000000 in
theorem CX9_value (a1 : Int32) (h : HI) (L : HL) : CG mX9_value 3 [aR 3 16, aI a1] h L (lfIH L) (FX9_value a1 h) := by
  unfold FX9_value
  refine cg_of [some (aR 3 16), some (aI a1)] rfl (by decide) rfl rfl (fun T => ?_)
  refine g_aload_n (M := mX9_value) (pc := 0) 1 dX9_value_0 rfl rfl rfl ?_
  refine g_iload_n (M := mX9_value) (pc := 1) 2 dX9_value_1 rfl rfl rfl ?_
  refine g_cV_I (M := mX9_value) (pc := 2) (M' := mX9_isSet) (rest := []) 5 dX9_value_2 rfl kX9_128 okX9_isSet (CX9_isSet a1 h L) oO16 rfl rfl rfl rfl (fun r1 => ?_)
  refine g_if_ne (M := mX9_value) (pc := 5) 15 8 dX9_value_5 (by decide) rfl (fun _ => ?_) (fun _ => ?_)
  · refine g_aload_n (M := mX9_value) (pc := 15) 16 dX9_value_15 rfl rfl rfl ?_
    refine g_getR (M := mX9_value) (pc := 16) 19 dX9_value_16 rfl fX9_30 oR16_4 ?_
    refine g_aload_n (M := mX9_value) (pc := 19) 20 dX9_value_19 rfl rfl rfl ?_
    refine g_getR (M := mX9_value) (pc := 20) 23 dX9_value_20 rfl fX9_16 oR16_1 ?_
    refine g_cV_VH (M := mX9_value) (pc := 23) (M' := mX1_lookAt) (rest := []) 26 dX9_value_23 rfl kX9_145 okX1_lookAt (CX1_lookAt 0 (by decide) h L) oO18 rfl rfl rfl rfl (fun h2 => ?_)
    refine g_aload_n (M := mX9_value) (pc := 26) 27 dX9_value_26 rfl rfl rfl ?_
    refine g_getR (M := mX9_value) (pc := 27) 30 dX9_value_27 rfl fX9_30 oR16_4 ?_
    refine g_iload_n (M := mX9_value) (pc := 30) 31 dX9_value_30 rfl rfl rfl ?_
    refine g_cV_IH (M := mX9_value) (pc := 31) (M' := mX1_valueOf) (rest := []) 34 dX9_value_31 rfl kX9_149 okX1_valueOf (CX1_valueOf a1 h2 L) oO18 rfl rfl rfl rfl (fun r3 h4 => ?_)
    exact g_iret (M := mX9_value) (pc := 34) dX9_value_34 rfl rfl (fun z => z)
  · refine g_aload_n (M := mX9_value) (pc := 8) 9 dX9_value_8 rfl rfl rfl ?_
    refine g_ldc (M := mX9_value) (pc := 9) 11 dX9_value_9 rfl cX9_59 ?_
    refine g_cV_IH (M := mX9_value) (pc := 11) (M' := mX9_tell) (rest := []) 14 dX9_value_11 rfl kX9_60 okX9_tell (CX9_tell (-1000000001) h L) oO16 rfl rfl rfl rfl (fun r5 h6 => ?_)
    exact g_iret (M := mX9_value) (pc := 14) dX9_value_14 rfl rfl (fun z => z)
def FX9_orNone (a1 : Int32) (h : HI) : Option (Int32 × HI) :=
  if 0 ≤ a1 then
    some (a1, h)
  else
    Option.bind (FX9_tell (-1000000004) h) fun (r1, h2) =>
    some (r1, h2)
set_option maxRecDepth 100000 in
set_option maxHeartbeats 4000000 in
theorem CX9_orNone (a1 : Int32) (h : HI) (L : HL) : CG mX9_orNone 1 [aR 3 16, aI a1] h L (lfIH L) (FX9_orNone a1 h) := by
  unfold FX9_orNone
  refine cg_of [some (aR 3 16), some (aI a1)] rfl (by decide) rfl rfl (fun T => ?_)
  refine g_iload_n (M := mX9_orNone) (pc := 0) 1 dX9_orNone_0 rfl rfl rfl ?_
  refine g_if_ge (M := mX9_orNone) (pc := 1) 13 4 dX9_orNone_1 (by decide) rfl (fun _ => ?_) (fun _ => ?_)
  · refine g_iload_n (M := mX9_orNone) (pc := 13) 14 dX9_orNone_13 rfl rfl rfl ?_
    exact g_iret (M := mX9_orNone) (pc := 14) dX9_orNone_14 rfl rfl (fun z => z)
  · refine g_aload_n (M := mX9_orNone) (pc := 4) 5 dX9_orNone_4 rfl rfl rfl ?_
    refine g_ldc (M := mX9_orNone) (pc := 5) 7 dX9_orNone_5 rfl cX9_250 ?_
    refine g_cV_IH (M := mX9_orNone) (pc := 7) (M' := mX9_tell) (rest := []) 10 dX9_orNone_7 rfl kX9_60 okX9_tell (CX9_tell (-1000000004) h L) oO16 rfl rfl rfl rfl (fun r1 h2 => ?_)
    refine g_goto (M := mX9_orNone) (pc := 10) 14 dX9_orNone_10 (by decide) ?_
    exact g_iret (M := mX9_orNone) (pc := 14) dX9_orNone_14 rfl rfl (fun z => z)
def FX9_by (a1 : Int32) (a2 : Int32) (h : HI) : Option (Int32 × HI) :=
  Option.bind (FX9_isWant a1 h) fun r1 =>
  if r1 = 0 then
    Option.bind (FX9_tell (-1000000001) h) fun (r2, h3) =>
    some (r2, h3)
  else
    Option.bind (FX9_isSet a2 h) fun r4 =>
    if r4 = 0 then
      Option.bind (FX9_tell (-1000000001) h) fun (r9, h10) =>
      some (r9, h10)
    else
      Option.bind (FX5_hasKind 0 a2 2 h) fun r5 =>
      Option.bind (FX0_gainsMost 0 a1 a2 r5 h) fun r6 =>
      Option.bind (FX9_orNone r6 h) fun (r7, h8) =>
      some (r7, h8)
set_option maxRecDepth 100000 in
set_option maxHeartbeats 4000000 in
theorem CX9_by (a1 : Int32) (a2 : Int32) (h : HI) (L : HL) : CG mX9_by 2 [aR 3 16, aI a1, aI a2] h L (lfIH L) (FX9_by a1 a2 h) := by
  unfold FX9_by
  refine cg_of [some (aR 3 16), some (aI a1), some (aI a2), none] rfl (by decide) rfl rfl (fun T => ?_)
  refine g_aload_n (M := mX9_by) (pc := 0) 1 dX9_by_0 rfl rfl rfl ?_
  refine g_iload_n (M := mX9_by) (pc := 1) 2 dX9_by_1 rfl rfl rfl ?_
  refine g_cV_I (M := mX9_by) (pc := 2) (M' := mX9_isWant) (rest := []) 5 dX9_by_2 rfl kX9_121 okX9_isWant (CX9_isWant a1 h L) oO16 rfl rfl rfl rfl (fun r1 => ?_)
  refine g_if_eq (M := mX9_by) (pc := 5) 16 8 dX9_by_5 (by decide) rfl (fun _ => ?_) (fun _ => ?_)
  · refine g_aload_n (M := mX9_by) (pc := 16) 17 dX9_by_16 rfl rfl rfl ?_
    refine g_ldc (M := mX9_by) (pc := 17) 19 dX9_by_17 rfl cX9_59 ?_
    refine g_cV_IH (M := mX9_by) (pc := 19) (M' := mX9_tell) (rest := []) 22 dX9_by_19 rfl kX9_60 okX9_tell (CX9_tell (-1000000001) h L) oO16 rfl rfl rfl rfl (fun r2 h3 => ?_)
    exact g_iret (M := mX9_by) (pc := 22) dX9_by_22 rfl rfl (fun z => z)
  · refine g_aload_n (M := mX9_by) (pc := 8) 9 dX9_by_8 rfl rfl rfl ?_
    refine g_iload_n (M := mX9_by) (pc := 9) 10 dX9_by_9 rfl rfl rfl ?_
    refine g_cV_I (M := mX9_by) (pc := 10) (M' := mX9_isSet) (rest := []) 13 dX9_by_10 rfl kX9_128 okX9_isSet (CX9_isSet a2 h L) oO16 rfl rfl rfl rfl (fun r4 => ?_)
    refine g_if_ne (M := mX9_by) (pc := 13) 23 16 dX9_by_13 (by decide) rfl (fun _ => ?_) (fun _ => ?_)
    · refine g_aload_n (M := mX9_by) (pc := 23) 24 dX9_by_23 rfl rfl rfl ?_
      refine g_getR (M := mX9_by) (pc := 24) 27 dX9_by_24 rfl fX9_16 oR16_1 ?_
      refine g_getR (M := mX9_by) (pc := 27) 30 dX9_by_27 rfl fX9_64 (oR0_0 (by decide)) ?_
      refine g_iload_n (M := mX9_by) (pc := 30) 31 dX9_by_30 rfl rfl rfl ?_
      refine g_iconst (M := mX9_by) (pc := 31) (v := 2) 32 dX9_by_31 rfl ic2 ?_
      refine g_cV_I (M := mX9_by) (pc := 32) (M' := mX5_hasKind) (rest := []) 35 dX9_by_32 rfl kX9_131 okX5_hasKind (CX5_hasKind 0 (by decide) a2 2 h L) (oO1 (by decide)) rfl rfl rfl rfl (fun r5 => ?_)
      refine g_istore_n (M := mX9_by) (pc := 35) (ls' := [some (aR 3 16), some (aI a1), some (aI a2), some (aI r5)]) 36 dX9_by_35 rfl rfl rfl rfl ?_
      refine g_aload_n (M := mX9_by) (pc := 36) 37 dX9_by_36 rfl rfl rfl ?_
      refine g_aload_n (M := mX9_by) (pc := 37) 38 dX9_by_37 rfl rfl rfl ?_
      refine g_getR (M := mX9_by) (pc := 38) 41 dX9_by_38 rfl fX9_16 oR16_1 ?_
      refine g_iload_n (M := mX9_by) (pc := 41) 42 dX9_by_41 rfl rfl rfl ?_
      refine g_iload_n (M := mX9_by) (pc := 42) 43 dX9_by_42 rfl rfl rfl ?_
      refine g_iload_n (M := mX9_by) (pc := 43) 44 dX9_by_43 rfl rfl rfl ?_
      refine g_cV_I (M := mX9_by) (pc := 44) (M' := mX0_gainsMost) (rest := [aR 3 16]) 47 dX9_by_44 rfl kX9_138 okX0_gainsMost (CX0_gainsMost 0 (by decide) a1 a2 r5 h L) (oO0 (by decide)) rfl rfl rfl rfl (fun r6 => ?_)
      refine g_cV_IH (M := mX9_by) (pc := 47) (M' := mX9_orNone) (rest := []) 50 dX9_by_47 rfl kX9_152 okX9_orNone (CX9_orNone r6 h L) oO16 rfl rfl rfl rfl (fun r7 h8 => ?_)
      exact g_iret (M := mX9_by) (pc := 50) dX9_by_50 rfl rfl (fun z => z)
    · refine g_aload_n (M := mX9_by) (pc := 16) 17 dX9_by_16 rfl rfl rfl ?_
      refine g_ldc (M := mX9_by) (pc := 17) 19 dX9_by_17 rfl cX9_59 ?_
      refine g_cV_IH (M := mX9_by) (pc := 19) (M' := mX9_tell) (rest := []) 22 dX9_by_19 rfl kX9_60 okX9_tell (CX9_tell (-1000000001) h L) oO16 rfl rfl rfl rfl (fun r9 h10 => ?_)
      exact g_iret (M := mX9_by) (pc := 22) dX9_by_22 rfl rfl (fun z => z)
def FX9_best (a1 : Int32) (a2 : Int32) (h : HI) : Option (Int32 × HI) :=
  Option.bind (FX9_within a1 0 720) fun r1 =>
  if r1 = 0 then
    Option.bind (FX9_tell (-1000000001) h) fun (r2, h3) =>
    some (r2, h3)
  else
    Option.bind (FX9_within a2 0 2) fun r4 =>
    if r4 = 0 then
      Option.bind (FX9_tell (-1000000001) h) fun (r11, h12) =>
      some (r11, h12)
    else
      Option.bind (FX1_lookAt 0 h) fun h5 =>
      Option.bind (FX1_bestSet a1 h5) fun (r6, h7) =>
      if a2 = 0 then
        Option.bind (FX1_valueOf r6 h7) fun (r9, h10) =>
        some (r9, h10)
      else
        if a2 = 1 then
          some (r6, h7)
        else
          Option.bind (FX1_minutesOf r6 h7) fun r8 =>
          some (r8, h7)
set_option maxRecDepth 100000 in
set_option maxHeartbeats 4000000 in
theorem CX9_best (a1 : Int32) (a2 : Int32) (h : HI) (L : HL) : CG mX9_best 4 [aR 3 16, aI a1, aI a2] h L (lfIH L) (FX9_best a1 a2 h) := by
  unfold FX9_best
  refine cg_of [some (aR 3 16), some (aI a1), some (aI a2), none] rfl (by decide) rfl rfl (fun T => ?_)
  refine g_iload_n (M := mX9_best) (pc := 0) 1 dX9_best_0 rfl rfl rfl ?_
  refine g_iconst (M := mX9_best) (pc := 1) (v := 0) 2 dX9_best_1 rfl ic0 ?_
  refine g_sipush (M := mX9_best) (pc := 2) (v := 720) 5 dX9_best_2 rfl sp720 ?_
  refine g_cS_I (M := mX9_best) (pc := 5) (M' := mX9_within) (rest := []) 8 dX9_best_5 rfl kX9_55 okX9_within (CX9_within a1 0 720 h L) rfl rfl rfl rfl (fun r1 => ?_)
  refine g_if_eq (M := mX9_best) (pc := 8) 20 11 dX9_best_8 (by decide) rfl (fun _ => ?_) (fun _ => ?_)
  · refine g_aload_n (M := mX9_best) (pc := 20) 21 dX9_best_20 rfl rfl rfl ?_
    refine g_ldc (M := mX9_best) (pc := 21) 23 dX9_best_21 rfl cX9_59 ?_
    refine g_cV_IH (M := mX9_best) (pc := 23) (M' := mX9_tell) (rest := []) 26 dX9_best_23 rfl kX9_60 okX9_tell (CX9_tell (-1000000001) h L) oO16 rfl rfl rfl rfl (fun r2 h3 => ?_)
    exact g_iret (M := mX9_best) (pc := 26) dX9_best_26 rfl rfl (fun z => z)
  · refine g_iload_n (M := mX9_best) (pc := 11) 12 dX9_best_11 rfl rfl rfl ?_
    refine g_iconst (M := mX9_best) (pc := 12) (v := 0) 13 dX9_best_12 rfl ic0 ?_
    refine g_iconst (M := mX9_best) (pc := 13) (v := 2) 14 dX9_best_13 rfl ic2 ?_
    refine g_cS_I (M := mX9_best) (pc := 14) (M' := mX9_within) (rest := []) 17 dX9_best_14 rfl kX9_55 okX9_within (CX9_within a2 0 2 h L) rfl rfl rfl rfl (fun r4 => ?_)
    refine g_if_ne (M := mX9_best) (pc := 17) 27 20 dX9_best_17 (by decide) rfl (fun _ => ?_) (fun _ => ?_)
    · refine g_aload_n (M := mX9_best) (pc := 27) 28 dX9_best_27 rfl rfl rfl ?_
      refine g_getR (M := mX9_best) (pc := 28) 31 dX9_best_28 rfl fX9_30 oR16_4 ?_
      refine g_aload_n (M := mX9_best) (pc := 31) 32 dX9_best_31 rfl rfl rfl ?_
      refine g_getR (M := mX9_best) (pc := 32) 35 dX9_best_32 rfl fX9_16 oR16_1 ?_
      refine g_cV_VH (M := mX9_best) (pc := 35) (M' := mX1_lookAt) (rest := []) 38 dX9_best_35 rfl kX9_145 okX1_lookAt (CX1_lookAt 0 (by decide) h L) oO18 rfl rfl rfl rfl (fun h5 => ?_)
      refine g_aload_n (M := mX9_best) (pc := 38) 39 dX9_best_38 rfl rfl rfl ?_
      refine g_getR (M := mX9_best) (pc := 39) 42 dX9_best_39 rfl fX9_30 oR16_4 ?_
      refine g_iload_n (M := mX9_best) (pc := 42) 43 dX9_best_42 rfl rfl rfl ?_
      refine g_cV_IH (M := mX9_best) (pc := 43) (M' := mX1_bestSet) (rest := []) 46 dX9_best_43 rfl kX9_155 okX1_bestSet (CX1_bestSet a1 h5 L) oO18 rfl rfl rfl rfl (fun r6 h7 => ?_)
      refine g_istore_n (M := mX9_best) (pc := 46) (ls' := [some (aR 3 16), some (aI a1), some (aI a2), some (aI r6)]) 47 dX9_best_46 rfl rfl rfl rfl ?_
      refine g_iload_n (M := mX9_best) (pc := 47) 48 dX9_best_47 rfl rfl rfl ?_
      refine g_if_ne (M := mX9_best) (pc := 48) 60 51 dX9_best_48 (by decide) rfl (fun _ => ?_) (fun _ => ?_)
      · refine g_iload_n (M := mX9_best) (pc := 60) 61 dX9_best_60 rfl rfl rfl ?_
        refine g_iconst (M := mX9_best) (pc := 61) (v := 1) 62 dX9_best_61 rfl ic1 ?_
        refine g_icmp_ne (M := mX9_best) (pc := 62) 69 65 dX9_best_62 (by decide) rfl (fun _ => ?_) (fun _ => ?_)
        · refine g_aload_n (M := mX9_best) (pc := 69) 70 dX9_best_69 rfl rfl rfl ?_
          refine g_getR (M := mX9_best) (pc := 70) 73 dX9_best_70 rfl fX9_30 oR16_4 ?_
          refine g_iload_n (M := mX9_best) (pc := 73) 74 dX9_best_73 rfl rfl rfl ?_
          refine g_cV_I (M := mX9_best) (pc := 74) (M' := mX1_minutesOf) (rest := []) 77 dX9_best_74 rfl kX9_158 okX1_minutesOf (CX1_minutesOf r6 h7 L) oO18 rfl rfl rfl rfl (fun r8 => ?_)
          exact g_iret (M := mX9_best) (pc := 77) dX9_best_77 rfl rfl (fun z => z)
        · refine g_iload_n (M := mX9_best) (pc := 65) 66 dX9_best_65 rfl rfl rfl ?_
          refine g_goto (M := mX9_best) (pc := 66) 77 dX9_best_66 (by decide) ?_
          exact g_iret (M := mX9_best) (pc := 77) dX9_best_77 rfl rfl (fun z => z)
      · refine g_aload_n (M := mX9_best) (pc := 51) 52 dX9_best_51 rfl rfl rfl ?_
        refine g_getR (M := mX9_best) (pc := 52) 55 dX9_best_52 rfl fX9_30 oR16_4 ?_
        refine g_iload_n (M := mX9_best) (pc := 55) 56 dX9_best_55 rfl rfl rfl ?_
        refine g_cV_IH (M := mX9_best) (pc := 56) (M' := mX1_valueOf) (rest := []) 59 dX9_best_56 rfl kX9_149 okX1_valueOf (CX1_valueOf r6 h7 L) oO18 rfl rfl rfl rfl (fun r9 h10 => ?_)
        exact g_iret (M := mX9_best) (pc := 59) dX9_best_59 rfl rfl (fun z => z)
    · refine g_aload_n (M := mX9_best) (pc := 20) 21 dX9_best_20 rfl rfl rfl ?_
      refine g_ldc (M := mX9_best) (pc := 21) 23 dX9_best_21 rfl cX9_59 ?_
      refine g_cV_IH (M := mX9_best) (pc := 23) (M' := mX9_tell) (rest := []) 26 dX9_best_23 rfl kX9_60 okX9_tell (CX9_tell (-1000000001) h L) oO16 rfl rfl rfl rfl (fun r11 h12 => ?_)
      exact g_iret (M := mX9_best) (pc := 26) dX9_best_26 rfl rfl (fun z => z)
def FX9_greedy (a1 : Int32) (a2 : Int32) (h : HI) : Option (Int32 × HI) :=
  Option.bind (FX9_within a1 0 720) fun r1 =>
  if r1 = 0 then
    Option.bind (FX9_tell (-1000000001) h) fun (r2, h3) =>
    some (r2, h3)
  else
    Option.bind (FX9_within a2 0 1) fun r4 =>
    if r4 = 0 then
      Option.bind (FX9_tell (-1000000001) h) fun (r10, h11) =>
      some (r10, h11)
    else
      Option.bind (FX1_lookAt 0 h) fun h5 =>
      Option.bind (FX1_greedySet a1 h5) fun (r6, h7) =>
      if a2 = 0 then
        Option.bind (FX1_valueOf r6 h7) fun (r8, h9) =>
        some (r8, h9)
      else
        some (r6, h7)
set_option maxRecDepth 100000 in
set_option maxHeartbeats 4000000 in
theorem CX9_greedy (a1 : Int32) (a2 : Int32) (h : HI) (L : HL) : CG mX9_greedy 5 [aR 3 16, aI a1, aI a2] h L (lfIH L) (FX9_greedy a1 a2 h) := by
  unfold FX9_greedy
  refine cg_of [some (aR 3 16), some (aI a1), some (aI a2), none] rfl (by decide) rfl rfl (fun T => ?_)
  refine g_iload_n (M := mX9_greedy) (pc := 0) 1 dX9_greedy_0 rfl rfl rfl ?_
  refine g_iconst (M := mX9_greedy) (pc := 1) (v := 0) 2 dX9_greedy_1 rfl ic0 ?_
  refine g_sipush (M := mX9_greedy) (pc := 2) (v := 720) 5 dX9_greedy_2 rfl sp720 ?_
  refine g_cS_I (M := mX9_greedy) (pc := 5) (M' := mX9_within) (rest := []) 8 dX9_greedy_5 rfl kX9_55 okX9_within (CX9_within a1 0 720 h L) rfl rfl rfl rfl (fun r1 => ?_)
  refine g_if_eq (M := mX9_greedy) (pc := 8) 20 11 dX9_greedy_8 (by decide) rfl (fun _ => ?_) (fun _ => ?_)
  · refine g_aload_n (M := mX9_greedy) (pc := 20) 21 dX9_greedy_20 rfl rfl rfl ?_
    refine g_ldc (M := mX9_greedy) (pc := 21) 23 dX9_greedy_21 rfl cX9_59 ?_
    refine g_cV_IH (M := mX9_greedy) (pc := 23) (M' := mX9_tell) (rest := []) 26 dX9_greedy_23 rfl kX9_60 okX9_tell (CX9_tell (-1000000001) h L) oO16 rfl rfl rfl rfl (fun r2 h3 => ?_)
    exact g_iret (M := mX9_greedy) (pc := 26) dX9_greedy_26 rfl rfl (fun z => z)
  · refine g_iload_n (M := mX9_greedy) (pc := 11) 12 dX9_greedy_11 rfl rfl rfl ?_
    refine g_iconst (M := mX9_greedy) (pc := 12) (v := 0) 13 dX9_greedy_12 rfl ic0 ?_
    refine g_iconst (M := mX9_greedy) (pc := 13) (v := 1) 14 dX9_greedy_13 rfl ic1 ?_
    refine g_cS_I (M := mX9_greedy) (pc := 14) (M' := mX9_within) (rest := []) 17 dX9_greedy_14 rfl kX9_55 okX9_within (CX9_within a2 0 1 h L) rfl rfl rfl rfl (fun r4 => ?_)
    refine g_if_ne (M := mX9_greedy) (pc := 17) 27 20 dX9_greedy_17 (by decide) rfl (fun _ => ?_) (fun _ => ?_)
    · refine g_aload_n (M := mX9_greedy) (pc := 27) 28 dX9_greedy_27 rfl rfl rfl ?_
      refine g_getR (M := mX9_greedy) (pc := 28) 31 dX9_greedy_28 rfl fX9_30 oR16_4 ?_
      refine g_aload_n (M := mX9_greedy) (pc := 31) 32 dX9_greedy_31 rfl rfl rfl ?_
      refine g_getR (M := mX9_greedy) (pc := 32) 35 dX9_greedy_32 rfl fX9_16 oR16_1 ?_
      refine g_cV_VH (M := mX9_greedy) (pc := 35) (M' := mX1_lookAt) (rest := []) 38 dX9_greedy_35 rfl kX9_145 okX1_lookAt (CX1_lookAt 0 (by decide) h L) oO18 rfl rfl rfl rfl (fun h5 => ?_)
      refine g_aload_n (M := mX9_greedy) (pc := 38) 39 dX9_greedy_38 rfl rfl rfl ?_
      refine g_getR (M := mX9_greedy) (pc := 39) 42 dX9_greedy_39 rfl fX9_30 oR16_4 ?_
      refine g_iload_n (M := mX9_greedy) (pc := 42) 43 dX9_greedy_42 rfl rfl rfl ?_
      refine g_cV_IH (M := mX9_greedy) (pc := 43) (M' := mX1_greedySet) (rest := []) 46 dX9_greedy_43 rfl kX9_161 okX1_greedySet (CX1_greedySet a1 h5 L) oO18 rfl rfl rfl rfl (fun r6 h7 => ?_)
      refine g_istore_n (M := mX9_greedy) (pc := 46) (ls' := [some (aR 3 16), some (aI a1), some (aI a2), some (aI r6)]) 47 dX9_greedy_46 rfl rfl rfl rfl ?_
      refine g_iload_n (M := mX9_greedy) (pc := 47) 48 dX9_greedy_47 rfl rfl rfl ?_
      refine g_if_ne (M := mX9_greedy) (pc := 48) 62 51 dX9_greedy_48 (by decide) rfl (fun _ => ?_) (fun _ => ?_)
      · refine g_iload_n (M := mX9_greedy) (pc := 62) 63 dX9_greedy_62 rfl rfl rfl ?_
        exact g_iret (M := mX9_greedy) (pc := 63) dX9_greedy_63 rfl rfl (fun z => z)
      · refine g_aload_n (M := mX9_greedy) (pc := 51) 52 dX9_greedy_51 rfl rfl rfl ?_
        refine g_getR (M := mX9_greedy) (pc := 52) 55 dX9_greedy_52 rfl fX9_30 oR16_4 ?_
        refine g_iload_n (M := mX9_greedy) (pc := 55) 56 dX9_greedy_55 rfl rfl rfl ?_
        refine g_cV_IH (M := mX9_greedy) (pc := 56) (M' := mX1_valueOf) (rest := []) 59 dX9_greedy_56 rfl kX9_149 okX1_valueOf (CX1_valueOf r6 h7 L) oO18 rfl rfl rfl rfl (fun r8 h9 => ?_)
        refine g_goto (M := mX9_greedy) (pc := 59) 63 dX9_greedy_59 (by decide) ?_
        exact g_iret (M := mX9_greedy) (pc := 63) dX9_greedy_63 rfl rfl (fun z => z)
    · refine g_aload_n (M := mX9_greedy) (pc := 20) 21 dX9_greedy_20 rfl rfl rfl ?_
      refine g_ldc (M := mX9_greedy) (pc := 21) 23 dX9_greedy_21 rfl cX9_59 ?_
      refine g_cV_IH (M := mX9_greedy) (pc := 23) (M' := mX9_tell) (rest := []) 26 dX9_greedy_23 rfl kX9_60 okX9_tell (CX9_tell (-1000000001) h L) oO16 rfl rfl rfl rfl (fun r10 h11 => ?_)
      exact g_iret (M := mX9_greedy) (pc := 26) dX9_greedy_26 rfl rfl (fun z => z)
def FX9_next (a1 : Int32) (h : HI) : Option (Int32 × HI) :=
  Option.bind (FX9_isSet a1 h) fun r1 =>
  if r1 = 0 then
    Option.bind (FX9_tell (-1000000001) h) fun (r7, h8) =>
    some (r7, h8)
  else
    Option.bind (FX1_lookAt 0 h) fun h2 =>
    Option.bind (FX1_bringsMost a1 h2) fun (r3, h4) =>
    Option.bind (FX9_orNone r3 h4) fun (r5, h6) =>
    some (r5, h6)
set_option maxRecDepth 100000 in
set_option maxHeartbeats 4000000 in
theorem CX9_next (a1 : Int32) (h : HI) (L : HL) : CG mX9_next 4 [aR 3 16, aI a1] h L (lfIH L) (FX9_next a1 h) := by
  unfold FX9_next
  refine cg_of [some (aR 3 16), some (aI a1)] rfl (by decide) rfl rfl (fun T => ?_)
  refine g_aload_n (M := mX9_next) (pc := 0) 1 dX9_next_0 rfl rfl rfl ?_
  refine g_iload_n (M := mX9_next) (pc := 1) 2 dX9_next_1 rfl rfl rfl ?_
  refine g_cV_I (M := mX9_next) (pc := 2) (M' := mX9_isSet) (rest := []) 5 dX9_next_2 rfl kX9_128 okX9_isSet (CX9_isSet a1 h L) oO16 rfl rfl rfl rfl (fun r1 => ?_)
  refine g_if_ne (M := mX9_next) (pc := 5) 15 8 dX9_next_5 (by decide) rfl (fun _ => ?_) (fun _ => ?_)
  · refine g_aload_n (M := mX9_next) (pc := 15) 16 dX9_next_15 rfl rfl rfl ?_
    refine g_getR (M := mX9_next) (pc := 16) 19 dX9_next_16 rfl fX9_30 oR16_4 ?_
    refine g_aload_n (M := mX9_next) (pc := 19) 20 dX9_next_19 rfl rfl rfl ?_
    refine g_getR (M := mX9_next) (pc := 20) 23 dX9_next_20 rfl fX9_16 oR16_1 ?_
    refine g_cV_VH (M := mX9_next) (pc := 23) (M' := mX1_lookAt) (rest := []) 26 dX9_next_23 rfl kX9_145 okX1_lookAt (CX1_lookAt 0 (by decide) h L) oO18 rfl rfl rfl rfl (fun h2 => ?_)
    refine g_aload_n (M := mX9_next) (pc := 26) 27 dX9_next_26 rfl rfl rfl ?_
    refine g_aload_n (M := mX9_next) (pc := 27) 28 dX9_next_27 rfl rfl rfl ?_
    refine g_getR (M := mX9_next) (pc := 28) 31 dX9_next_28 rfl fX9_30 oR16_4 ?_
    refine g_iload_n (M := mX9_next) (pc := 31) 32 dX9_next_31 rfl rfl rfl ?_
    refine g_cV_IH (M := mX9_next) (pc := 32) (M' := mX1_bringsMost) (rest := [aR 3 16]) 35 dX9_next_32 rfl kX9_164 okX1_bringsMost (CX1_bringsMost a1 h2 L) oO18 rfl rfl rfl rfl (fun r3 h4 => ?_)
    refine g_cV_IH (M := mX9_next) (pc := 35) (M' := mX9_orNone) (rest := []) 38 dX9_next_35 rfl kX9_152 okX9_orNone (CX9_orNone r3 h4 L) oO16 rfl rfl rfl rfl (fun r5 h6 => ?_)
    exact g_iret (M := mX9_next) (pc := 38) dX9_next_38 rfl rfl (fun z => z)
  · refine g_aload_n (M := mX9_next) (pc := 8) 9 dX9_next_8 rfl rfl rfl ?_
    refine g_ldc (M := mX9_next) (pc := 9) 11 dX9_next_9 rfl cX9_59 ?_
    refine g_cV_IH (M := mX9_next) (pc := 11) (M' := mX9_tell) (rest := []) 14 dX9_next_11 rfl kX9_60 okX9_tell (CX9_tell (-1000000001) h L) oO16 rfl rfl rfl rfl (fun r7 h8 => ?_)
    exact g_iret (M := mX9_next) (pc := 14) dX9_next_14 rfl rfl (fun z => z)
def FX9_spare (a1 : Int32) (h : HI) : Option (Int32 × HI) :=
  Option.bind (FX9_isSet a1 h) fun r1 =>
  if r1 = 0 then
    Option.bind (FX9_tell (-1000000001) h) fun (r7, h8) =>
    some (r7, h8)
  else
    Option.bind (FX1_lookAt 0 h) fun h2 =>
    Option.bind (FX1_leastMissed a1 h2) fun (r3, h4) =>
    Option.bind (FX9_orNone r3 h4) fun (r5, h6) =>
    some (r5, h6)
set_option maxRecDepth 100000 in
set_option maxHeartbeats 4000000 in
theorem CX9_spare (a1 : Int32) (h : HI) (L : HL) : CG mX9_spare 4 [aR 3 16, aI a1] h L (lfIH L) (FX9_spare a1 h) := by
  unfold FX9_spare
  refine cg_of [some (aR 3 16), some (aI a1)] rfl (by decide) rfl rfl (fun T => ?_)
  refine g_aload_n (M := mX9_spare) (pc := 0) 1 dX9_spare_0 rfl rfl rfl ?_
  refine g_iload_n (M := mX9_spare) (pc := 1) 2 dX9_spare_1 rfl rfl rfl ?_
  refine g_cV_I (M := mX9_spare) (pc := 2) (M' := mX9_isSet) (rest := []) 5 dX9_spare_2 rfl kX9_128 okX9_isSet (CX9_isSet a1 h L) oO16 rfl rfl rfl rfl (fun r1 => ?_)
  refine g_if_ne (M := mX9_spare) (pc := 5) 15 8 dX9_spare_5 (by decide) rfl (fun _ => ?_) (fun _ => ?_)
  · refine g_aload_n (M := mX9_spare) (pc := 15) 16 dX9_spare_15 rfl rfl rfl ?_
    refine g_getR (M := mX9_spare) (pc := 16) 19 dX9_spare_16 rfl fX9_30 oR16_4 ?_
    refine g_aload_n (M := mX9_spare) (pc := 19) 20 dX9_spare_19 rfl rfl rfl ?_
    refine g_getR (M := mX9_spare) (pc := 20) 23 dX9_spare_20 rfl fX9_16 oR16_1 ?_
    refine g_cV_VH (M := mX9_spare) (pc := 23) (M' := mX1_lookAt) (rest := []) 26 dX9_spare_23 rfl kX9_145 okX1_lookAt (CX1_lookAt 0 (by decide) h L) oO18 rfl rfl rfl rfl (fun h2 => ?_)
    refine g_aload_n (M := mX9_spare) (pc := 26) 27 dX9_spare_26 rfl rfl rfl ?_
    refine g_aload_n (M := mX9_spare) (pc := 27) 28 dX9_spare_27 rfl rfl rfl ?_
    refine g_getR (M := mX9_spare) (pc := 28) 31 dX9_spare_28 rfl fX9_30 oR16_4 ?_
    refine g_iload_n (M := mX9_spare) (pc := 31) 32 dX9_spare_31 rfl rfl rfl ?_
    refine g_cV_IH (M := mX9_spare) (pc := 32) (M' := mX1_leastMissed) (rest := [aR 3 16]) 35 dX9_spare_32 rfl kX9_167 okX1_leastMissed (CX1_leastMissed a1 h2 L) oO18 rfl rfl rfl rfl (fun r3 h4 => ?_)
    refine g_cV_IH (M := mX9_spare) (pc := 35) (M' := mX9_orNone) (rest := []) 38 dX9_spare_35 rfl kX9_152 okX9_orNone (CX9_orNone r3 h4 L) oO16 rfl rfl rfl rfl (fun r5 h6 => ?_)
    exact g_iret (M := mX9_spare) (pc := 38) dX9_spare_38 rfl rfl (fun z => z)
  · refine g_aload_n (M := mX9_spare) (pc := 8) 9 dX9_spare_8 rfl rfl rfl ?_
    refine g_ldc (M := mX9_spare) (pc := 9) 11 dX9_spare_9 rfl cX9_59 ?_
    refine g_cV_IH (M := mX9_spare) (pc := 11) (M' := mX9_tell) (rest := []) 14 dX9_spare_11 rfl kX9_60 okX9_tell (CX9_tell (-1000000001) h L) oO16 rfl rfl rfl rfl (fun r7 h8 => ?_)
    exact g_iret (M := mX9_spare) (pc := 14) dX9_spare_14 rfl rfl (fun z => z)
def FX9_minutesFor (a1 : Int32) (h : HI) : Option (Int32 × HI) :=
  if 0 ≤ a1 then
    Option.bind (FX1_lookAt 0 h) fun h1 =>
    Option.bind (FX1_fewestMinutes a1 h1) fun (r2, h3) =>
    Option.bind (FX9_orNone r2 h3) fun (r4, h5) =>
    some (r4, h5)
  else
    Option.bind (FX9_tell (-1000000001) h) fun (r6, h7) =>
    some (r6, h7)
set_option maxRecDepth 100000 in
set_option maxHeartbeats 4000000 in
theorem CX9_minutesFor (a1 : Int32) (h : HI) (L : HL) : CG mX9_minutesFor 4 [aR 3 16, aI a1] h L (lfIH L) (FX9_minutesFor a1 h) := by
  unfold FX9_minutesFor
  refine cg_of [some (aR 3 16), some (aI a1)] rfl (by decide) rfl rfl (fun T => ?_)
  refine g_iload_n (M := mX9_minutesFor) (pc := 0) 1 dX9_minutesFor_0 rfl rfl rfl ?_
  refine g_if_ge (M := mX9_minutesFor) (pc := 1) 11 4 dX9_minutesFor_1 (by decide) rfl (fun _ => ?_) (fun _ => ?_)
  · refine g_aload_n (M := mX9_minutesFor) (pc := 11) 12 dX9_minutesFor_11 rfl rfl rfl ?_
    refine g_getR (M := mX9_minutesFor) (pc := 12) 15 dX9_minutesFor_12 rfl fX9_30 oR16_4 ?_
    refine g_aload_n (M := mX9_minutesFor) (pc := 15) 16 dX9_minutesFor_15 rfl rfl rfl ?_
    refine g_getR (M := mX9_minutesFor) (pc := 16) 19 dX9_minutesFor_16 rfl fX9_16 oR16_1 ?_
    refine g_cV_VH (M := mX9_minutesFor) (pc := 19) (M' := mX1_lookAt) (rest := []) 22 dX9_minutesFor_19 rfl kX9_145 okX1_lookAt (CX1_lookAt 0 (by decide) h L) oO18 rfl rfl rfl rfl (fun h1 => ?_)
    refine g_aload_n (M := mX9_minutesFor) (pc := 22) 23 dX9_minutesFor_22 rfl rfl rfl ?_
    refine g_aload_n (M := mX9_minutesFor) (pc := 23) 24 dX9_minutesFor_23 rfl rfl rfl ?_
    refine g_getR (M := mX9_minutesFor) (pc := 24) 27 dX9_minutesFor_24 rfl fX9_30 oR16_4 ?_
    refine g_iload_n (M := mX9_minutesFor) (pc := 27) 28 dX9_minutesFor_27 rfl rfl rfl ?_
    refine g_cV_IH (M := mX9_minutesFor) (pc := 28) (M' := mX1_fewestMinutes) (rest := [aR 3 16]) 31 dX9_minutesFor_28 rfl kX9_170 okX1_fewestMinutes (CX1_fewestMinutes a1 h1 L) oO18 rfl rfl rfl rfl (fun r2 h3 => ?_)
    refine g_cV_IH (M := mX9_minutesFor) (pc := 31) (M' := mX9_orNone) (rest := []) 34 dX9_minutesFor_31 rfl kX9_152 okX9_orNone (CX9_orNone r2 h3 L) oO16 rfl rfl rfl rfl (fun r4 h5 => ?_)
    exact g_iret (M := mX9_minutesFor) (pc := 34) dX9_minutesFor_34 rfl rfl (fun z => z)
  · refine g_aload_n (M := mX9_minutesFor) (pc := 4) 5 dX9_minutesFor_4 rfl rfl rfl ?_
    refine g_ldc (M := mX9_minutesFor) (pc := 5) 7 dX9_minutesFor_5 rfl cX9_59 ?_
    refine g_cV_IH (M := mX9_minutesFor) (pc := 7) (M' := mX9_tell) (rest := []) 10 dX9_minutesFor_7 rfl kX9_60 okX9_tell (CX9_tell (-1000000001) h L) oO16 rfl rfl rfl rfl (fun r6 h7 => ?_)
    exact g_iret (M := mX9_minutesFor) (pc := 10) dX9_minutesFor_10 rfl rfl (fun z => z)
def FX9_queue (a1 : Int32) (h : HI) : Option (Int32 × HI) :=
  Option.bind (FX9_isPhrase a1 h) fun r1 =>
  if r1 = 0 then
    Option.bind (FX9_tell (-1000000001) h) fun (r5, h6) =>
    some (r5, h6)
  else
    Option.bind (FX3_drop 0 a1 h) fun (r2, h3) =>
    Option.bind (FX3_append 0 a1 h3) fun h4 =>
    some ((h4 0 14 1), h4)
set_option maxRecDepth 100000 in
set_option maxHeartbeats 4000000 in
theorem CX9_queue (a1 : Int32) (h : HI) (L : HL) : CG mX9_queue 2 [aR 3 16, aI a1] h L (lfIH L) (FX9_queue a1 h) := by
  unfold FX9_queue
  refine cg_of [some (aR 3 16), some (aI a1)] rfl (by decide) rfl rfl (fun T => ?_)
  refine g_aload_n (M := mX9_queue) (pc := 0) 1 dX9_queue_0 rfl rfl rfl ?_
  refine g_iload_n (M := mX9_queue) (pc := 1) 2 dX9_queue_1 rfl rfl rfl ?_
  refine g_cV_I (M := mX9_queue) (pc := 2) (M' := mX9_isPhrase) (rest := []) 5 dX9_queue_2 rfl kX9_79 okX9_isPhrase (CX9_isPhrase a1 h L) oO16 rfl rfl rfl rfl (fun r1 => ?_)
  refine g_if_ne (M := mX9_queue) (pc := 5) 15 8 dX9_queue_5 (by decide) rfl (fun _ => ?_) (fun _ => ?_)
  · refine g_aload_n (M := mX9_queue) (pc := 15) 16 dX9_queue_15 rfl rfl rfl ?_
    refine g_getR (M := mX9_queue) (pc := 16) 19 dX9_queue_16 rfl fX9_16 oR16_1 ?_
    refine g_getR (M := mX9_queue) (pc := 19) 22 dX9_queue_19 rfl fX9_173 (oR0_2 (by decide)) ?_
    refine g_iload_n (M := mX9_queue) (pc := 22) 23 dX9_queue_22 rfl rfl rfl ?_
    refine g_cV_IH (M := mX9_queue) (pc := 23) (M' := mX3_drop) (rest := []) 26 dX9_queue_23 rfl kX9_177 okX3_drop (CX3_drop 0 (by decide) a1 h L) (oO14 (by decide)) rfl rfl rfl rfl (fun r2 h3 => ?_)
    refine g_pop (M := mX9_queue) (pc := 26) 27 dX9_queue_26 rfl rfl ?_
    refine g_aload_n (M := mX9_queue) (pc := 27) 28 dX9_queue_27 rfl rfl rfl ?_
    refine g_getR (M := mX9_queue) (pc := 28) 31 dX9_queue_28 rfl fX9_16 oR16_1 ?_
    refine g_getR (M := mX9_queue) (pc := 31) 34 dX9_queue_31 rfl fX9_173 (oR0_2 (by decide)) ?_
    refine g_iload_n (M := mX9_queue) (pc := 34) 35 dX9_queue_34 rfl rfl rfl ?_
    refine g_cV_VH (M := mX9_queue) (pc := 35) (M' := mX3_append) (rest := []) 38 dX9_queue_35 rfl kX9_182 okX3_append (CX3_append 0 (by decide) a1 h3 L) (oO14 (by decide)) rfl rfl rfl rfl (fun h4 => ?_)
    refine g_aload_n (M := mX9_queue) (pc := 38) 39 dX9_queue_38 rfl rfl rfl ?_
    refine g_getR (M := mX9_queue) (pc := 39) 42 dX9_queue_39 rfl fX9_16 oR16_1 ?_
    refine g_getR (M := mX9_queue) (pc := 42) 45 dX9_queue_42 rfl fX9_173 (oR0_2 (by decide)) ?_
    refine g_getI (M := mX9_queue) (pc := 45) 48 dX9_queue_45 rfl fX9_186 (oF14_1 (by decide)) ?_
    exact g_iret (M := mX9_queue) (pc := 48) dX9_queue_48 rfl rfl (fun z => z)
  · refine g_aload_n (M := mX9_queue) (pc := 8) 9 dX9_queue_8 rfl rfl rfl ?_
    refine g_ldc (M := mX9_queue) (pc := 9) 11 dX9_queue_9 rfl cX9_59 ?_
    refine g_cV_IH (M := mX9_queue) (pc := 11) (M' := mX9_tell) (rest := []) 14 dX9_queue_11 rfl kX9_60 okX9_tell (CX9_tell (-1000000001) h L) oO16 rfl rfl rfl rfl (fun r5 h6 => ?_)
    exact g_iret (M := mX9_queue) (pc := 14) dX9_queue_14 rfl rfl (fun z => z)
def FX9_skip (a1 : Int32) (h : HI) : Option (Int32 × HI) :=
  Option.bind (FX9_isPhrase a1 h) fun r1 =>
  if r1 = 0 then
    Option.bind (FX9_tell (-1000000001) h) fun (r6, h7) =>
    some (r6, h7)
  else
    Option.bind (FX3_drop 0 a1 h) fun (r2, h3) =>
    Option.bind (FX9_orNone r2 h3) fun (r4, h5) =>
    some (r4, h5)
set_option maxRecDepth 100000 in
set_option maxHeartbeats 4000000 in
theorem CX9_skip (a1 : Int32) (h : HI) (L : HL) : CG mX9_skip 2 [aR 3 16, aI a1] h L (lfIH L) (FX9_skip a1 h) := by
  unfold FX9_skip
  refine cg_of [some (aR 3 16), some (aI a1)] rfl (by decide) rfl rfl (fun T => ?_)
  refine g_aload_n (M := mX9_skip) (pc := 0) 1 dX9_skip_0 rfl rfl rfl ?_
  refine g_iload_n (M := mX9_skip) (pc := 1) 2 dX9_skip_1 rfl rfl rfl ?_
  refine g_cV_I (M := mX9_skip) (pc := 2) (M' := mX9_isPhrase) (rest := []) 5 dX9_skip_2 rfl kX9_79 okX9_isPhrase (CX9_isPhrase a1 h L) oO16 rfl rfl rfl rfl (fun r1 => ?_)
  refine g_if_ne (M := mX9_skip) (pc := 5) 15 8 dX9_skip_5 (by decide) rfl (fun _ => ?_) (fun _ => ?_)
  · refine g_aload_n (M := mX9_skip) (pc := 15) 16 dX9_skip_15 rfl rfl rfl ?_
    refine g_aload_n (M := mX9_skip) (pc := 16) 17 dX9_skip_16 rfl rfl rfl ?_
    refine g_getR (M := mX9_skip) (pc := 17) 20 dX9_skip_17 rfl fX9_16 oR16_1 ?_
    refine g_getR (M := mX9_skip) (pc := 20) 23 dX9_skip_20 rfl fX9_173 (oR0_2 (by decide)) ?_
    refine g_iload_n (M := mX9_skip) (pc := 23) 24 dX9_skip_23 rfl rfl rfl ?_
    refine g_cV_IH (M := mX9_skip) (pc := 24) (M' := mX3_drop) (rest := [aR 3 16]) 27 dX9_skip_24 rfl kX9_177 okX3_drop (CX3_drop 0 (by decide) a1 h L) (oO14 (by decide)) rfl rfl rfl rfl (fun r2 h3 => ?_)
    refine g_cV_IH (M := mX9_skip) (pc := 27) (M' := mX9_orNone) (rest := []) 30 dX9_skip_27 rfl kX9_152 okX9_orNone (CX9_orNone r2 h3 L) oO16 rfl rfl rfl rfl (fun r4 h5 => ?_)
    exact g_iret (M := mX9_skip) (pc := 30) dX9_skip_30 rfl rfl (fun z => z)
  · refine g_aload_n (M := mX9_skip) (pc := 8) 9 dX9_skip_8 rfl rfl rfl ?_
    refine g_ldc (M := mX9_skip) (pc := 9) 11 dX9_skip_9 rfl cX9_59 ?_
    refine g_cV_IH (M := mX9_skip) (pc := 11) (M' := mX9_tell) (rest := []) 14 dX9_skip_11 rfl kX9_60 okX9_tell (CX9_tell (-1000000001) h L) oO16 rfl rfl rfl rfl (fun r6 h7 => ?_)
    exact g_iret (M := mX9_skip) (pc := 14) dX9_skip_14 rfl rfl (fun z => z)
