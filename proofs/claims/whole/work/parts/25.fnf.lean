-- functions of the methods and their contracts, by program (wip/whole/dec.py): X10_isPhrase X10_isWant X10_isSet X10_at X10_its X10_wants X10_puts X10_putsBack X10_isPart X10_newPhrase X10_phrase X10_isKnown X10_forgets X10_of X10_set X10_turn X10_as X10_newWant X10_want X10_wantOf X10_change X10_hasRope X10_hasMending X10_gainOf X10_gain X10_metOf
def FX10_isPhrase (a1 : Int32) (h : HI) : Option (Int32) :=
  Option.bind (FX10_in (Int32.toInt64 a1) 0 (Int32.toInt64 ((h 8 33 0) - 1))) fun r1 =>
  gd (isB r1) (some r1)
set_option maxRecDepth 100000 in
set_option maxHeartbeats 4000000 in
theorem CX10_isPhrase (a1 : Int32) (h : HI) (L : HL) : CG mX10_isPhrase 1 [aR 8 32, aI a1] h L (lfI h L) (FX10_isPhrase a1 h) := by
  unfold FX10_isPhrase
  refine cg_of [some (aR 8 32), some (aI a1)] rfl (by decide) rfl rfl (fun T => ?_)
  refine g_iload_n (M := mX10_isPhrase) (pc := 0) 1 dX10_isPhrase_0 rfl rfl rfl ?_
  refine g_i2l (M := mX10_isPhrase) (pc := 1) 2 dX10_isPhrase_1 rfl ?_
  refine g_lconst (M := mX10_isPhrase) (pc := 2) (v := 0) 3 dX10_isPhrase_2 rfl rfl ?_
  refine g_aload_n (M := mX10_isPhrase) (pc := 3) 4 dX10_isPhrase_3 rfl rfl rfl ?_
  refine g_getR (M := mX10_isPhrase) (pc := 4) 7 dX10_isPhrase_4 rfl fX10_7 oR32_0 ?_
  refine g_iconst (M := mX10_isPhrase) (pc := 7) (v := 0) 8 dX10_isPhrase_7 rfl ic0 ?_
  refine g_ialdC (M := mX10_isPhrase) (pc := 8) (j := 0) 9 dX10_isPhrase_8 rfl oA33 rfl rfl ?_
  refine g_iconst (M := mX10_isPhrase) (pc := 9) (v := 1) 10 dX10_isPhrase_9 rfl ic1 ?_
  refine g_isub (M := mX10_isPhrase) (pc := 10) 11 dX10_isPhrase_10 rfl ?_
  refine g_i2l (M := mX10_isPhrase) (pc := 11) 12 dX10_isPhrase_11 rfl ?_
  refine g_cS_I (M := mX10_isPhrase) (pc := 12) (M' := mX10_in) (rest := []) 15 dX10_isPhrase_12 rfl kX10_45 okX10_in (CX10_in (Int32.toInt64 a1) 0 (Int32.toInt64 ((h 8 33 0) - 1)) h L) rfl rfl rfl rfl (fun r1 => ?_)
  exact g_zret (M := mX10_isPhrase) (pc := 15) dX10_isPhrase_15 rfl (fun z => z)
def FX10_isWant (a1 : Int32) (h : HI) : Option (Int32) :=
  Option.bind (FX10_in (Int32.toInt64 a1) 0 (Int32.toInt64 ((h 8 33 1) - 1))) fun r1 =>
  gd (isB r1) (some r1)
set_option maxRecDepth 100000 in
set_option maxHeartbeats 4000000 in
theorem CX10_isWant (a1 : Int32) (h : HI) (L : HL) : CG mX10_isWant 1 [aR 8 32, aI a1] h L (lfI h L) (FX10_isWant a1 h) := by
  unfold FX10_isWant
  refine cg_of [some (aR 8 32), some (aI a1)] rfl (by decide) rfl rfl (fun T => ?_)
  refine g_iload_n (M := mX10_isWant) (pc := 0) 1 dX10_isWant_0 rfl rfl rfl ?_
  refine g_i2l (M := mX10_isWant) (pc := 1) 2 dX10_isWant_1 rfl ?_
  refine g_lconst (M := mX10_isWant) (pc := 2) (v := 0) 3 dX10_isWant_2 rfl rfl ?_
  refine g_aload_n (M := mX10_isWant) (pc := 3) 4 dX10_isWant_3 rfl rfl rfl ?_
  refine g_getR (M := mX10_isWant) (pc := 4) 7 dX10_isWant_4 rfl fX10_7 oR32_0 ?_
  refine g_iconst (M := mX10_isWant) (pc := 7) (v := 1) 8 dX10_isWant_7 rfl ic1 ?_
  refine g_ialdC (M := mX10_isWant) (pc := 8) (j := 1) 9 dX10_isWant_8 rfl oA33 rfl rfl ?_
  refine g_iconst (M := mX10_isWant) (pc := 9) (v := 1) 10 dX10_isWant_9 rfl ic1 ?_
  refine g_isub (M := mX10_isWant) (pc := 10) 11 dX10_isWant_10 rfl ?_
  refine g_i2l (M := mX10_isWant) (pc := 11) 12 dX10_isWant_11 rfl ?_
  refine g_cS_I (M := mX10_isWant) (pc := 12) (M' := mX10_in) (rest := []) 15 dX10_isWant_12 rfl kX10_45 okX10_in (CX10_in (Int32.toInt64 a1) 0 (Int32.toInt64 ((h 8 33 1) - 1)) h L) rfl rfl rfl rfl (fun r1 => ?_)
  exact g_zret (M := mX10_isWant) (pc := 15) dX10_isWant_15 rfl (fun z => z)
def FX10_isSet (a1 : Int32) (h : HI) : Option (Int32) :=
  Option.bind (FX10_in (Int32.toInt64 a1) 0 (Int32.toInt64 ((1 <<< ((h 8 33 0) &&& 31)) - 1))) fun r1 =>
  gd (isB r1) (some r1)
set_option maxRecDepth 100000 in
set_option maxHeartbeats 4000000 in
theorem CX10_isSet (a1 : Int32) (h : HI) (L : HL) : CG mX10_isSet 1 [aR 8 32, aI a1] h L (lfI h L) (FX10_isSet a1 h) := by
  unfold FX10_isSet
  refine cg_of [some (aR 8 32), some (aI a1)] rfl (by decide) rfl rfl (fun T => ?_)
  refine g_iload_n (M := mX10_isSet) (pc := 0) 1 dX10_isSet_0 rfl rfl rfl ?_
  refine g_i2l (M := mX10_isSet) (pc := 1) 2 dX10_isSet_1 rfl ?_
  refine g_lconst (M := mX10_isSet) (pc := 2) (v := 0) 3 dX10_isSet_2 rfl rfl ?_
  refine g_iconst (M := mX10_isSet) (pc := 3) (v := 1) 4 dX10_isSet_3 rfl ic1 ?_
  refine g_aload_n (M := mX10_isSet) (pc := 4) 5 dX10_isSet_4 rfl rfl rfl ?_
  refine g_getR (M := mX10_isSet) (pc := 5) 8 dX10_isSet_5 rfl fX10_7 oR32_0 ?_
  refine g_iconst (M := mX10_isSet) (pc := 8) (v := 0) 9 dX10_isSet_8 rfl ic0 ?_
  refine g_ialdC (M := mX10_isSet) (pc := 9) (j := 0) 10 dX10_isSet_9 rfl oA33 rfl rfl ?_
  refine g_ishl (M := mX10_isSet) (pc := 10) 11 dX10_isSet_10 rfl ?_
  refine g_iconst (M := mX10_isSet) (pc := 11) (v := 1) 12 dX10_isSet_11 rfl ic1 ?_
  refine g_isub (M := mX10_isSet) (pc := 12) 13 dX10_isSet_12 rfl ?_
  refine g_i2l (M := mX10_isSet) (pc := 13) 14 dX10_isSet_13 rfl ?_
  refine g_cS_I (M := mX10_isSet) (pc := 14) (M' := mX10_in) (rest := []) 17 dX10_isSet_14 rfl kX10_45 okX10_in (CX10_in (Int32.toInt64 a1) 0 (Int32.toInt64 ((1 <<< ((h 8 33 0) &&& 31)) - 1)) h L) rfl rfl rfl rfl (fun r1 => ?_)
  exact g_zret (M := mX10_isSet) (pc := 17) dX10_isSet_17 rfl (fun z => z)
def FX10_at (a0 : Int32) (a1 : Int32) : Option (Int32) :=
  some ((6 + (6 * a0)) + a1)
set_option maxRecDepth 100000 in
set_option maxHeartbeats 4000000 in
theorem CX10_at (a0 : Int32) (a1 : Int32) (h : HI) (L : HL) : CG mX10_at 0 [aI a0, aI a1] h L (lfI h L) (FX10_at a0 a1) := by
  unfold FX10_at
  refine cg_of [some (aI a0), some (aI a1)] rfl (by decide) rfl rfl (fun T => ?_)
  refine g_bipush (M := mX10_at) (pc := 0) (v := 6) 2 dX10_at_0 rfl bp6 ?_
  refine g_bipush (M := mX10_at) (pc := 2) (v := 6) 4 dX10_at_2 rfl bp6 ?_
  refine g_iload_n (M := mX10_at) (pc := 4) 5 dX10_at_4 rfl rfl rfl ?_
  refine g_imul (M := mX10_at) (pc := 5) 6 dX10_at_5 rfl ?_
  refine g_iadd (M := mX10_at) (pc := 6) 7 dX10_at_6 rfl ?_
  refine g_iload_n (M := mX10_at) (pc := 7) 8 dX10_at_7 rfl rfl rfl ?_
  refine g_iadd (M := mX10_at) (pc := 8) 9 dX10_at_8 rfl ?_
  exact g_iret (M := mX10_at) (pc := 9) dX10_at_9 rfl rfl (fun z => z)
def FX10_its (a1 : Int32) (a2 : Int32) (h : HI) : Option (Int32) :=
  Option.bind (FX10_at a1 a2) fun r1 =>
  gd (ixb r1 150) <|
  some (h 8 33 (nC r1))
set_option maxRecDepth 100000 in
set_option maxHeartbeats 4000000 in
theorem CX10_its (a1 : Int32) (a2 : Int32) (h : HI) (L : HL) : CG mX10_its 1 [aR 8 32, aI a1, aI a2] h L (lfI h L) (FX10_its a1 a2 h) := by
  unfold FX10_its
  refine cg_of [some (aR 8 32), some (aI a1), some (aI a2)] rfl (by decide) rfl rfl (fun T => ?_)
  refine g_aload_n (M := mX10_its) (pc := 0) 1 dX10_its_0 rfl rfl rfl ?_
  refine g_getR (M := mX10_its) (pc := 1) 4 dX10_its_1 rfl fX10_7 oR32_0 ?_
  refine g_iload_n (M := mX10_its) (pc := 4) 5 dX10_its_4 rfl rfl rfl ?_
  refine g_iload_n (M := mX10_its) (pc := 5) 6 dX10_its_5 rfl rfl rfl ?_
  refine g_cS_I (M := mX10_its) (pc := 6) (M' := mX10_at) (rest := [aR 8 33]) 9 dX10_its_6 rfl kX10_49 okX10_at (CX10_at a1 a2 h L) rfl rfl rfl rfl (fun r1 => ?_)
  refine g_iald (M := mX10_its) (pc := 9) 10 dX10_its_9 rfl oA33 ?_
  exact g_iret (M := mX10_its) (pc := 10) dX10_its_10 rfl rfl (fun z => z)
def FX10_wants (a1 : Int32) (a2 : Int32) (h : HI) : Option (Int32) :=
  gd (ixb ((78 + (5 * a1)) + a2) 150) <|
  some (h 8 33 (nC ((78 + (5 * a1)) + a2)))
set_option maxRecDepth 100000 in
set_option maxHeartbeats 4000000 in
theorem CX10_wants (a1 : Int32) (a2 : Int32) (h : HI) (L : HL) : CG mX10_wants 0 [aR 8 32, aI a1, aI a2] h L (lfI h L) (FX10_wants a1 a2 h) := by
  unfold FX10_wants
  refine cg_of [some (aR 8 32), some (aI a1), some (aI a2)] rfl (by decide) rfl rfl (fun T => ?_)
  refine g_aload_n (M := mX10_wants) (pc := 0) 1 dX10_wants_0 rfl rfl rfl ?_
  refine g_getR (M := mX10_wants) (pc := 1) 4 dX10_wants_1 rfl fX10_7 oR32_0 ?_
  refine g_bipush (M := mX10_wants) (pc := 4) (v := 78) 6 dX10_wants_4 rfl bp78 ?_
  refine g_iconst (M := mX10_wants) (pc := 6) (v := 5) 7 dX10_wants_6 rfl ic5 ?_
  refine g_iload_n (M := mX10_wants) (pc := 7) 8 dX10_wants_7 rfl rfl rfl ?_
  refine g_imul (M := mX10_wants) (pc := 8) 9 dX10_wants_8 rfl ?_
  refine g_iadd (M := mX10_wants) (pc := 9) 10 dX10_wants_9 rfl ?_
  refine g_iload_n (M := mX10_wants) (pc := 10) 11 dX10_wants_10 rfl rfl rfl ?_
  refine g_iadd (M := mX10_wants) (pc := 11) 12 dX10_wants_11 rfl ?_
  refine g_iald (M := mX10_wants) (pc := 12) 13 dX10_wants_12 rfl oA33 ?_
  exact g_iret (M := mX10_wants) (pc := 13) dX10_wants_13 rfl rfl (fun z => z)
def SX10_puts_2 : (Int32 × HI) → Option ((Int32 × HI) ⊕ (HI))
  | (a1, h) =>
    if 150 ≤ a1 then
      some (Sum.inr h)
    else
      gd (ixb a1 150) <|
      gd (ixb a1 150) <|
      nm (hP1 h 8 35 (nC a1) (h 8 33 (nC a1))) fun h1 =>
      some (Sum.inl ((a1 + 1), h1))
def FX10_puts (h : HI) : Option (HI) :=
  Option.bind (loopN (SX10_puts_2) FU (0, h)) fun h2 =>
    some h2
set_option maxRecDepth 100000 in
set_option maxHeartbeats 4000000 in
theorem SX10_puts_2_ok (L : HL) (T : ZT) (a1 : Int32) (h : HI) : VX mX10_puts 0 T (gS (fun s : Int32 × HI => V mX10_puts 0 T 2 [some (aR 8 32), some (aI (s.1))] [] (s.2) L) (fun s : HI => V mX10_puts 0 T 27 [none, none] [] s L)) 2 [some (aR 8 32), some (aI a1)] [] h L (SX10_puts_2 (a1, h)) := by
  unfold SX10_puts_2
  refine g_iload_n (M := mX10_puts) (pc := 2) 3 dX10_puts_2 rfl rfl rfl ?_
  refine g_sipush (M := mX10_puts) (pc := 3) (v := 150) 6 dX10_puts_3 rfl sp150 ?_
  refine g_icmp_ge (M := mX10_puts) (pc := 6) 27 9 dX10_puts_6 (by decide) rfl (fun _ => ?_) (fun _ => ?_)
  · exact g_jmp (fun z => v_fgt [false, false] z)
  · refine g_aload_n (M := mX10_puts) (pc := 9) 10 dX10_puts_9 rfl rfl rfl ?_
    refine g_getR (M := mX10_puts) (pc := 10) 13 dX10_puts_10 rfl fX10_16 oR32_2 ?_
    refine g_iload_n (M := mX10_puts) (pc := 13) 14 dX10_puts_13 rfl rfl rfl ?_
    refine g_aload_n (M := mX10_puts) (pc := 14) 15 dX10_puts_14 rfl rfl rfl ?_
    refine g_getR (M := mX10_puts) (pc := 15) 18 dX10_puts_15 rfl fX10_7 oR32_0 ?_
    refine g_iload_n (M := mX10_puts) (pc := 18) 19 dX10_puts_18 rfl rfl rfl ?_
    refine g_iald (M := mX10_puts) (pc := 19) 20 dX10_puts_19 rfl oA33 ?_
    refine g_iast (M := mX10_puts) (pc := 20) 21 dX10_puts_20 rfl oA35 (fun h1 => ?_)
    refine g_iinc (M := mX10_puts) (pc := 21) (c := 1) (ls' := [some (aR 8 32), some (aI (a1 + 1))]) 24 dX10_puts_21 rfl ic1 rfl rfl rfl ?_
    refine g_goto (M := mX10_puts) (pc := 24) 2 dX10_puts_24 (by decide) ?_
    exact g_jmp (fun z => v_fgt [true, true] z)
set_option maxRecDepth 100000 in
set_option maxHeartbeats 4000000 in
theorem CX10_puts (h : HI) (L : HL) : CG mX10_puts 0 [aR 8 32] h L (lfVH L) (FX10_puts h) := by
  unfold FX10_puts
  refine cg_of [some (aR 8 32), none] rfl (by decide) rfl rfl (fun T => ?_)
  refine g_iconst (M := mX10_puts) (pc := 0) (v := 0) 1 dX10_puts_0 rfl ic0 ?_
  refine g_istore_n (M := mX10_puts) (pc := 1) (ls' := [some (aR 8 32), some (aI 0)]) 2 dX10_puts_1 rfl rfl rfl rfl ?_
  refine g_loop (fun s => SX10_puts_2_ok L T s.1 s.2) ?_ (fun z => v_fgt [true, true] z)
  intro h2
  show VX mX10_puts 0 T _ 27 [none, none] [] h2 L _
  exact g_vret (M := mX10_puts) (pc := 27) dX10_puts_27 rfl (fun z => z)
def SX10_putsBack_2 : (Int32 × HI) → Option ((Int32 × HI) ⊕ (HI))
  | (a1, h) =>
    if 150 ≤ a1 then
      some (Sum.inr h)
    else
      gd (ixb a1 150) <|
      gd (ixb a1 150) <|
      nm (hP1 h 8 33 (nC a1) (h 8 35 (nC a1))) fun h1 =>
      some (Sum.inl ((a1 + 1), h1))
def FX10_putsBack (h : HI) : Option (HI) :=
  Option.bind (loopN (SX10_putsBack_2) FU (0, h)) fun h2 =>
    some h2
set_option maxRecDepth 100000 in
set_option maxHeartbeats 4000000 in
theorem SX10_putsBack_2_ok (L : HL) (T : ZT) (a1 : Int32) (h : HI) : VX mX10_putsBack 0 T (gS (fun s : Int32 × HI => V mX10_putsBack 0 T 2 [some (aR 8 32), some (aI (s.1))] [] (s.2) L) (fun s : HI => V mX10_putsBack 0 T 27 [none, none] [] s L)) 2 [some (aR 8 32), some (aI a1)] [] h L (SX10_putsBack_2 (a1, h)) := by
  unfold SX10_putsBack_2
  refine g_iload_n (M := mX10_putsBack) (pc := 2) 3 dX10_putsBack_2 rfl rfl rfl ?_
  refine g_sipush (M := mX10_putsBack) (pc := 3) (v := 150) 6 dX10_putsBack_3 rfl sp150 ?_
  refine g_icmp_ge (M := mX10_putsBack) (pc := 6) 27 9 dX10_putsBack_6 (by decide) rfl (fun _ => ?_) (fun _ => ?_)
  · exact g_jmp (fun z => v_fgt [false, false] z)
  · refine g_aload_n (M := mX10_putsBack) (pc := 9) 10 dX10_putsBack_9 rfl rfl rfl ?_
    refine g_getR (M := mX10_putsBack) (pc := 10) 13 dX10_putsBack_10 rfl fX10_7 oR32_0 ?_
    refine g_iload_n (M := mX10_putsBack) (pc := 13) 14 dX10_putsBack_13 rfl rfl rfl ?_
    refine g_aload_n (M := mX10_putsBack) (pc := 14) 15 dX10_putsBack_14 rfl rfl rfl ?_
    refine g_getR (M := mX10_putsBack) (pc := 15) 18 dX10_putsBack_15 rfl fX10_16 oR32_2 ?_
    refine g_iload_n (M := mX10_putsBack) (pc := 18) 19 dX10_putsBack_18 rfl rfl rfl ?_
    refine g_iald (M := mX10_putsBack) (pc := 19) 20 dX10_putsBack_19 rfl oA35 ?_
    refine g_iast (M := mX10_putsBack) (pc := 20) 21 dX10_putsBack_20 rfl oA33 (fun h1 => ?_)
    refine g_iinc (M := mX10_putsBack) (pc := 21) (c := 1) (ls' := [some (aR 8 32), some (aI (a1 + 1))]) 24 dX10_putsBack_21 rfl ic1 rfl rfl rfl ?_
    refine g_goto (M := mX10_putsBack) (pc := 24) 2 dX10_putsBack_24 (by decide) ?_
    exact g_jmp (fun z => v_fgt [true, true] z)
set_option maxRecDepth 100000 in
set_option maxHeartbeats 4000000 in
theorem CX10_putsBack (h : HI) (L : HL) : CG mX10_putsBack 0 [aR 8 32] h L (lfVH L) (FX10_putsBack h) := by
  unfold FX10_putsBack
  refine cg_of [some (aR 8 32), none] rfl (by decide) rfl rfl (fun T => ?_)
  refine g_iconst (M := mX10_putsBack) (pc := 0) (v := 0) 1 dX10_putsBack_0 rfl ic0 ?_
  refine g_istore_n (M := mX10_putsBack) (pc := 1) (ls' := [some (aR 8 32), some (aI 0)]) 2 dX10_putsBack_1 rfl rfl rfl rfl ?_
  refine g_loop (fun s => SX10_putsBack_2_ok L T s.1 s.2) ?_ (fun z => v_fgt [true, true] z)
  intro h2
  show VX mX10_putsBack 0 T _ 27 [none, none] [] h2 L _
  exact g_vret (M := mX10_putsBack) (pc := 27) dX10_putsBack_27 rfl (fun z => z)
def FX10_isPart (a0 : Int32) (a1 : Int32) : Option (Int32) :=
  if a0 = 0 then
    Option.bind (FX10_in (Int32.toInt64 a1) 0 5) fun r1 =>
    gd (isB r1) (some r1)
  else
  if a0 = 1 then
    Option.bind (FX10_in (Int32.toInt64 a1) 0 9) fun r2 =>
    gd (isB r2) (some r2)
  else
  if a0 = 2 then
    Option.bind (FX10_in (Int32.toInt64 a1) 1 60) fun r3 =>
    gd (isB r3) (some r3)
  else
  if a0 = 3 then
    Option.bind (FX10_in (Int32.toInt64 a1) 0 10) fun r4 =>
    gd (isB r4) (some r4)
  else
  if a0 = 4 then
    Option.bind (FX10_in (Int32.toInt64 a1) 0 100) fun r5 =>
    if r5 = 0 then
      some 0
    else
      some 1
  else
    some 0
set_option maxRecDepth 100000 in
set_option maxHeartbeats 4000000 in
theorem CX10_isPart (a0 : Int32) (a1 : Int32) (h : HI) (L : HL) : CG mX10_isPart 1 [aI a0, aI a1] h L (lfI h L) (FX10_isPart a0 a1) := by
  unfold FX10_isPart
  refine cg_of [some (aI a0), some (aI a1)] rfl (by decide) rfl rfl (fun T => ?_)
  refine g_iload_n (M := mX10_isPart) (pc := 0) 1 dX10_isPart_0 rfl rfl rfl ?_
  refine g_tsc (M := mX10_isPart) (pc := 1) (v := 0) 32 dX10_isPart_1 (by decide) (by decide) rfl (by decide) (fun _ => ?_) (fun z0 => ?_)
  · refine g_iload_n (M := mX10_isPart) (pc := 32) 33 dX10_isPart_32 rfl rfl rfl ?_
    refine g_i2l (M := mX10_isPart) (pc := 33) 34 dX10_isPart_33 rfl ?_
    refine g_lconst (M := mX10_isPart) (pc := 34) (v := 0) 35 dX10_isPart_34 rfl rfl ?_
    refine g_ldc2 (M := mX10_isPart) (pc := 35) 38 dX10_isPart_35 rfl cX10_53 ?_
    refine g_cS_I (M := mX10_isPart) (pc := 38) (M' := mX10_in) (rest := []) 41 dX10_isPart_38 rfl kX10_45 okX10_in (CX10_in (Int32.toInt64 a1) 0 5 h L) rfl rfl rfl rfl (fun r1 => ?_)
    exact g_zret (M := mX10_isPart) (pc := 41) dX10_isPart_41 rfl (fun z => z)
  refine g_tsc (M := mX10_isPart) (pc := 1) (v := 1) 42 dX10_isPart_1 (by decide) (by decide) rfl (by decide) (fun _ => ?_) (fun z1 => ?_)
  · refine g_iload_n (M := mX10_isPart) (pc := 42) 43 dX10_isPart_42 rfl rfl rfl ?_
    refine g_i2l (M := mX10_isPart) (pc := 43) 44 dX10_isPart_43 rfl ?_
    refine g_lconst (M := mX10_isPart) (pc := 44) (v := 0) 45 dX10_isPart_44 rfl rfl ?_
    refine g_ldc2 (M := mX10_isPart) (pc := 45) 48 dX10_isPart_45 rfl cX10_55 ?_
    refine g_cS_I (M := mX10_isPart) (pc := 48) (M' := mX10_in) (rest := []) 51 dX10_isPart_48 rfl kX10_45 okX10_in (CX10_in (Int32.toInt64 a1) 0 9 h L) rfl rfl rfl rfl (fun r2 => ?_)
    exact g_zret (M := mX10_isPart) (pc := 51) dX10_isPart_51 rfl (fun z => z)
  refine g_tsc (M := mX10_isPart) (pc := 1) (v := 2) 52 dX10_isPart_1 (by decide) (by decide) rfl (by decide) (fun _ => ?_) (fun z2 => ?_)
  · refine g_iload_n (M := mX10_isPart) (pc := 52) 53 dX10_isPart_52 rfl rfl rfl ?_
    refine g_i2l (M := mX10_isPart) (pc := 53) 54 dX10_isPart_53 rfl ?_
    refine g_lconst (M := mX10_isPart) (pc := 54) (v := 1) 55 dX10_isPart_54 rfl rfl ?_
    refine g_ldc2 (M := mX10_isPart) (pc := 55) 58 dX10_isPart_55 rfl cX10_57 ?_
    refine g_cS_I (M := mX10_isPart) (pc := 58) (M' := mX10_in) (rest := []) 61 dX10_isPart_58 rfl kX10_45 okX10_in (CX10_in (Int32.toInt64 a1) 1 60 h L) rfl rfl rfl rfl (fun r3 => ?_)
    exact g_zret (M := mX10_isPart) (pc := 61) dX10_isPart_61 rfl (fun z => z)
  refine g_tsc (M := mX10_isPart) (pc := 1) (v := 3) 62 dX10_isPart_1 (by decide) (by decide) rfl (by decide) (fun _ => ?_) (fun z3 => ?_)
  · refine g_iload_n (M := mX10_isPart) (pc := 62) 63 dX10_isPart_62 rfl rfl rfl ?_
    refine g_i2l (M := mX10_isPart) (pc := 63) 64 dX10_isPart_63 rfl ?_
    refine g_lconst (M := mX10_isPart) (pc := 64) (v := 0) 65 dX10_isPart_64 rfl rfl ?_
    refine g_ldc2 (M := mX10_isPart) (pc := 65) 68 dX10_isPart_65 rfl cX10_59 ?_
    refine g_cS_I (M := mX10_isPart) (pc := 68) (M' := mX10_in) (rest := []) 71 dX10_isPart_68 rfl kX10_45 okX10_in (CX10_in (Int32.toInt64 a1) 0 10 h L) rfl rfl rfl rfl (fun r4 => ?_)
    exact g_zret (M := mX10_isPart) (pc := 71) dX10_isPart_71 rfl (fun z => z)
  refine g_tsOut (M := mX10_isPart) (pc := 1) 72 dX10_isPart_1 (by have y0 := lv_neT z0 (a := 0) rfl; have y1 := lv_neT z1 (a := 1) rfl; have y2 := lv_neT z2 (a := 2) rfl; have y3 := lv_neT z3 (a := 3) rfl; omega) (by decide) ?_
  refine g_iload_n (M := mX10_isPart) (pc := 72) 73 dX10_isPart_72 rfl rfl rfl ?_
  refine g_iconst (M := mX10_isPart) (pc := 73) (v := 4) 74 dX10_isPart_73 rfl ic4 ?_
  refine g_icmp_ne (M := mX10_isPart) (pc := 74) 93 77 dX10_isPart_74 (by decide) rfl (fun _ => ?_) (fun _ => ?_)
  · refine g_iconst (M := mX10_isPart) (pc := 93) (v := 0) 94 dX10_isPart_93 rfl ic0 ?_
    exact g_iret (M := mX10_isPart) (pc := 94) dX10_isPart_94 rfl nz0 (fun z => z)
  · refine g_iload_n (M := mX10_isPart) (pc := 77) 78 dX10_isPart_77 rfl rfl rfl ?_
    refine g_i2l (M := mX10_isPart) (pc := 78) 79 dX10_isPart_78 rfl ?_
    refine g_lconst (M := mX10_isPart) (pc := 79) (v := 0) 80 dX10_isPart_79 rfl rfl ?_
    refine g_ldc2 (M := mX10_isPart) (pc := 80) 83 dX10_isPart_80 rfl cX10_61 ?_
    refine g_cS_I (M := mX10_isPart) (pc := 83) (M' := mX10_in) (rest := []) 86 dX10_isPart_83 rfl kX10_45 okX10_in (CX10_in (Int32.toInt64 a1) 0 100 h L) rfl rfl rfl rfl (fun r5 => ?_)
    refine g_if_eq (M := mX10_isPart) (pc := 86) 93 89 dX10_isPart_86 (by decide) rfl (fun _ => ?_) (fun _ => ?_)
    · refine g_iconst (M := mX10_isPart) (pc := 93) (v := 0) 94 dX10_isPart_93 rfl ic0 ?_
      exact g_iret (M := mX10_isPart) (pc := 94) dX10_isPart_94 rfl nz0 (fun z => z)
    · refine g_iconst (M := mX10_isPart) (pc := 89) (v := 1) 90 dX10_isPart_89 rfl ic1 ?_
      refine g_goto (M := mX10_isPart) (pc := 90) 94 dX10_isPart_90 (by decide) ?_
      exact g_iret (M := mX10_isPart) (pc := 94) dX10_isPart_94 rfl nz1 (fun z => z)
def FX10_newPhrase (a1 : Int32) (a2 : Int32) (a3 : Int32) (a4 : Int32) (h : HI) : Option (Int32 × HI) :=
  nm (h 8 33 0) fun t1 =>
  Option.bind (FX10_at t1 0) fun r2 =>
  gd (ixb r2 150) <|
  nm (hP1 h 8 33 (nC r2) a1) fun h3 =>
  Option.bind (FX10_at t1 1) fun r4 =>
  gd (ixb r4 150) <|
  nm (hP1 h3 8 33 (nC r4) a2) fun h5 =>
  Option.bind (FX10_at t1 2) fun r6 =>
  gd (ixb r6 150) <|
  nm (hP1 h5 8 33 (nC r6) a3) fun h7 =>
  Option.bind (FX10_at t1 3) fun r8 =>
  gd (ixb r8 150) <|
  nm (hP1 h7 8 33 (nC r8) a4) fun h9 =>
  Option.bind (FX10_at t1 4) fun r10 =>
  gd (ixb r10 150) <|
  nm (hP1 h9 8 33 (nC r10) 0) fun h11 =>
  Option.bind (FX10_at t1 5) fun r12 =>
  gd (ixb r12 150) <|
  nm (hP1 h11 8 33 (nC r12) 0) fun h13 =>
  nm (hP1 h13 8 33 0 ((h13 8 33 0) + 1)) fun h14 =>
  some (t1, h14)
set_option maxRecDepth 100000 in
set_option maxHeartbeats 4000000 in
theorem CX10_newPhrase (a1 : Int32) (a2 : Int32) (a3 : Int32) (a4 : Int32) (h : HI) (L : HL) : CG mX10_newPhrase 1 [aR 8 32, aI a1, aI a2, aI a3, aI a4] h L (lfIH L) (FX10_newPhrase a1 a2 a3 a4 h) := by
  unfold FX10_newPhrase
  refine cg_of [some (aR 8 32), some (aI a1), some (aI a2), some (aI a3), some (aI a4), none] rfl (by decide) rfl rfl (fun T => ?_)
  refine g_aload_n (M := mX10_newPhrase) (pc := 0) 1 dX10_newPhrase_0 rfl rfl rfl ?_
  refine g_getR (M := mX10_newPhrase) (pc := 1) 4 dX10_newPhrase_1 rfl fX10_7 oR32_0 ?_
  refine g_iconst (M := mX10_newPhrase) (pc := 4) (v := 0) 5 dX10_newPhrase_4 rfl ic0 ?_
  refine g_ialdC (M := mX10_newPhrase) (pc := 5) (j := 0) 6 dX10_newPhrase_5 rfl oA33 rfl rfl ?_
  refine g_nmI (fun t1 => ?_)
  refine g_istore (M := mX10_newPhrase) (pc := 6) (ls' := [some (aR 8 32), some (aI a1), some (aI a2), some (aI a3), some (aI a4), some (aI t1)]) 8 dX10_newPhrase_6 rfl rfl rfl ?_
  refine g_aload_n (M := mX10_newPhrase) (pc := 8) 9 dX10_newPhrase_8 rfl rfl rfl ?_
  refine g_getR (M := mX10_newPhrase) (pc := 9) 12 dX10_newPhrase_9 rfl fX10_7 oR32_0 ?_
  refine g_iload (M := mX10_newPhrase) (pc := 12) 14 dX10_newPhrase_12 rfl rfl ?_
  refine g_iconst (M := mX10_newPhrase) (pc := 14) (v := 0) 15 dX10_newPhrase_14 rfl ic0 ?_
  refine g_cS_I (M := mX10_newPhrase) (pc := 15) (M' := mX10_at) (rest := [aR 8 33]) 18 dX10_newPhrase_15 rfl kX10_49 okX10_at (CX10_at t1 0 h L) rfl rfl rfl rfl (fun r2 => ?_)
  refine g_iload_n (M := mX10_newPhrase) (pc := 18) 19 dX10_newPhrase_18 rfl rfl rfl ?_
  refine g_iast (M := mX10_newPhrase) (pc := 19) 20 dX10_newPhrase_19 rfl oA33 (fun h3 => ?_)
  refine g_aload_n (M := mX10_newPhrase) (pc := 20) 21 dX10_newPhrase_20 rfl rfl rfl ?_
  refine g_getR (M := mX10_newPhrase) (pc := 21) 24 dX10_newPhrase_21 rfl fX10_7 oR32_0 ?_
  refine g_iload (M := mX10_newPhrase) (pc := 24) 26 dX10_newPhrase_24 rfl rfl ?_
  refine g_iconst (M := mX10_newPhrase) (pc := 26) (v := 1) 27 dX10_newPhrase_26 rfl ic1 ?_
  refine g_cS_I (M := mX10_newPhrase) (pc := 27) (M' := mX10_at) (rest := [aR 8 33]) 30 dX10_newPhrase_27 rfl kX10_49 okX10_at (CX10_at t1 1 h3 L) rfl rfl rfl rfl (fun r4 => ?_)
  refine g_iload_n (M := mX10_newPhrase) (pc := 30) 31 dX10_newPhrase_30 rfl rfl rfl ?_
  refine g_iast (M := mX10_newPhrase) (pc := 31) 32 dX10_newPhrase_31 rfl oA33 (fun h5 => ?_)
  refine g_aload_n (M := mX10_newPhrase) (pc := 32) 33 dX10_newPhrase_32 rfl rfl rfl ?_
  refine g_getR (M := mX10_newPhrase) (pc := 33) 36 dX10_newPhrase_33 rfl fX10_7 oR32_0 ?_
  refine g_iload (M := mX10_newPhrase) (pc := 36) 38 dX10_newPhrase_36 rfl rfl ?_
  refine g_iconst (M := mX10_newPhrase) (pc := 38) (v := 2) 39 dX10_newPhrase_38 rfl ic2 ?_
  refine g_cS_I (M := mX10_newPhrase) (pc := 39) (M' := mX10_at) (rest := [aR 8 33]) 42 dX10_newPhrase_39 rfl kX10_49 okX10_at (CX10_at t1 2 h5 L) rfl rfl rfl rfl (fun r6 => ?_)
  refine g_iload_n (M := mX10_newPhrase) (pc := 42) 43 dX10_newPhrase_42 rfl rfl rfl ?_
  refine g_iast (M := mX10_newPhrase) (pc := 43) 44 dX10_newPhrase_43 rfl oA33 (fun h7 => ?_)
  refine g_aload_n (M := mX10_newPhrase) (pc := 44) 45 dX10_newPhrase_44 rfl rfl rfl ?_
  refine g_getR (M := mX10_newPhrase) (pc := 45) 48 dX10_newPhrase_45 rfl fX10_7 oR32_0 ?_
  refine g_iload (M := mX10_newPhrase) (pc := 48) 50 dX10_newPhrase_48 rfl rfl ?_
  refine g_iconst (M := mX10_newPhrase) (pc := 50) (v := 3) 51 dX10_newPhrase_50 rfl ic3 ?_
  refine g_cS_I (M := mX10_newPhrase) (pc := 51) (M' := mX10_at) (rest := [aR 8 33]) 54 dX10_newPhrase_51 rfl kX10_49 okX10_at (CX10_at t1 3 h7 L) rfl rfl rfl rfl (fun r8 => ?_)
  refine g_iload (M := mX10_newPhrase) (pc := 54) 56 dX10_newPhrase_54 rfl rfl ?_
  refine g_iast (M := mX10_newPhrase) (pc := 56) 57 dX10_newPhrase_56 rfl oA33 (fun h9 => ?_)
  refine g_aload_n (M := mX10_newPhrase) (pc := 57) 58 dX10_newPhrase_57 rfl rfl rfl ?_
  refine g_getR (M := mX10_newPhrase) (pc := 58) 61 dX10_newPhrase_58 rfl fX10_7 oR32_0 ?_
  refine g_iload (M := mX10_newPhrase) (pc := 61) 63 dX10_newPhrase_61 rfl rfl ?_
  refine g_iconst (M := mX10_newPhrase) (pc := 63) (v := 4) 64 dX10_newPhrase_63 rfl ic4 ?_
  refine g_cS_I (M := mX10_newPhrase) (pc := 64) (M' := mX10_at) (rest := [aR 8 33]) 67 dX10_newPhrase_64 rfl kX10_49 okX10_at (CX10_at t1 4 h9 L) rfl rfl rfl rfl (fun r10 => ?_)
  refine g_iconst (M := mX10_newPhrase) (pc := 67) (v := 0) 68 dX10_newPhrase_67 rfl ic0 ?_
  refine g_iast (M := mX10_newPhrase) (pc := 68) 69 dX10_newPhrase_68 rfl oA33 (fun h11 => ?_)
  refine g_aload_n (M := mX10_newPhrase) (pc := 69) 70 dX10_newPhrase_69 rfl rfl rfl ?_
  refine g_getR (M := mX10_newPhrase) (pc := 70) 73 dX10_newPhrase_70 rfl fX10_7 oR32_0 ?_
  refine g_iload (M := mX10_newPhrase) (pc := 73) 75 dX10_newPhrase_73 rfl rfl ?_
  refine g_iconst (M := mX10_newPhrase) (pc := 75) (v := 5) 76 dX10_newPhrase_75 rfl ic5 ?_
  refine g_cS_I (M := mX10_newPhrase) (pc := 76) (M' := mX10_at) (rest := [aR 8 33]) 79 dX10_newPhrase_76 rfl kX10_49 okX10_at (CX10_at t1 5 h11 L) rfl rfl rfl rfl (fun r12 => ?_)
  refine g_iconst (M := mX10_newPhrase) (pc := 79) (v := 0) 80 dX10_newPhrase_79 rfl ic0 ?_
  refine g_iast (M := mX10_newPhrase) (pc := 80) 81 dX10_newPhrase_80 rfl oA33 (fun h13 => ?_)
  refine g_aload_n (M := mX10_newPhrase) (pc := 81) 82 dX10_newPhrase_81 rfl rfl rfl ?_
  refine g_getR (M := mX10_newPhrase) (pc := 82) 85 dX10_newPhrase_82 rfl fX10_7 oR32_0 ?_
  refine g_iconst (M := mX10_newPhrase) (pc := 85) (v := 0) 86 dX10_newPhrase_85 rfl ic0 ?_
  refine g_dup2 (M := mX10_newPhrase) (pc := 86) 87 dX10_newPhrase_86 rfl rfl rfl ?_
  refine g_ialdC (M := mX10_newPhrase) (pc := 87) (j := 0) 88 dX10_newPhrase_87 rfl oA33 rfl rfl ?_
  refine g_iconst (M := mX10_newPhrase) (pc := 88) (v := 1) 89 dX10_newPhrase_88 rfl ic1 ?_
  refine g_iadd (M := mX10_newPhrase) (pc := 89) 90 dX10_newPhrase_89 rfl ?_
  refine g_iastC (M := mX10_newPhrase) (pc := 90) (j := 0) 91 dX10_newPhrase_90 rfl oA33 rfl rfl (fun h14 => ?_)
  refine g_iload (M := mX10_newPhrase) (pc := 91) 93 dX10_newPhrase_91 rfl rfl ?_
  exact g_iret (M := mX10_newPhrase) (pc := 93) dX10_newPhrase_93 rfl rfl (fun z => z)
def FX10_phrase (a1 : Int32) (a2 : Int32) (a3 : Int32) (a4 : Int32) (h : HI) : Option (Int32 × HI) :=
  Option.bind (FX10_isPart 0 a1) fun r1 =>
  if r1 = 0 then
    Option.bind (FX10_finds (-1000000001) h) fun (r2, h3) =>
    some (r2, h3)
  else
    Option.bind (FX10_isPart 1 a2) fun r4 =>
    if r4 = 0 then
      Option.bind (FX10_finds (-1000000001) h) fun (r5, h6) =>
      some (r5, h6)
    else
      Option.bind (FX10_isPart 2 a3) fun r7 =>
      if r7 = 0 then
        Option.bind (FX10_finds (-1000000001) h) fun (r8, h9) =>
        some (r8, h9)
      else
        Option.bind (FX10_isPart 3 a4) fun r10 =>
        if r10 = 0 then
          Option.bind (FX10_finds (-1000000001) h) fun (r15, h16) =>
          some (r15, h16)
        else
          if (h 8 33 0) = 12 then
            Option.bind (FX10_finds (-1000000002) h) fun (r13, h14) =>
            some (r13, h14)
          else
            Option.bind (FX10_newPhrase a1 a2 a3 a4 h) fun (r11, h12) =>
            some (r11, h12)
set_option maxRecDepth 100000 in
set_option maxHeartbeats 4000000 in
theorem CX10_phrase (a1 : Int32) (a2 : Int32) (a3 : Int32) (a4 : Int32) (h : HI) (L : HL) : CG mX10_phrase 2 [aR 8 32, aI a1, aI a2, aI a3, aI a4] h L (lfIH L) (FX10_phrase a1 a2 a3 a4 h) := by
  unfold FX10_phrase
  refine cg_of [some (aR 8 32), some (aI a1), some (aI a2), some (aI a3), some (aI a4)] rfl (by decide) rfl rfl (fun T => ?_)
  refine g_iconst (M := mX10_phrase) (pc := 0) (v := 0) 1 dX10_phrase_0 rfl ic0 ?_
  refine g_iload_n (M := mX10_phrase) (pc := 1) 2 dX10_phrase_1 rfl rfl rfl ?_
  refine g_cS_I (M := mX10_phrase) (pc := 2) (M' := mX10_isPart) (rest := []) 5 dX10_phrase_2 rfl kX10_63 okX10_isPart (CX10_isPart 0 a1 h L) rfl rfl rfl rfl (fun r1 => ?_)
  refine g_if_eq (M := mX10_phrase) (pc := 5) 33 8 dX10_phrase_5 (by decide) rfl (fun _ => ?_) (fun _ => ?_)
  · refine g_aload_n (M := mX10_phrase) (pc := 33) 34 dX10_phrase_33 rfl rfl rfl ?_
    refine g_ldc (M := mX10_phrase) (pc := 34) 36 dX10_phrase_34 rfl cX10_44 ?_
    refine g_cV_IH (M := mX10_phrase) (pc := 36) (M' := mX10_finds) (rest := []) 39 dX10_phrase_36 rfl kX10_67 okX10_finds (CX10_finds (-1000000001) h L) oO32 rfl rfl rfl rfl (fun r2 h3 => ?_)
    exact g_iret (M := mX10_phrase) (pc := 39) dX10_phrase_39 rfl rfl (fun z => z)
  · refine g_iconst (M := mX10_phrase) (pc := 8) (v := 1) 9 dX10_phrase_8 rfl ic1 ?_
    refine g_iload_n (M := mX10_phrase) (pc := 9) 10 dX10_phrase_9 rfl rfl rfl ?_
    refine g_cS_I (M := mX10_phrase) (pc := 10) (M' := mX10_isPart) (rest := []) 13 dX10_phrase_10 rfl kX10_63 okX10_isPart (CX10_isPart 1 a2 h L) rfl rfl rfl rfl (fun r4 => ?_)
    refine g_if_eq (M := mX10_phrase) (pc := 13) 33 16 dX10_phrase_13 (by decide) rfl (fun _ => ?_) (fun _ => ?_)
    · refine g_aload_n (M := mX10_phrase) (pc := 33) 34 dX10_phrase_33 rfl rfl rfl ?_
      refine g_ldc (M := mX10_phrase) (pc := 34) 36 dX10_phrase_34 rfl cX10_44 ?_
      refine g_cV_IH (M := mX10_phrase) (pc := 36) (M' := mX10_finds) (rest := []) 39 dX10_phrase_36 rfl kX10_67 okX10_finds (CX10_finds (-1000000001) h L) oO32 rfl rfl rfl rfl (fun r5 h6 => ?_)
      exact g_iret (M := mX10_phrase) (pc := 39) dX10_phrase_39 rfl rfl (fun z => z)
    · refine g_iconst (M := mX10_phrase) (pc := 16) (v := 2) 17 dX10_phrase_16 rfl ic2 ?_
      refine g_iload_n (M := mX10_phrase) (pc := 17) 18 dX10_phrase_17 rfl rfl rfl ?_
      refine g_cS_I (M := mX10_phrase) (pc := 18) (M' := mX10_isPart) (rest := []) 21 dX10_phrase_18 rfl kX10_63 okX10_isPart (CX10_isPart 2 a3 h L) rfl rfl rfl rfl (fun r7 => ?_)
      refine g_if_eq (M := mX10_phrase) (pc := 21) 33 24 dX10_phrase_21 (by decide) rfl (fun _ => ?_) (fun _ => ?_)
      · refine g_aload_n (M := mX10_phrase) (pc := 33) 34 dX10_phrase_33 rfl rfl rfl ?_
        refine g_ldc (M := mX10_phrase) (pc := 34) 36 dX10_phrase_34 rfl cX10_44 ?_
        refine g_cV_IH (M := mX10_phrase) (pc := 36) (M' := mX10_finds) (rest := []) 39 dX10_phrase_36 rfl kX10_67 okX10_finds (CX10_finds (-1000000001) h L) oO32 rfl rfl rfl rfl (fun r8 h9 => ?_)
        exact g_iret (M := mX10_phrase) (pc := 39) dX10_phrase_39 rfl rfl (fun z => z)
      · refine g_iconst (M := mX10_phrase) (pc := 24) (v := 3) 25 dX10_phrase_24 rfl ic3 ?_
        refine g_iload (M := mX10_phrase) (pc := 25) 27 dX10_phrase_25 rfl rfl ?_
        refine g_cS_I (M := mX10_phrase) (pc := 27) (M' := mX10_isPart) (rest := []) 30 dX10_phrase_27 rfl kX10_63 okX10_isPart (CX10_isPart 3 a4 h L) rfl rfl rfl rfl (fun r10 => ?_)
        refine g_if_ne (M := mX10_phrase) (pc := 30) 40 33 dX10_phrase_30 (by decide) rfl (fun _ => ?_) (fun _ => ?_)
        · refine g_aload_n (M := mX10_phrase) (pc := 40) 41 dX10_phrase_40 rfl rfl rfl ?_
          refine g_getR (M := mX10_phrase) (pc := 41) 44 dX10_phrase_41 rfl fX10_7 oR32_0 ?_
          refine g_iconst (M := mX10_phrase) (pc := 44) (v := 0) 45 dX10_phrase_44 rfl ic0 ?_
          refine g_ialdC (M := mX10_phrase) (pc := 45) (j := 0) 46 dX10_phrase_45 rfl oA33 rfl rfl ?_
          refine g_bipush (M := mX10_phrase) (pc := 46) (v := 12) 48 dX10_phrase_46 rfl bp12 ?_
          refine g_icmp_ne (M := mX10_phrase) (pc := 48) 60 51 dX10_phrase_48 (by decide) rfl (fun _ => ?_) (fun _ => ?_)
          · refine g_aload_n (M := mX10_phrase) (pc := 60) 61 dX10_phrase_60 rfl rfl rfl ?_
            refine g_iload_n (M := mX10_phrase) (pc := 61) 62 dX10_phrase_61 rfl rfl rfl ?_
            refine g_iload_n (M := mX10_phrase) (pc := 62) 63 dX10_phrase_62 rfl rfl rfl ?_
            refine g_iload_n (M := mX10_phrase) (pc := 63) 64 dX10_phrase_63 rfl rfl rfl ?_
            refine g_iload (M := mX10_phrase) (pc := 64) 66 dX10_phrase_64 rfl rfl ?_
            refine g_cV_IH (M := mX10_phrase) (pc := 66) (M' := mX10_newPhrase) (rest := []) 69 dX10_phrase_66 rfl kX10_72 okX10_newPhrase (CX10_newPhrase a1 a2 a3 a4 h L) oO32 rfl rfl rfl rfl (fun r11 h12 => ?_)
            exact g_iret (M := mX10_phrase) (pc := 69) dX10_phrase_69 rfl rfl (fun z => z)
          · refine g_aload_n (M := mX10_phrase) (pc := 51) 52 dX10_phrase_51 rfl rfl rfl ?_
            refine g_ldc (M := mX10_phrase) (pc := 52) 54 dX10_phrase_52 rfl cX10_71 ?_
            refine g_cV_IH (M := mX10_phrase) (pc := 54) (M' := mX10_finds) (rest := []) 57 dX10_phrase_54 rfl kX10_67 okX10_finds (CX10_finds (-1000000002) h L) oO32 rfl rfl rfl rfl (fun r13 h14 => ?_)
            refine g_goto (M := mX10_phrase) (pc := 57) 69 dX10_phrase_57 (by decide) ?_
            exact g_iret (M := mX10_phrase) (pc := 69) dX10_phrase_69 rfl rfl (fun z => z)
        · refine g_aload_n (M := mX10_phrase) (pc := 33) 34 dX10_phrase_33 rfl rfl rfl ?_
          refine g_ldc (M := mX10_phrase) (pc := 34) 36 dX10_phrase_34 rfl cX10_44 ?_
          refine g_cV_IH (M := mX10_phrase) (pc := 36) (M' := mX10_finds) (rest := []) 39 dX10_phrase_36 rfl kX10_67 okX10_finds (CX10_finds (-1000000001) h L) oO32 rfl rfl rfl rfl (fun r15 h16 => ?_)
          exact g_iret (M := mX10_phrase) (pc := 39) dX10_phrase_39 rfl rfl (fun z => z)
def FX10_isKnown (a1 : Int32) (h : HI) : Option (Int32) :=
  Option.bind (FX10_its a1 4 h) fun r1 =>
  if r1 < (h 8 33 2) then
    some 0
  else
    some 1
set_option maxRecDepth 100000 in
set_option maxHeartbeats 4000000 in
theorem CX10_isKnown (a1 : Int32) (h : HI) (L : HL) : CG mX10_isKnown 2 [aR 8 32, aI a1] h L (lfI h L) (FX10_isKnown a1 h) := by
  unfold FX10_isKnown
  refine cg_of [some (aR 8 32), some (aI a1)] rfl (by decide) rfl rfl (fun T => ?_)
  refine g_aload_n (M := mX10_isKnown) (pc := 0) 1 dX10_isKnown_0 rfl rfl rfl ?_
  refine g_iload_n (M := mX10_isKnown) (pc := 1) 2 dX10_isKnown_1 rfl rfl rfl ?_
  refine g_iconst (M := mX10_isKnown) (pc := 2) (v := 4) 3 dX10_isKnown_2 rfl ic4 ?_
  refine g_cV_I (M := mX10_isKnown) (pc := 3) (M' := mX10_its) (rest := []) 6 dX10_isKnown_3 rfl kX10_76 okX10_its (CX10_its a1 4 h L) oO32 rfl rfl rfl rfl (fun r1 => ?_)
  refine g_aload_n (M := mX10_isKnown) (pc := 6) 7 dX10_isKnown_6 rfl rfl rfl ?_
  refine g_getR (M := mX10_isKnown) (pc := 7) 10 dX10_isKnown_7 rfl fX10_7 oR32_0 ?_
  refine g_iconst (M := mX10_isKnown) (pc := 10) (v := 2) 11 dX10_isKnown_10 rfl ic2 ?_
  refine g_ialdC (M := mX10_isKnown) (pc := 11) (j := 2) 12 dX10_isKnown_11 rfl oA33 rfl rfl ?_
  refine g_icmp_lt (M := mX10_isKnown) (pc := 12) 19 15 dX10_isKnown_12 (by decide) rfl (fun _ => ?_) (fun _ => ?_)
  · refine g_iconst (M := mX10_isKnown) (pc := 19) (v := 0) 20 dX10_isKnown_19 rfl ic0 ?_
    exact g_iret (M := mX10_isKnown) (pc := 20) dX10_isKnown_20 rfl nz0 (fun z => z)
  · refine g_iconst (M := mX10_isKnown) (pc := 15) (v := 1) 16 dX10_isKnown_15 rfl ic1 ?_
    refine g_goto (M := mX10_isKnown) (pc := 16) 20 dX10_isKnown_16 (by decide) ?_
    exact g_iret (M := mX10_isKnown) (pc := 20) dX10_isKnown_20 rfl nz1 (fun z => z)
def JX10_forgets_24 (a1 : Int32) (s0 : Int32) (h : HI) : Option (Int32) :=
  Option.bind (FX10_its a1 0 h) fun r2 =>
  if r2 = 1 then
    some 15
  else
  if r2 = 2 then
    some 5
  else
  if r2 = 3 then
    some 20
  else
  if r2 = 4 then
    some 5
  else
  if r2 = 5 then
    some (10 + (s0 / 2))
  else
  some 10
def FX10_forgets (a1 : Int32) (h : HI) : Option (Int32) :=
  Option.bind (FX10_its a1 4 h) fun r1 =>
  if r1 ≤ 50 then
    JX10_forgets_24 a1 0 h
  else
    Option.bind (FX10_its a1 4 h) fun r3 =>
    JX10_forgets_24 a1 (r3 - 50) h
set_option maxRecDepth 100000 in
set_option maxHeartbeats 4000000 in
theorem JX10_forgets_24_ok (a1 : Int32) (s0 : Int32) (T : ZT) (h : HI) (L : HL) : VX mX10_forgets 2 T (fun r => Zl (lfI h L) r = T) 24 [some (aR 8 32), some (aI a1), none] [aI s0] h L (JX10_forgets_24 a1 s0 h) := by
  unfold JX10_forgets_24
  refine g_istore_n (M := mX10_forgets) (pc := 24) (ls' := [some (aR 8 32), some (aI a1), some (aI s0)]) 25 dX10_forgets_24 rfl rfl rfl rfl ?_
  refine g_aload_n (M := mX10_forgets) (pc := 25) 26 dX10_forgets_25 rfl rfl rfl ?_
  refine g_iload_n (M := mX10_forgets) (pc := 26) 27 dX10_forgets_26 rfl rfl rfl ?_
  refine g_iconst (M := mX10_forgets) (pc := 27) (v := 0) 28 dX10_forgets_27 rfl ic0 ?_
  refine g_cV_I (M := mX10_forgets) (pc := 28) (M' := mX10_its) (rest := []) 31 dX10_forgets_28 rfl kX10_76 okX10_its (CX10_its a1 0 h L) oO32 rfl rfl rfl rfl (fun r2 => ?_)
  refine g_tsc (M := mX10_forgets) (pc := 31) (v := 1) 64 dX10_forgets_31 (by decide) (by decide) rfl (by decide) (fun _ => ?_) (fun z1 => ?_)
  · refine g_bipush (M := mX10_forgets) (pc := 64) (v := 15) 66 dX10_forgets_64 rfl bp15 ?_
    exact g_iret (M := mX10_forgets) (pc := 66) dX10_forgets_66 rfl rfl (fun z => z)
  refine g_tsc (M := mX10_forgets) (pc := 31) (v := 2) 67 dX10_forgets_31 (by decide) (by decide) rfl (by decide) (fun _ => ?_) (fun z2 => ?_)
  · refine g_iconst (M := mX10_forgets) (pc := 67) (v := 5) 68 dX10_forgets_67 rfl ic5 ?_
    exact g_iret (M := mX10_forgets) (pc := 68) dX10_forgets_68 rfl rfl (fun z => z)
  refine g_tsc (M := mX10_forgets) (pc := 31) (v := 3) 69 dX10_forgets_31 (by decide) (by decide) rfl (by decide) (fun _ => ?_) (fun z3 => ?_)
  · refine g_bipush (M := mX10_forgets) (pc := 69) (v := 20) 71 dX10_forgets_69 rfl bp20 ?_
    exact g_iret (M := mX10_forgets) (pc := 71) dX10_forgets_71 rfl rfl (fun z => z)
  refine g_tsc (M := mX10_forgets) (pc := 31) (v := 4) 67 dX10_forgets_31 (by decide) (by decide) rfl (by decide) (fun _ => ?_) (fun z4 => ?_)
  · refine g_iconst (M := mX10_forgets) (pc := 67) (v := 5) 68 dX10_forgets_67 rfl ic5 ?_
    exact g_iret (M := mX10_forgets) (pc := 68) dX10_forgets_68 rfl rfl (fun z => z)
  refine g_tsc (M := mX10_forgets) (pc := 31) (v := 5) 72 dX10_forgets_31 (by decide) (by decide) rfl (by decide) (fun _ => ?_) (fun z5 => ?_)
  · refine g_bipush (M := mX10_forgets) (pc := 72) (v := 10) 74 dX10_forgets_72 rfl bp10 ?_
    refine g_iload_n (M := mX10_forgets) (pc := 74) 75 dX10_forgets_74 rfl rfl rfl ?_
    refine g_iconst (M := mX10_forgets) (pc := 75) (v := 2) 76 dX10_forgets_75 rfl ic2 ?_
    refine g_idivC (M := mX10_forgets) (pc := 76) 77 dX10_forgets_76 rfl (by decide) ?_
    refine g_iadd (M := mX10_forgets) (pc := 77) 78 dX10_forgets_77 rfl ?_
    exact g_iret (M := mX10_forgets) (pc := 78) dX10_forgets_78 rfl rfl (fun z => z)
  refine g_tsOut (M := mX10_forgets) (pc := 31) 79 dX10_forgets_31 (by have y1 := lv_neT z1 (a := 1) rfl; have y2 := lv_neT z2 (a := 2) rfl; have y3 := lv_neT z3 (a := 3) rfl; have y4 := lv_neT z4 (a := 4) rfl; have y5 := lv_neT z5 (a := 5) rfl; omega) (by decide) ?_
  refine g_bipush (M := mX10_forgets) (pc := 79) (v := 10) 81 dX10_forgets_79 rfl bp10 ?_
  exact g_iret (M := mX10_forgets) (pc := 81) dX10_forgets_81 rfl rfl (fun z => z)
set_option maxRecDepth 100000 in
set_option maxHeartbeats 4000000 in
theorem CX10_forgets (a1 : Int32) (h : HI) (L : HL) : CG mX10_forgets 2 [aR 8 32, aI a1] h L (lfI h L) (FX10_forgets a1 h) := by
  unfold FX10_forgets
  refine cg_of [some (aR 8 32), some (aI a1), none] rfl (by decide) rfl rfl (fun T => ?_)
  refine g_aload_n (M := mX10_forgets) (pc := 0) 1 dX10_forgets_0 rfl rfl rfl ?_
  refine g_iload_n (M := mX10_forgets) (pc := 1) 2 dX10_forgets_1 rfl rfl rfl ?_
  refine g_iconst (M := mX10_forgets) (pc := 2) (v := 4) 3 dX10_forgets_2 rfl ic4 ?_
  refine g_cV_I (M := mX10_forgets) (pc := 3) (M' := mX10_its) (rest := []) 6 dX10_forgets_3 rfl kX10_76 okX10_its (CX10_its a1 4 h L) oO32 rfl rfl rfl rfl (fun r1 => ?_)
  refine g_bipush (M := mX10_forgets) (pc := 6) (v := 50) 8 dX10_forgets_6 rfl bp50 ?_
  refine g_icmp_le (M := mX10_forgets) (pc := 8) 23 11 dX10_forgets_8 (by decide) rfl (fun _ => ?_) (fun _ => ?_)
  · refine g_iconst (M := mX10_forgets) (pc := 23) (v := 0) 24 dX10_forgets_23 rfl ic0 ?_
    exact g_fgt [true, true, false] (JX10_forgets_24_ok a1 0 T h L)
  · refine g_aload_n (M := mX10_forgets) (pc := 11) 12 dX10_forgets_11 rfl rfl rfl ?_
    refine g_iload_n (M := mX10_forgets) (pc := 12) 13 dX10_forgets_12 rfl rfl rfl ?_
    refine g_iconst (M := mX10_forgets) (pc := 13) (v := 4) 14 dX10_forgets_13 rfl ic4 ?_
    refine g_cV_I (M := mX10_forgets) (pc := 14) (M' := mX10_its) (rest := []) 17 dX10_forgets_14 rfl kX10_76 okX10_its (CX10_its a1 4 h L) oO32 rfl rfl rfl rfl (fun r3 => ?_)
    refine g_bipush (M := mX10_forgets) (pc := 17) (v := 50) 19 dX10_forgets_17 rfl bp50 ?_
    refine g_isub (M := mX10_forgets) (pc := 19) 20 dX10_forgets_19 rfl ?_
    refine g_goto (M := mX10_forgets) (pc := 20) 24 dX10_forgets_20 (by decide) ?_
    exact g_fgt [true, true, false] (JX10_forgets_24_ok a1 (r3 - 50) T h L)
def FX10_of (a1 : Int32) (a2 : Int32) (h : HI) : Option (Int32 × HI) :=
  Option.bind (FX10_isPhrase a1 h) fun r1 =>
  if r1 = 0 then
    Option.bind (FX10_finds (-1000000001) h) fun (r2, h3) =>
    some (r2, h3)
  else
    Option.bind (FX10_in (Int32.toInt64 a2) 0 7) fun r4 =>
    if r4 = 0 then
      Option.bind (FX10_finds (-1000000001) h) fun (r8, h9) =>
      some (r8, h9)
    else
      if 6 ≤ a2 then
        if a2 = 6 then
          Option.bind (FX10_isKnown a1 h) fun r6 =>
          if r6 = 0 then
            some (0, h)
          else
            some (1, h)
        else
          Option.bind (FX10_forgets a1 h) fun r5 =>
          some (r5, h)
      else
        Option.bind (FX10_its a1 a2 h) fun r7 =>
        some (r7, h)
set_option maxRecDepth 100000 in
set_option maxHeartbeats 4000000 in
theorem CX10_of (a1 : Int32) (a2 : Int32) (h : HI) (L : HL) : CG mX10_of 3 [aR 8 32, aI a1, aI a2] h L (lfIH L) (FX10_of a1 a2 h) := by
  unfold FX10_of
  refine cg_of [some (aR 8 32), some (aI a1), some (aI a2)] rfl (by decide) rfl rfl (fun T => ?_)
  refine g_aload_n (M := mX10_of) (pc := 0) 1 dX10_of_0 rfl rfl rfl ?_
  refine g_iload_n (M := mX10_of) (pc := 1) 2 dX10_of_1 rfl rfl rfl ?_
  refine g_cV_I (M := mX10_of) (pc := 2) (M' := mX10_isPhrase) (rest := []) 5 dX10_of_2 rfl kX10_79 okX10_isPhrase (CX10_isPhrase a1 h L) oO32 rfl rfl rfl rfl (fun r1 => ?_)
  refine g_if_eq (M := mX10_of) (pc := 5) 20 8 dX10_of_5 (by decide) rfl (fun _ => ?_) (fun _ => ?_)
  · refine g_aload_n (M := mX10_of) (pc := 20) 21 dX10_of_20 rfl rfl rfl ?_
    refine g_ldc (M := mX10_of) (pc := 21) 23 dX10_of_21 rfl cX10_44 ?_
    refine g_cV_IH (M := mX10_of) (pc := 23) (M' := mX10_finds) (rest := []) 26 dX10_of_23 rfl kX10_67 okX10_finds (CX10_finds (-1000000001) h L) oO32 rfl rfl rfl rfl (fun r2 h3 => ?_)
    exact g_iret (M := mX10_of) (pc := 26) dX10_of_26 rfl rfl (fun z => z)
  · refine g_iload_n (M := mX10_of) (pc := 8) 9 dX10_of_8 rfl rfl rfl ?_
    refine g_i2l (M := mX10_of) (pc := 9) 10 dX10_of_9 rfl ?_
    refine g_lconst (M := mX10_of) (pc := 10) (v := 0) 11 dX10_of_10 rfl rfl ?_
    refine g_ldc2 (M := mX10_of) (pc := 11) 14 dX10_of_11 rfl cX10_83 ?_
    refine g_cS_I (M := mX10_of) (pc := 14) (M' := mX10_in) (rest := []) 17 dX10_of_14 rfl kX10_45 okX10_in (CX10_in (Int32.toInt64 a2) 0 7 h L) rfl rfl rfl rfl (fun r4 => ?_)
    refine g_if_ne (M := mX10_of) (pc := 17) 27 20 dX10_of_17 (by decide) rfl (fun _ => ?_) (fun _ => ?_)
    · refine g_iload_n (M := mX10_of) (pc := 27) 28 dX10_of_27 rfl rfl rfl ?_
      refine g_bipush (M := mX10_of) (pc := 28) (v := 6) 30 dX10_of_28 rfl bp6 ?_
      refine g_icmp_ge (M := mX10_of) (pc := 30) 42 33 dX10_of_30 (by decide) rfl (fun _ => ?_) (fun _ => ?_)
      · refine g_iload_n (M := mX10_of) (pc := 42) 43 dX10_of_42 rfl rfl rfl ?_
        refine g_bipush (M := mX10_of) (pc := 43) (v := 6) 45 dX10_of_43 rfl bp6 ?_
        refine g_icmp_ne (M := mX10_of) (pc := 45) 64 48 dX10_of_45 (by decide) rfl (fun _ => ?_) (fun _ => ?_)
        · refine g_aload_n (M := mX10_of) (pc := 64) 65 dX10_of_64 rfl rfl rfl ?_
          refine g_iload_n (M := mX10_of) (pc := 65) 66 dX10_of_65 rfl rfl rfl ?_
          refine g_cV_I (M := mX10_of) (pc := 66) (M' := mX10_forgets) (rest := []) 69 dX10_of_66 rfl kX10_88 okX10_forgets (CX10_forgets a1 h L) oO32 rfl rfl rfl rfl (fun r5 => ?_)
          exact g_iret (M := mX10_of) (pc := 69) dX10_of_69 rfl rfl (fun z => z)
        · refine g_aload_n (M := mX10_of) (pc := 48) 49 dX10_of_48 rfl rfl rfl ?_
          refine g_iload_n (M := mX10_of) (pc := 49) 50 dX10_of_49 rfl rfl rfl ?_
          refine g_cV_I (M := mX10_of) (pc := 50) (M' := mX10_isKnown) (rest := []) 53 dX10_of_50 rfl kX10_85 okX10_isKnown (CX10_isKnown a1 h L) oO32 rfl rfl rfl rfl (fun r6 => ?_)
          refine g_if_eq (M := mX10_of) (pc := 53) 60 56 dX10_of_53 (by decide) rfl (fun _ => ?_) (fun _ => ?_)
          · refine g_iconst (M := mX10_of) (pc := 60) (v := 0) 61 dX10_of_60 rfl ic0 ?_
            refine g_goto (M := mX10_of) (pc := 61) 69 dX10_of_61 (by decide) ?_
            exact g_iret (M := mX10_of) (pc := 69) dX10_of_69 rfl rfl (fun z => z)
          · refine g_iconst (M := mX10_of) (pc := 56) (v := 1) 57 dX10_of_56 rfl ic1 ?_
            refine g_goto (M := mX10_of) (pc := 57) 69 dX10_of_57 (by decide) ?_
            exact g_iret (M := mX10_of) (pc := 69) dX10_of_69 rfl rfl (fun z => z)
      · refine g_aload_n (M := mX10_of) (pc := 33) 34 dX10_of_33 rfl rfl rfl ?_
        refine g_iload_n (M := mX10_of) (pc := 34) 35 dX10_of_34 rfl rfl rfl ?_
        refine g_iload_n (M := mX10_of) (pc := 35) 36 dX10_of_35 rfl rfl rfl ?_
        refine g_cV_I (M := mX10_of) (pc := 36) (M' := mX10_its) (rest := []) 39 dX10_of_36 rfl kX10_76 okX10_its (CX10_its a1 a2 h L) oO32 rfl rfl rfl rfl (fun r7 => ?_)
        refine g_goto (M := mX10_of) (pc := 39) 69 dX10_of_39 (by decide) ?_
        exact g_iret (M := mX10_of) (pc := 69) dX10_of_69 rfl rfl (fun z => z)
    · refine g_aload_n (M := mX10_of) (pc := 20) 21 dX10_of_20 rfl rfl rfl ?_
      refine g_ldc (M := mX10_of) (pc := 21) 23 dX10_of_21 rfl cX10_44 ?_
      refine g_cV_IH (M := mX10_of) (pc := 23) (M' := mX10_finds) (rest := []) 26 dX10_of_23 rfl kX10_67 okX10_finds (CX10_finds (-1000000001) h L) oO32 rfl rfl rfl rfl (fun r8 h9 => ?_)
      exact g_iret (M := mX10_of) (pc := 26) dX10_of_26 rfl rfl (fun z => z)
def FX10_set (a1 : Int32) (a2 : Int32) (a3 : Int32) (h : HI) : Option (Int32 × HI) :=
  Option.bind (FX10_isPhrase a1 h) fun r1 =>
  if r1 = 0 then
    Option.bind (FX10_finds (-1000000001) h) fun (r2, h3) =>
    some (r2, h3)
  else
    Option.bind (FX10_in (Int32.toInt64 a2) 1 4) fun r4 =>
    if r4 = 0 then
      Option.bind (FX10_finds (-1000000001) h) fun (r5, h6) =>
      some (r5, h6)
    else
      Option.bind (FX10_isPart a2 a3) fun r7 =>
      if r7 = 0 then
        Option.bind (FX10_finds (-1000000001) h) fun (r11, h12) =>
        some (r11, h12)
      else
        Option.bind (FX10_its a1 a2 h) fun r8 =>
        Option.bind (FX10_at a1 a2) fun r9 =>
        gd (ixb r9 150) <|
        nm (hP1 h 8 33 (nC r9) a3) fun h10 =>
        some (r8, h10)
set_option maxRecDepth 100000 in
set_option maxHeartbeats 4000000 in
theorem CX10_set (a1 : Int32) (a2 : Int32) (a3 : Int32) (h : HI) (L : HL) : CG mX10_set 2 [aR 8 32, aI a1, aI a2, aI a3] h L (lfIH L) (FX10_set a1 a2 a3 h) := by
  unfold FX10_set
  refine cg_of [some (aR 8 32), some (aI a1), some (aI a2), some (aI a3), none] rfl (by decide) rfl rfl (fun T => ?_)
  refine g_aload_n (M := mX10_set) (pc := 0) 1 dX10_set_0 rfl rfl rfl ?_
  refine g_iload_n (M := mX10_set) (pc := 1) 2 dX10_set_1 rfl rfl rfl ?_
  refine g_cV_I (M := mX10_set) (pc := 2) (M' := mX10_isPhrase) (rest := []) 5 dX10_set_2 rfl kX10_79 okX10_isPhrase (CX10_isPhrase a1 h L) oO32 rfl rfl rfl rfl (fun r1 => ?_)
  refine g_if_eq (M := mX10_set) (pc := 5) 28 8 dX10_set_5 (by decide) rfl (fun _ => ?_) (fun _ => ?_)
  · refine g_aload_n (M := mX10_set) (pc := 28) 29 dX10_set_28 rfl rfl rfl ?_
    refine g_ldc (M := mX10_set) (pc := 29) 31 dX10_set_29 rfl cX10_44 ?_
    refine g_cV_IH (M := mX10_set) (pc := 31) (M' := mX10_finds) (rest := []) 34 dX10_set_31 rfl kX10_67 okX10_finds (CX10_finds (-1000000001) h L) oO32 rfl rfl rfl rfl (fun r2 h3 => ?_)
    exact g_iret (M := mX10_set) (pc := 34) dX10_set_34 rfl rfl (fun z => z)
  · refine g_iload_n (M := mX10_set) (pc := 8) 9 dX10_set_8 rfl rfl rfl ?_
    refine g_i2l (M := mX10_set) (pc := 9) 10 dX10_set_9 rfl ?_
    refine g_lconst (M := mX10_set) (pc := 10) (v := 1) 11 dX10_set_10 rfl rfl ?_
    refine g_ldc2 (M := mX10_set) (pc := 11) 14 dX10_set_11 rfl cX10_91 ?_
    refine g_cS_I (M := mX10_set) (pc := 14) (M' := mX10_in) (rest := []) 17 dX10_set_14 rfl kX10_45 okX10_in (CX10_in (Int32.toInt64 a2) 1 4 h L) rfl rfl rfl rfl (fun r4 => ?_)
    refine g_if_eq (M := mX10_set) (pc := 17) 28 20 dX10_set_17 (by decide) rfl (fun _ => ?_) (fun _ => ?_)
    · refine g_aload_n (M := mX10_set) (pc := 28) 29 dX10_set_28 rfl rfl rfl ?_
      refine g_ldc (M := mX10_set) (pc := 29) 31 dX10_set_29 rfl cX10_44 ?_
      refine g_cV_IH (M := mX10_set) (pc := 31) (M' := mX10_finds) (rest := []) 34 dX10_set_31 rfl kX10_67 okX10_finds (CX10_finds (-1000000001) h L) oO32 rfl rfl rfl rfl (fun r5 h6 => ?_)
      exact g_iret (M := mX10_set) (pc := 34) dX10_set_34 rfl rfl (fun z => z)
    · refine g_iload_n (M := mX10_set) (pc := 20) 21 dX10_set_20 rfl rfl rfl ?_
      refine g_iload_n (M := mX10_set) (pc := 21) 22 dX10_set_21 rfl rfl rfl ?_
      refine g_cS_I (M := mX10_set) (pc := 22) (M' := mX10_isPart) (rest := []) 25 dX10_set_22 rfl kX10_63 okX10_isPart (CX10_isPart a2 a3 h L) rfl rfl rfl rfl (fun r7 => ?_)
      refine g_if_ne (M := mX10_set) (pc := 25) 35 28 dX10_set_25 (by decide) rfl (fun _ => ?_) (fun _ => ?_)
      · refine g_aload_n (M := mX10_set) (pc := 35) 36 dX10_set_35 rfl rfl rfl ?_
        refine g_iload_n (M := mX10_set) (pc := 36) 37 dX10_set_36 rfl rfl rfl ?_
        refine g_iload_n (M := mX10_set) (pc := 37) 38 dX10_set_37 rfl rfl rfl ?_
        refine g_cV_I (M := mX10_set) (pc := 38) (M' := mX10_its) (rest := []) 41 dX10_set_38 rfl kX10_76 okX10_its (CX10_its a1 a2 h L) oO32 rfl rfl rfl rfl (fun r8 => ?_)
        refine g_istore (M := mX10_set) (pc := 41) (ls' := [some (aR 8 32), some (aI a1), some (aI a2), some (aI a3), some (aI r8)]) 43 dX10_set_41 rfl rfl rfl ?_
        refine g_aload_n (M := mX10_set) (pc := 43) 44 dX10_set_43 rfl rfl rfl ?_
        refine g_getR (M := mX10_set) (pc := 44) 47 dX10_set_44 rfl fX10_7 oR32_0 ?_
        refine g_iload_n (M := mX10_set) (pc := 47) 48 dX10_set_47 rfl rfl rfl ?_
        refine g_iload_n (M := mX10_set) (pc := 48) 49 dX10_set_48 rfl rfl rfl ?_
        refine g_cS_I (M := mX10_set) (pc := 49) (M' := mX10_at) (rest := [aR 8 33]) 52 dX10_set_49 rfl kX10_49 okX10_at (CX10_at a1 a2 h L) rfl rfl rfl rfl (fun r9 => ?_)
        refine g_iload_n (M := mX10_set) (pc := 52) 53 dX10_set_52 rfl rfl rfl ?_
        refine g_iast (M := mX10_set) (pc := 53) 54 dX10_set_53 rfl oA33 (fun h10 => ?_)
        refine g_iload (M := mX10_set) (pc := 54) 56 dX10_set_54 rfl rfl ?_
        exact g_iret (M := mX10_set) (pc := 56) dX10_set_56 rfl rfl (fun z => z)
      · refine g_aload_n (M := mX10_set) (pc := 28) 29 dX10_set_28 rfl rfl rfl ?_
        refine g_ldc (M := mX10_set) (pc := 29) 31 dX10_set_29 rfl cX10_44 ?_
        refine g_cV_IH (M := mX10_set) (pc := 31) (M' := mX10_finds) (rest := []) 34 dX10_set_31 rfl kX10_67 okX10_finds (CX10_finds (-1000000001) h L) oO32 rfl rfl rfl rfl (fun r11 h12 => ?_)
        exact g_iret (M := mX10_set) (pc := 34) dX10_set_34 rfl rfl (fun z => z)
def FX10_turn (a1 : Int32) (a2 : Int32) (h : HI) : Option (Int32 × HI) :=
  Option.bind (FX10_isPhrase a1 h) fun r1 =>
  if r1 = 0 then
    Option.bind (FX10_finds (-1000000001) h) fun (r2, h3) =>
    some (r2, h3)
  else
    Option.bind (FX10_isPart 0 a2) fun r4 =>
    if r4 = 0 then
      Option.bind (FX10_finds (-1000000001) h) fun (r8, h9) =>
      some (r8, h9)
    else
      Option.bind (FX10_its a1 0 h) fun r5 =>
      Option.bind (FX10_at a1 0) fun r6 =>
      gd (ixb r6 150) <|
      nm (hP1 h 8 33 (nC r6) a2) fun h7 =>
      some (r5, h7)
set_option maxRecDepth 100000 in
set_option maxHeartbeats 4000000 in
theorem CX10_turn (a1 : Int32) (a2 : Int32) (h : HI) (L : HL) : CG mX10_turn 2 [aR 8 32, aI a1, aI a2] h L (lfIH L) (FX10_turn a1 a2 h) := by
  unfold FX10_turn
  refine cg_of [some (aR 8 32), some (aI a1), some (aI a2), none] rfl (by decide) rfl rfl (fun T => ?_)
  refine g_aload_n (M := mX10_turn) (pc := 0) 1 dX10_turn_0 rfl rfl rfl ?_
  refine g_iload_n (M := mX10_turn) (pc := 1) 2 dX10_turn_1 rfl rfl rfl ?_
  refine g_cV_I (M := mX10_turn) (pc := 2) (M' := mX10_isPhrase) (rest := []) 5 dX10_turn_2 rfl kX10_79 okX10_isPhrase (CX10_isPhrase a1 h L) oO32 rfl rfl rfl rfl (fun r1 => ?_)
  refine g_if_eq (M := mX10_turn) (pc := 5) 16 8 dX10_turn_5 (by decide) rfl (fun _ => ?_) (fun _ => ?_)
  · refine g_aload_n (M := mX10_turn) (pc := 16) 17 dX10_turn_16 rfl rfl rfl ?_
    refine g_ldc (M := mX10_turn) (pc := 17) 19 dX10_turn_17 rfl cX10_44 ?_
    refine g_cV_IH (M := mX10_turn) (pc := 19) (M' := mX10_finds) (rest := []) 22 dX10_turn_19 rfl kX10_67 okX10_finds (CX10_finds (-1000000001) h L) oO32 rfl rfl rfl rfl (fun r2 h3 => ?_)
    exact g_iret (M := mX10_turn) (pc := 22) dX10_turn_22 rfl rfl (fun z => z)
  · refine g_iconst (M := mX10_turn) (pc := 8) (v := 0) 9 dX10_turn_8 rfl ic0 ?_
    refine g_iload_n (M := mX10_turn) (pc := 9) 10 dX10_turn_9 rfl rfl rfl ?_
    refine g_cS_I (M := mX10_turn) (pc := 10) (M' := mX10_isPart) (rest := []) 13 dX10_turn_10 rfl kX10_63 okX10_isPart (CX10_isPart 0 a2 h L) rfl rfl rfl rfl (fun r4 => ?_)
    refine g_if_ne (M := mX10_turn) (pc := 13) 23 16 dX10_turn_13 (by decide) rfl (fun _ => ?_) (fun _ => ?_)
    · refine g_aload_n (M := mX10_turn) (pc := 23) 24 dX10_turn_23 rfl rfl rfl ?_
      refine g_iload_n (M := mX10_turn) (pc := 24) 25 dX10_turn_24 rfl rfl rfl ?_
      refine g_iconst (M := mX10_turn) (pc := 25) (v := 0) 26 dX10_turn_25 rfl ic0 ?_
      refine g_cV_I (M := mX10_turn) (pc := 26) (M' := mX10_its) (rest := []) 29 dX10_turn_26 rfl kX10_76 okX10_its (CX10_its a1 0 h L) oO32 rfl rfl rfl rfl (fun r5 => ?_)
      refine g_istore_n (M := mX10_turn) (pc := 29) (ls' := [some (aR 8 32), some (aI a1), some (aI a2), some (aI r5)]) 30 dX10_turn_29 rfl rfl rfl rfl ?_
      refine g_aload_n (M := mX10_turn) (pc := 30) 31 dX10_turn_30 rfl rfl rfl ?_
      refine g_getR (M := mX10_turn) (pc := 31) 34 dX10_turn_31 rfl fX10_7 oR32_0 ?_
      refine g_iload_n (M := mX10_turn) (pc := 34) 35 dX10_turn_34 rfl rfl rfl ?_
      refine g_iconst (M := mX10_turn) (pc := 35) (v := 0) 36 dX10_turn_35 rfl ic0 ?_
      refine g_cS_I (M := mX10_turn) (pc := 36) (M' := mX10_at) (rest := [aR 8 33]) 39 dX10_turn_36 rfl kX10_49 okX10_at (CX10_at a1 0 h L) rfl rfl rfl rfl (fun r6 => ?_)
      refine g_iload_n (M := mX10_turn) (pc := 39) 40 dX10_turn_39 rfl rfl rfl ?_
      refine g_iast (M := mX10_turn) (pc := 40) 41 dX10_turn_40 rfl oA33 (fun h7 => ?_)
      refine g_iload_n (M := mX10_turn) (pc := 41) 42 dX10_turn_41 rfl rfl rfl ?_
      exact g_iret (M := mX10_turn) (pc := 42) dX10_turn_42 rfl rfl (fun z => z)
    · refine g_aload_n (M := mX10_turn) (pc := 16) 17 dX10_turn_16 rfl rfl rfl ?_
      refine g_ldc (M := mX10_turn) (pc := 17) 19 dX10_turn_17 rfl cX10_44 ?_
      refine g_cV_IH (M := mX10_turn) (pc := 19) (M' := mX10_finds) (rest := []) 22 dX10_turn_19 rfl kX10_67 okX10_finds (CX10_finds (-1000000001) h L) oO32 rfl rfl rfl rfl (fun r8 h9 => ?_)
      exact g_iret (M := mX10_turn) (pc := 22) dX10_turn_22 rfl rfl (fun z => z)
def JX10_as_64 (a1 : Int32) (s0 : Int32) (h : HI) : Option (Int32 × HI) :=
  if s0 = 0 then
    Option.bind (FX10_finds (-1000000003) h) fun (r6, h7) =>
    some (r6, h7)
  else
    Option.bind (FX10_its a1 4 h) fun r8 =>
    some (r8, h)
def JX10_as_59 (a1 : Int32) (h : HI) : Option (Int32 × HI) :=
  JX10_as_64 a1 1 h
def JX10_as_63 (a1 : Int32) (h : HI) : Option (Int32 × HI) :=
  JX10_as_64 a1 0 h
def JX10_as_49 (a1 : Int32) (a2 : Int32) (a3 : Int32) (h : HI) : Option (Int32 × HI) :=
  if a2 = 2 then
    if a3 = 4 then
      JX10_as_59 a1 h
    else
      JX10_as_63 a1 h
  else
    JX10_as_63 a1 h
def FX10_as (a1 : Int32) (a2 : Int32) (h : HI) : Option (Int32 × HI) :=
  Option.bind (FX10_isPhrase a1 h) fun r1 =>
  if r1 = 0 then
    Option.bind (FX10_finds (-1000000001) h) fun (r2, h3) =>
    some (r2, h3)
  else
    Option.bind (FX10_isPart 0 a2) fun r4 =>
    if r4 = 0 then
      Option.bind (FX10_finds (-1000000001) h) fun (r9, h10) =>
      some (r9, h10)
    else
      Option.bind (FX10_its a1 0 h) fun r5 =>
      if a2 = 0 then
        JX10_as_59 a1 h
      else
        if r5 = a2 then
          JX10_as_59 a1 h
        else
          if a2 = 1 then
            if r5 = 3 then
              JX10_as_59 a1 h
            else
              JX10_as_49 a1 a2 r5 h
          else
            JX10_as_49 a1 a2 r5 h
set_option maxRecDepth 100000 in
set_option maxHeartbeats 4000000 in
theorem JX10_as_64_ok (a1 : Int32) (s0 : Int32) (T : ZT) (h : HI) (L : HL) : VX mX10_as 2 T (fun r => Zl (lfIH L) r = T) 64 [some (aR 8 32), some (aI a1), none, none, none] [aI s0] h L (JX10_as_64 a1 s0 h) := by
  unfold JX10_as_64
  refine g_istore (M := mX10_as) (pc := 64) (ls' := [some (aR 8 32), some (aI a1), none, none, some (aI s0)]) 66 dX10_as_64 rfl rfl rfl ?_
  refine g_iload (M := mX10_as) (pc := 66) 68 dX10_as_66 rfl rfl ?_
  refine g_if_eq (M := mX10_as) (pc := 68) 80 71 dX10_as_68 (by decide) rfl (fun _ => ?_) (fun _ => ?_)
  · refine g_aload_n (M := mX10_as) (pc := 80) 81 dX10_as_80 rfl rfl rfl ?_
    refine g_ldc (M := mX10_as) (pc := 81) 83 dX10_as_81 rfl cX10_93 ?_
    refine g_cV_IH (M := mX10_as) (pc := 83) (M' := mX10_finds) (rest := []) 86 dX10_as_83 rfl kX10_67 okX10_finds (CX10_finds (-1000000003) h L) oO32 rfl rfl rfl rfl (fun r6 h7 => ?_)
    exact g_iret (M := mX10_as) (pc := 86) dX10_as_86 rfl rfl (fun z => z)
  · refine g_aload_n (M := mX10_as) (pc := 71) 72 dX10_as_71 rfl rfl rfl ?_
    refine g_iload_n (M := mX10_as) (pc := 72) 73 dX10_as_72 rfl rfl rfl ?_
    refine g_iconst (M := mX10_as) (pc := 73) (v := 4) 74 dX10_as_73 rfl ic4 ?_
    refine g_cV_I (M := mX10_as) (pc := 74) (M' := mX10_its) (rest := []) 77 dX10_as_74 rfl kX10_76 okX10_its (CX10_its a1 4 h L) oO32 rfl rfl rfl rfl (fun r8 => ?_)
    refine g_goto (M := mX10_as) (pc := 77) 86 dX10_as_77 (by decide) ?_
    exact g_iret (M := mX10_as) (pc := 86) dX10_as_86 rfl rfl (fun z => z)
set_option maxRecDepth 100000 in
set_option maxHeartbeats 4000000 in
theorem JX10_as_59_ok (a1 : Int32) (T : ZT) (h : HI) (L : HL) : VX mX10_as 2 T (fun r => Zl (lfIH L) r = T) 59 [some (aR 8 32), some (aI a1), none, none, none] [] h L (JX10_as_59 a1 h) := by
  unfold JX10_as_59
  refine g_iconst (M := mX10_as) (pc := 59) (v := 1) 60 dX10_as_59 rfl ic1 ?_
  refine g_goto (M := mX10_as) (pc := 60) 64 dX10_as_60 (by decide) ?_
  exact g_fgt [true, true, false, false, false] (JX10_as_64_ok a1 1 T h L)
set_option maxRecDepth 100000 in
set_option maxHeartbeats 4000000 in
theorem JX10_as_63_ok (a1 : Int32) (T : ZT) (h : HI) (L : HL) : VX mX10_as 2 T (fun r => Zl (lfIH L) r = T) 63 [some (aR 8 32), some (aI a1), none, none, none] [] h L (JX10_as_63 a1 h) := by
  unfold JX10_as_63
  refine g_iconst (M := mX10_as) (pc := 63) (v := 0) 64 dX10_as_63 rfl ic0 ?_
  exact g_fgt [true, true, false, false, false] (JX10_as_64_ok a1 0 T h L)
set_option maxRecDepth 100000 in
set_option maxHeartbeats 4000000 in
theorem JX10_as_49_ok (a1 : Int32) (a2 : Int32) (a3 : Int32) (T : ZT) (h : HI) (L : HL) : VX mX10_as 2 T (fun r => Zl (lfIH L) r = T) 49 [some (aR 8 32), some (aI a1), some (aI a2), some (aI a3), none] [] h L (JX10_as_49 a1 a2 a3 h) := by
  unfold JX10_as_49
  refine g_iload_n (M := mX10_as) (pc := 49) 50 dX10_as_49 rfl rfl rfl ?_
  refine g_iconst (M := mX10_as) (pc := 50) (v := 2) 51 dX10_as_50 rfl ic2 ?_
  refine g_icmp_ne (M := mX10_as) (pc := 51) 63 54 dX10_as_51 (by decide) rfl (fun _ => ?_) (fun _ => ?_)
  · exact g_fgt [true, true, false, false, false] (JX10_as_63_ok a1 T h L)
  · refine g_iload_n (M := mX10_as) (pc := 54) 55 dX10_as_54 rfl rfl rfl ?_
    refine g_iconst (M := mX10_as) (pc := 55) (v := 4) 56 dX10_as_55 rfl ic4 ?_
    refine g_icmp_ne (M := mX10_as) (pc := 56) 63 59 dX10_as_56 (by decide) rfl (fun _ => ?_) (fun _ => ?_)
    · exact g_fgt [true, true, false, false, false] (JX10_as_63_ok a1 T h L)
    · exact g_fgt [true, true, false, false, false] (JX10_as_59_ok a1 T h L)
set_option maxRecDepth 100000 in
set_option maxHeartbeats 4000000 in
theorem CX10_as (a1 : Int32) (a2 : Int32) (h : HI) (L : HL) : CG mX10_as 2 [aR 8 32, aI a1, aI a2] h L (lfIH L) (FX10_as a1 a2 h) := by
  unfold FX10_as
  refine cg_of [some (aR 8 32), some (aI a1), some (aI a2), none, none] rfl (by decide) rfl rfl (fun T => ?_)
  refine g_aload_n (M := mX10_as) (pc := 0) 1 dX10_as_0 rfl rfl rfl ?_
  refine g_iload_n (M := mX10_as) (pc := 1) 2 dX10_as_1 rfl rfl rfl ?_
  refine g_cV_I (M := mX10_as) (pc := 2) (M' := mX10_isPhrase) (rest := []) 5 dX10_as_2 rfl kX10_79 okX10_isPhrase (CX10_isPhrase a1 h L) oO32 rfl rfl rfl rfl (fun r1 => ?_)
  refine g_if_eq (M := mX10_as) (pc := 5) 16 8 dX10_as_5 (by decide) rfl (fun _ => ?_) (fun _ => ?_)
  · refine g_aload_n (M := mX10_as) (pc := 16) 17 dX10_as_16 rfl rfl rfl ?_
    refine g_ldc (M := mX10_as) (pc := 17) 19 dX10_as_17 rfl cX10_44 ?_
    refine g_cV_IH (M := mX10_as) (pc := 19) (M' := mX10_finds) (rest := []) 22 dX10_as_19 rfl kX10_67 okX10_finds (CX10_finds (-1000000001) h L) oO32 rfl rfl rfl rfl (fun r2 h3 => ?_)
    exact g_iret (M := mX10_as) (pc := 22) dX10_as_22 rfl rfl (fun z => z)
  · refine g_iconst (M := mX10_as) (pc := 8) (v := 0) 9 dX10_as_8 rfl ic0 ?_
    refine g_iload_n (M := mX10_as) (pc := 9) 10 dX10_as_9 rfl rfl rfl ?_
    refine g_cS_I (M := mX10_as) (pc := 10) (M' := mX10_isPart) (rest := []) 13 dX10_as_10 rfl kX10_63 okX10_isPart (CX10_isPart 0 a2 h L) rfl rfl rfl rfl (fun r4 => ?_)
    refine g_if_ne (M := mX10_as) (pc := 13) 23 16 dX10_as_13 (by decide) rfl (fun _ => ?_) (fun _ => ?_)
    · refine g_aload_n (M := mX10_as) (pc := 23) 24 dX10_as_23 rfl rfl rfl ?_
      refine g_iload_n (M := mX10_as) (pc := 24) 25 dX10_as_24 rfl rfl rfl ?_
      refine g_iconst (M := mX10_as) (pc := 25) (v := 0) 26 dX10_as_25 rfl ic0 ?_
      refine g_cV_I (M := mX10_as) (pc := 26) (M' := mX10_its) (rest := []) 29 dX10_as_26 rfl kX10_76 okX10_its (CX10_its a1 0 h L) oO32 rfl rfl rfl rfl (fun r5 => ?_)
      refine g_istore_n (M := mX10_as) (pc := 29) (ls' := [some (aR 8 32), some (aI a1), some (aI a2), some (aI r5), none]) 30 dX10_as_29 rfl rfl rfl rfl ?_
      refine g_iload_n (M := mX10_as) (pc := 30) 31 dX10_as_30 rfl rfl rfl ?_
      refine g_if_eq (M := mX10_as) (pc := 31) 59 34 dX10_as_31 (by decide) rfl (fun _ => ?_) (fun _ => ?_)
      · exact g_fgt [true, true, false, false, false] (JX10_as_59_ok a1 T h L)
      · refine g_iload_n (M := mX10_as) (pc := 34) 35 dX10_as_34 rfl rfl rfl ?_
        refine g_iload_n (M := mX10_as) (pc := 35) 36 dX10_as_35 rfl rfl rfl ?_
        refine g_icmp_eq (M := mX10_as) (pc := 36) 59 39 dX10_as_36 (by decide) rfl (fun _ => ?_) (fun _ => ?_)
        · exact g_fgt [true, true, false, false, false] (JX10_as_59_ok a1 T h L)
        · refine g_iload_n (M := mX10_as) (pc := 39) 40 dX10_as_39 rfl rfl rfl ?_
          refine g_iconst (M := mX10_as) (pc := 40) (v := 1) 41 dX10_as_40 rfl ic1 ?_
          refine g_icmp_ne (M := mX10_as) (pc := 41) 49 44 dX10_as_41 (by decide) rfl (fun _ => ?_) (fun _ => ?_)
          · exact g_fgt [true, true, true, true, false] (JX10_as_49_ok a1 a2 r5 T h L)
          · refine g_iload_n (M := mX10_as) (pc := 44) 45 dX10_as_44 rfl rfl rfl ?_
            refine g_iconst (M := mX10_as) (pc := 45) (v := 3) 46 dX10_as_45 rfl ic3 ?_
            refine g_icmp_eq (M := mX10_as) (pc := 46) 59 49 dX10_as_46 (by decide) rfl (fun _ => ?_) (fun _ => ?_)
            · exact g_fgt [true, true, false, false, false] (JX10_as_59_ok a1 T h L)
            · exact g_fgt [true, true, true, true, false] (JX10_as_49_ok a1 a2 r5 T h L)
    · refine g_aload_n (M := mX10_as) (pc := 16) 17 dX10_as_16 rfl rfl rfl ?_
      refine g_ldc (M := mX10_as) (pc := 17) 19 dX10_as_17 rfl cX10_44 ?_
      refine g_cV_IH (M := mX10_as) (pc := 19) (M' := mX10_finds) (rest := []) 22 dX10_as_19 rfl kX10_67 okX10_finds (CX10_finds (-1000000001) h L) oO32 rfl rfl rfl rfl (fun r9 h10 => ?_)
      exact g_iret (M := mX10_as) (pc := 22) dX10_as_22 rfl rfl (fun z => z)
def FX10_newWant (a1 : Int32) (a2 : Int32) (a3 : Int32) (h : HI) : Option (Int32 × HI) :=
  nm (78 + (5 * (h 8 33 1))) fun t1 =>
  gd (ixb t1 150) <|
  nm (hP1 h 8 33 (nC t1) a1) fun h2 =>
  gd (ixb (t1 + 1) 150) <|
  nm (hP1 h2 8 33 (nC (t1 + 1)) a2) fun h3 =>
  gd (ixb (t1 + 2) 150) <|
  nm (hP1 h3 8 33 (nC (t1 + 2)) a3) fun h4 =>
  gd (ixb (t1 + 3) 150) <|
  nm (hP1 h4 8 33 (nC (t1 + 3)) 0) fun h5 =>
  gd (ixb (t1 + 4) 150) <|
  nm (hP1 h5 8 33 (nC (t1 + 4)) 0) fun h6 =>
  nm (hP1 h6 8 33 1 ((h6 8 33 1) + 1)) fun h7 =>
  some (((h7 8 33 1) - 1), h7)
set_option maxRecDepth 100000 in
set_option maxHeartbeats 4000000 in
theorem CX10_newWant (a1 : Int32) (a2 : Int32) (a3 : Int32) (h : HI) (L : HL) : CG mX10_newWant 0 [aR 8 32, aI a1, aI a2, aI a3] h L (lfIH L) (FX10_newWant a1 a2 a3 h) := by
  unfold FX10_newWant
  refine cg_of [some (aR 8 32), some (aI a1), some (aI a2), some (aI a3), none] rfl (by decide) rfl rfl (fun T => ?_)
  refine g_bipush (M := mX10_newWant) (pc := 0) (v := 78) 2 dX10_newWant_0 rfl bp78 ?_
  refine g_iconst (M := mX10_newWant) (pc := 2) (v := 5) 3 dX10_newWant_2 rfl ic5 ?_
  refine g_aload_n (M := mX10_newWant) (pc := 3) 4 dX10_newWant_3 rfl rfl rfl ?_
  refine g_getR (M := mX10_newWant) (pc := 4) 7 dX10_newWant_4 rfl fX10_7 oR32_0 ?_
  refine g_iconst (M := mX10_newWant) (pc := 7) (v := 1) 8 dX10_newWant_7 rfl ic1 ?_
  refine g_ialdC (M := mX10_newWant) (pc := 8) (j := 1) 9 dX10_newWant_8 rfl oA33 rfl rfl ?_
  refine g_imul (M := mX10_newWant) (pc := 9) 10 dX10_newWant_9 rfl ?_
  refine g_iadd (M := mX10_newWant) (pc := 10) 11 dX10_newWant_10 rfl ?_
  refine g_nmI (fun t1 => ?_)
  refine g_istore (M := mX10_newWant) (pc := 11) (ls' := [some (aR 8 32), some (aI a1), some (aI a2), some (aI a3), some (aI t1)]) 13 dX10_newWant_11 rfl rfl rfl ?_
  refine g_aload_n (M := mX10_newWant) (pc := 13) 14 dX10_newWant_13 rfl rfl rfl ?_
  refine g_getR (M := mX10_newWant) (pc := 14) 17 dX10_newWant_14 rfl fX10_7 oR32_0 ?_
  refine g_iload (M := mX10_newWant) (pc := 17) 19 dX10_newWant_17 rfl rfl ?_
  refine g_iload_n (M := mX10_newWant) (pc := 19) 20 dX10_newWant_19 rfl rfl rfl ?_
  refine g_iast (M := mX10_newWant) (pc := 20) 21 dX10_newWant_20 rfl oA33 (fun h2 => ?_)
  refine g_aload_n (M := mX10_newWant) (pc := 21) 22 dX10_newWant_21 rfl rfl rfl ?_
  refine g_getR (M := mX10_newWant) (pc := 22) 25 dX10_newWant_22 rfl fX10_7 oR32_0 ?_
  refine g_iload (M := mX10_newWant) (pc := 25) 27 dX10_newWant_25 rfl rfl ?_
  refine g_iconst (M := mX10_newWant) (pc := 27) (v := 1) 28 dX10_newWant_27 rfl ic1 ?_
  refine g_iadd (M := mX10_newWant) (pc := 28) 29 dX10_newWant_28 rfl ?_
  refine g_iload_n (M := mX10_newWant) (pc := 29) 30 dX10_newWant_29 rfl rfl rfl ?_
  refine g_iast (M := mX10_newWant) (pc := 30) 31 dX10_newWant_30 rfl oA33 (fun h3 => ?_)
  refine g_aload_n (M := mX10_newWant) (pc := 31) 32 dX10_newWant_31 rfl rfl rfl ?_
  refine g_getR (M := mX10_newWant) (pc := 32) 35 dX10_newWant_32 rfl fX10_7 oR32_0 ?_
  refine g_iload (M := mX10_newWant) (pc := 35) 37 dX10_newWant_35 rfl rfl ?_
  refine g_iconst (M := mX10_newWant) (pc := 37) (v := 2) 38 dX10_newWant_37 rfl ic2 ?_
  refine g_iadd (M := mX10_newWant) (pc := 38) 39 dX10_newWant_38 rfl ?_
  refine g_iload_n (M := mX10_newWant) (pc := 39) 40 dX10_newWant_39 rfl rfl rfl ?_
  refine g_iast (M := mX10_newWant) (pc := 40) 41 dX10_newWant_40 rfl oA33 (fun h4 => ?_)
  refine g_aload_n (M := mX10_newWant) (pc := 41) 42 dX10_newWant_41 rfl rfl rfl ?_
  refine g_getR (M := mX10_newWant) (pc := 42) 45 dX10_newWant_42 rfl fX10_7 oR32_0 ?_
  refine g_iload (M := mX10_newWant) (pc := 45) 47 dX10_newWant_45 rfl rfl ?_
  refine g_iconst (M := mX10_newWant) (pc := 47) (v := 3) 48 dX10_newWant_47 rfl ic3 ?_
  refine g_iadd (M := mX10_newWant) (pc := 48) 49 dX10_newWant_48 rfl ?_
  refine g_iconst (M := mX10_newWant) (pc := 49) (v := 0) 50 dX10_newWant_49 rfl ic0 ?_
  refine g_iast (M := mX10_newWant) (pc := 50) 51 dX10_newWant_50 rfl oA33 (fun h5 => ?_)
  refine g_aload_n (M := mX10_newWant) (pc := 51) 52 dX10_newWant_51 rfl rfl rfl ?_
  refine g_getR (M := mX10_newWant) (pc := 52) 55 dX10_newWant_52 rfl fX10_7 oR32_0 ?_
  refine g_iload (M := mX10_newWant) (pc := 55) 57 dX10_newWant_55 rfl rfl ?_
  refine g_iconst (M := mX10_newWant) (pc := 57) (v := 4) 58 dX10_newWant_57 rfl ic4 ?_
  refine g_iadd (M := mX10_newWant) (pc := 58) 59 dX10_newWant_58 rfl ?_
  refine g_iconst (M := mX10_newWant) (pc := 59) (v := 0) 60 dX10_newWant_59 rfl ic0 ?_
  refine g_iast (M := mX10_newWant) (pc := 60) 61 dX10_newWant_60 rfl oA33 (fun h6 => ?_)
  refine g_aload_n (M := mX10_newWant) (pc := 61) 62 dX10_newWant_61 rfl rfl rfl ?_
  refine g_getR (M := mX10_newWant) (pc := 62) 65 dX10_newWant_62 rfl fX10_7 oR32_0 ?_
  refine g_iconst (M := mX10_newWant) (pc := 65) (v := 1) 66 dX10_newWant_65 rfl ic1 ?_
  refine g_dup2 (M := mX10_newWant) (pc := 66) 67 dX10_newWant_66 rfl rfl rfl ?_
  refine g_ialdC (M := mX10_newWant) (pc := 67) (j := 1) 68 dX10_newWant_67 rfl oA33 rfl rfl ?_
  refine g_iconst (M := mX10_newWant) (pc := 68) (v := 1) 69 dX10_newWant_68 rfl ic1 ?_
  refine g_iadd (M := mX10_newWant) (pc := 69) 70 dX10_newWant_69 rfl ?_
  refine g_iastC (M := mX10_newWant) (pc := 70) (j := 1) 71 dX10_newWant_70 rfl oA33 rfl rfl (fun h7 => ?_)
  refine g_aload_n (M := mX10_newWant) (pc := 71) 72 dX10_newWant_71 rfl rfl rfl ?_
  refine g_getR (M := mX10_newWant) (pc := 72) 75 dX10_newWant_72 rfl fX10_7 oR32_0 ?_
  refine g_iconst (M := mX10_newWant) (pc := 75) (v := 1) 76 dX10_newWant_75 rfl ic1 ?_
  refine g_ialdC (M := mX10_newWant) (pc := 76) (j := 1) 77 dX10_newWant_76 rfl oA33 rfl rfl ?_
  refine g_iconst (M := mX10_newWant) (pc := 77) (v := 1) 78 dX10_newWant_77 rfl ic1 ?_
  refine g_isub (M := mX10_newWant) (pc := 78) 79 dX10_newWant_78 rfl ?_
  exact g_iret (M := mX10_newWant) (pc := 79) dX10_newWant_79 rfl rfl (fun z => z)
def FX10_want (a1 : Int32) (a2 : Int32) (a3 : Int32) (h : HI) : Option (Int32 × HI) :=
  Option.bind (FX10_in (Int32.toInt64 a1) 0 9) fun r1 =>
  if r1 = 0 then
    Option.bind (FX10_finds (-1000000001) h) fun (r2, h3) =>
    some (r2, h3)
  else
    Option.bind (FX10_in (Int32.toInt64 a2) 0 99) fun r4 =>
    if r4 = 0 then
      Option.bind (FX10_finds (-1000000001) h) fun (r5, h6) =>
      some (r5, h6)
    else
      Option.bind (FX10_in (Int32.toInt64 a3) 0 99) fun r7 =>
      if r7 = 0 then
        Option.bind (FX10_finds (-1000000001) h) fun (r12, h13) =>
        some (r12, h13)
      else
        if (h 8 33 1) = 12 then
          Option.bind (FX10_finds (-1000000002) h) fun (r10, h11) =>
          some (r10, h11)
        else
          Option.bind (FX10_newWant a1 a2 a3 h) fun (r8, h9) =>
          some (r8, h9)
set_option maxRecDepth 100000 in
set_option maxHeartbeats 4000000 in
theorem CX10_want (a1 : Int32) (a2 : Int32) (a3 : Int32) (h : HI) (L : HL) : CG mX10_want 1 [aR 8 32, aI a1, aI a2, aI a3] h L (lfIH L) (FX10_want a1 a2 a3 h) := by
  unfold FX10_want
  refine cg_of [some (aR 8 32), some (aI a1), some (aI a2), some (aI a3)] rfl (by decide) rfl rfl (fun T => ?_)
  refine g_iload_n (M := mX10_want) (pc := 0) 1 dX10_want_0 rfl rfl rfl ?_
  refine g_i2l (M := mX10_want) (pc := 1) 2 dX10_want_1 rfl ?_
  refine g_lconst (M := mX10_want) (pc := 2) (v := 0) 3 dX10_want_2 rfl rfl ?_
  refine g_ldc2 (M := mX10_want) (pc := 3) 6 dX10_want_3 rfl cX10_55 ?_
  refine g_cS_I (M := mX10_want) (pc := 6) (M' := mX10_in) (rest := []) 9 dX10_want_6 rfl kX10_45 okX10_in (CX10_in (Int32.toInt64 a1) 0 9 h L) rfl rfl rfl rfl (fun r1 => ?_)
  refine g_if_eq (M := mX10_want) (pc := 9) 36 12 dX10_want_9 (by decide) rfl (fun _ => ?_) (fun _ => ?_)
  · refine g_aload_n (M := mX10_want) (pc := 36) 37 dX10_want_36 rfl rfl rfl ?_
    refine g_ldc (M := mX10_want) (pc := 37) 39 dX10_want_37 rfl cX10_44 ?_
    refine g_cV_IH (M := mX10_want) (pc := 39) (M' := mX10_finds) (rest := []) 42 dX10_want_39 rfl kX10_67 okX10_finds (CX10_finds (-1000000001) h L) oO32 rfl rfl rfl rfl (fun r2 h3 => ?_)
    exact g_iret (M := mX10_want) (pc := 42) dX10_want_42 rfl rfl (fun z => z)
  · refine g_iload_n (M := mX10_want) (pc := 12) 13 dX10_want_12 rfl rfl rfl ?_
    refine g_i2l (M := mX10_want) (pc := 13) 14 dX10_want_13 rfl ?_
    refine g_lconst (M := mX10_want) (pc := 14) (v := 0) 15 dX10_want_14 rfl rfl ?_
    refine g_ldc2 (M := mX10_want) (pc := 15) 18 dX10_want_15 rfl cX10_94 ?_
    refine g_cS_I (M := mX10_want) (pc := 18) (M' := mX10_in) (rest := []) 21 dX10_want_18 rfl kX10_45 okX10_in (CX10_in (Int32.toInt64 a2) 0 99 h L) rfl rfl rfl rfl (fun r4 => ?_)
    refine g_if_eq (M := mX10_want) (pc := 21) 36 24 dX10_want_21 (by decide) rfl (fun _ => ?_) (fun _ => ?_)
    · refine g_aload_n (M := mX10_want) (pc := 36) 37 dX10_want_36 rfl rfl rfl ?_
      refine g_ldc (M := mX10_want) (pc := 37) 39 dX10_want_37 rfl cX10_44 ?_
      refine g_cV_IH (M := mX10_want) (pc := 39) (M' := mX10_finds) (rest := []) 42 dX10_want_39 rfl kX10_67 okX10_finds (CX10_finds (-1000000001) h L) oO32 rfl rfl rfl rfl (fun r5 h6 => ?_)
      exact g_iret (M := mX10_want) (pc := 42) dX10_want_42 rfl rfl (fun z => z)
    · refine g_iload_n (M := mX10_want) (pc := 24) 25 dX10_want_24 rfl rfl rfl ?_
      refine g_i2l (M := mX10_want) (pc := 25) 26 dX10_want_25 rfl ?_
      refine g_lconst (M := mX10_want) (pc := 26) (v := 0) 27 dX10_want_26 rfl rfl ?_
      refine g_ldc2 (M := mX10_want) (pc := 27) 30 dX10_want_27 rfl cX10_94 ?_
      refine g_cS_I (M := mX10_want) (pc := 30) (M' := mX10_in) (rest := []) 33 dX10_want_30 rfl kX10_45 okX10_in (CX10_in (Int32.toInt64 a3) 0 99 h L) rfl rfl rfl rfl (fun r7 => ?_)
      refine g_if_ne (M := mX10_want) (pc := 33) 43 36 dX10_want_33 (by decide) rfl (fun _ => ?_) (fun _ => ?_)
      · refine g_aload_n (M := mX10_want) (pc := 43) 44 dX10_want_43 rfl rfl rfl ?_
        refine g_getR (M := mX10_want) (pc := 44) 47 dX10_want_44 rfl fX10_7 oR32_0 ?_
        refine g_iconst (M := mX10_want) (pc := 47) (v := 1) 48 dX10_want_47 rfl ic1 ?_
        refine g_ialdC (M := mX10_want) (pc := 48) (j := 1) 49 dX10_want_48 rfl oA33 rfl rfl ?_
        refine g_bipush (M := mX10_want) (pc := 49) (v := 12) 51 dX10_want_49 rfl bp12 ?_
        refine g_icmp_ne (M := mX10_want) (pc := 51) 63 54 dX10_want_51 (by decide) rfl (fun _ => ?_) (fun _ => ?_)
        · refine g_aload_n (M := mX10_want) (pc := 63) 64 dX10_want_63 rfl rfl rfl ?_
          refine g_iload_n (M := mX10_want) (pc := 64) 65 dX10_want_64 rfl rfl rfl ?_
          refine g_iload_n (M := mX10_want) (pc := 65) 66 dX10_want_65 rfl rfl rfl ?_
          refine g_iload_n (M := mX10_want) (pc := 66) 67 dX10_want_66 rfl rfl rfl ?_
          refine g_cV_IH (M := mX10_want) (pc := 67) (M' := mX10_newWant) (rest := []) 70 dX10_want_67 rfl kX10_96 okX10_newWant (CX10_newWant a1 a2 a3 h L) oO32 rfl rfl rfl rfl (fun r8 h9 => ?_)
          exact g_iret (M := mX10_want) (pc := 70) dX10_want_70 rfl rfl (fun z => z)
        · refine g_aload_n (M := mX10_want) (pc := 54) 55 dX10_want_54 rfl rfl rfl ?_
          refine g_ldc (M := mX10_want) (pc := 55) 57 dX10_want_55 rfl cX10_71 ?_
          refine g_cV_IH (M := mX10_want) (pc := 57) (M' := mX10_finds) (rest := []) 60 dX10_want_57 rfl kX10_67 okX10_finds (CX10_finds (-1000000002) h L) oO32 rfl rfl rfl rfl (fun r10 h11 => ?_)
          refine g_goto (M := mX10_want) (pc := 60) 70 dX10_want_60 (by decide) ?_
          exact g_iret (M := mX10_want) (pc := 70) dX10_want_70 rfl rfl (fun z => z)
      · refine g_aload_n (M := mX10_want) (pc := 36) 37 dX10_want_36 rfl rfl rfl ?_
        refine g_ldc (M := mX10_want) (pc := 37) 39 dX10_want_37 rfl cX10_44 ?_
        refine g_cV_IH (M := mX10_want) (pc := 39) (M' := mX10_finds) (rest := []) 42 dX10_want_39 rfl kX10_67 okX10_finds (CX10_finds (-1000000001) h L) oO32 rfl rfl rfl rfl (fun r12 h13 => ?_)
        exact g_iret (M := mX10_want) (pc := 42) dX10_want_42 rfl rfl (fun z => z)
def FX10_wantOf (a1 : Int32) (a2 : Int32) (h : HI) : Option (Int32 × HI) :=
  Option.bind (FX10_isWant a1 h) fun r1 =>
  if r1 = 0 then
    Option.bind (FX10_finds (-1000000001) h) fun (r2, h3) =>
    some (r2, h3)
  else
    Option.bind (FX10_in (Int32.toInt64 a2) 0 4) fun r4 =>
    if r4 = 0 then
      Option.bind (FX10_finds (-1000000001) h) fun (r5, h6) =>
      some (r5, h6)
    else
      Option.bind (FX10_wants a1 a2 h) fun r7 =>
      some (r7, h)
set_option maxRecDepth 100000 in
set_option maxHeartbeats 4000000 in
theorem CX10_wantOf (a1 : Int32) (a2 : Int32) (h : HI) (L : HL) : CG mX10_wantOf 2 [aR 8 32, aI a1, aI a2] h L (lfIH L) (FX10_wantOf a1 a2 h) := by
  unfold FX10_wantOf
  refine cg_of [some (aR 8 32), some (aI a1), some (aI a2)] rfl (by decide) rfl rfl (fun T => ?_)
  refine g_aload_n (M := mX10_wantOf) (pc := 0) 1 dX10_wantOf_0 rfl rfl rfl ?_
  refine g_iload_n (M := mX10_wantOf) (pc := 1) 2 dX10_wantOf_1 rfl rfl rfl ?_
  refine g_cV_I (M := mX10_wantOf) (pc := 2) (M' := mX10_isWant) (rest := []) 5 dX10_wantOf_2 rfl kX10_100 okX10_isWant (CX10_isWant a1 h L) oO32 rfl rfl rfl rfl (fun r1 => ?_)
  refine g_if_eq (M := mX10_wantOf) (pc := 5) 29 8 dX10_wantOf_5 (by decide) rfl (fun _ => ?_) (fun _ => ?_)
  · refine g_aload_n (M := mX10_wantOf) (pc := 29) 30 dX10_wantOf_29 rfl rfl rfl ?_
    refine g_ldc (M := mX10_wantOf) (pc := 30) 32 dX10_wantOf_30 rfl cX10_44 ?_
    refine g_cV_IH (M := mX10_wantOf) (pc := 32) (M' := mX10_finds) (rest := []) 35 dX10_wantOf_32 rfl kX10_67 okX10_finds (CX10_finds (-1000000001) h L) oO32 rfl rfl rfl rfl (fun r2 h3 => ?_)
    exact g_iret (M := mX10_wantOf) (pc := 35) dX10_wantOf_35 rfl rfl (fun z => z)
  · refine g_iload_n (M := mX10_wantOf) (pc := 8) 9 dX10_wantOf_8 rfl rfl rfl ?_
    refine g_i2l (M := mX10_wantOf) (pc := 9) 10 dX10_wantOf_9 rfl ?_
    refine g_lconst (M := mX10_wantOf) (pc := 10) (v := 0) 11 dX10_wantOf_10 rfl rfl ?_
    refine g_ldc2 (M := mX10_wantOf) (pc := 11) 14 dX10_wantOf_11 rfl cX10_91 ?_
    refine g_cS_I (M := mX10_wantOf) (pc := 14) (M' := mX10_in) (rest := []) 17 dX10_wantOf_14 rfl kX10_45 okX10_in (CX10_in (Int32.toInt64 a2) 0 4 h L) rfl rfl rfl rfl (fun r4 => ?_)
    refine g_if_eq (M := mX10_wantOf) (pc := 17) 29 20 dX10_wantOf_17 (by decide) rfl (fun _ => ?_) (fun _ => ?_)
    · refine g_aload_n (M := mX10_wantOf) (pc := 29) 30 dX10_wantOf_29 rfl rfl rfl ?_
      refine g_ldc (M := mX10_wantOf) (pc := 30) 32 dX10_wantOf_30 rfl cX10_44 ?_
      refine g_cV_IH (M := mX10_wantOf) (pc := 32) (M' := mX10_finds) (rest := []) 35 dX10_wantOf_32 rfl kX10_67 okX10_finds (CX10_finds (-1000000001) h L) oO32 rfl rfl rfl rfl (fun r5 h6 => ?_)
      exact g_iret (M := mX10_wantOf) (pc := 35) dX10_wantOf_35 rfl rfl (fun z => z)
    · refine g_aload_n (M := mX10_wantOf) (pc := 20) 21 dX10_wantOf_20 rfl rfl rfl ?_
      refine g_iload_n (M := mX10_wantOf) (pc := 21) 22 dX10_wantOf_21 rfl rfl rfl ?_
      refine g_iload_n (M := mX10_wantOf) (pc := 22) 23 dX10_wantOf_22 rfl rfl rfl ?_
      refine g_cV_I (M := mX10_wantOf) (pc := 23) (M' := mX10_wants) (rest := []) 26 dX10_wantOf_23 rfl kX10_103 okX10_wants (CX10_wants a1 a2 h L) oO32 rfl rfl rfl rfl (fun r7 => ?_)
      refine g_goto (M := mX10_wantOf) (pc := 26) 35 dX10_wantOf_26 (by decide) ?_
      exact g_iret (M := mX10_wantOf) (pc := 35) dX10_wantOf_35 rfl rfl (fun z => z)
def JX10_change_35 (a1 : Int32) (a2 : Int32) (a3 : Int32) (s0 : Int64) (s1 : Int64) (s2 : Int64) (h : HI) : Option (Int32 × HI) :=
  Option.bind (FX10_in s0 s1 s2) fun r7 =>
  if r7 = 0 then
    Option.bind (FX10_finds (-1000000001) h) fun (r10, h11) =>
    some (r10, h11)
  else
    Option.bind (FX10_wants a1 a2 h) fun r8 =>
    gd (ixb ((78 + (5 * a1)) + a2) 150) <|
    nm (hP1 h 8 33 (nC ((78 + (5 * a1)) + a2)) a3) fun h9 =>
    some (r8, h9)
def FX10_change (a1 : Int32) (a2 : Int32) (a3 : Int32) (h : HI) : Option (Int32 × HI) :=
  Option.bind (FX10_isWant a1 h) fun r1 =>
  if r1 = 0 then
    Option.bind (FX10_finds (-1000000001) h) fun (r2, h3) =>
    some (r2, h3)
  else
    Option.bind (FX10_in (Int32.toInt64 a2) 1 4) fun r4 =>
    if r4 = 0 then
      Option.bind (FX10_finds (-1000000001) h) fun (r5, h6) =>
      some (r5, h6)
    else
      if 3 ≤ a2 then
        JX10_change_35 a1 a2 a3 (Int32.toInt64 a3) 0 1 h
      else
        JX10_change_35 a1 a2 a3 (Int32.toInt64 a3) 0 99 h
set_option maxRecDepth 100000 in
set_option maxHeartbeats 4000000 in
theorem JX10_change_35_ok (a1 : Int32) (a2 : Int32) (a3 : Int32) (s0 : Int64) (s1 : Int64) (s2 : Int64) (T : ZT) (h : HI) (L : HL) : VX mX10_change 2 T (fun r => Zl (lfIH L) r = T) 35 [some (aR 8 32), some (aI a1), some (aI a2), some (aI a3), none] [aL s2, aL s1, aL s0] h L (JX10_change_35 a1 a2 a3 s0 s1 s2 h) := by
  unfold JX10_change_35
  refine g_cS_I (M := mX10_change) (pc := 35) (M' := mX10_in) (rest := []) 38 dX10_change_35 rfl kX10_45 okX10_in (CX10_in s0 s1 s2 h L) rfl rfl rfl rfl (fun r7 => ?_)
  refine g_if_ne (M := mX10_change) (pc := 38) 48 41 dX10_change_38 (by decide) rfl (fun _ => ?_) (fun _ => ?_)
  · refine g_aload_n (M := mX10_change) (pc := 48) 49 dX10_change_48 rfl rfl rfl ?_
    refine g_iload_n (M := mX10_change) (pc := 49) 50 dX10_change_49 rfl rfl rfl ?_
    refine g_iload_n (M := mX10_change) (pc := 50) 51 dX10_change_50 rfl rfl rfl ?_
    refine g_cV_I (M := mX10_change) (pc := 51) (M' := mX10_wants) (rest := []) 54 dX10_change_51 rfl kX10_103 okX10_wants (CX10_wants a1 a2 h L) oO32 rfl rfl rfl rfl (fun r8 => ?_)
    refine g_istore (M := mX10_change) (pc := 54) (ls' := [some (aR 8 32), some (aI a1), some (aI a2), some (aI a3), some (aI r8)]) 56 dX10_change_54 rfl rfl rfl ?_
    refine g_aload_n (M := mX10_change) (pc := 56) 57 dX10_change_56 rfl rfl rfl ?_
    refine g_getR (M := mX10_change) (pc := 57) 60 dX10_change_57 rfl fX10_7 oR32_0 ?_
    refine g_bipush (M := mX10_change) (pc := 60) (v := 78) 62 dX10_change_60 rfl bp78 ?_
    refine g_iconst (M := mX10_change) (pc := 62) (v := 5) 63 dX10_change_62 rfl ic5 ?_
    refine g_iload_n (M := mX10_change) (pc := 63) 64 dX10_change_63 rfl rfl rfl ?_
    refine g_imul (M := mX10_change) (pc := 64) 65 dX10_change_64 rfl ?_
    refine g_iadd (M := mX10_change) (pc := 65) 66 dX10_change_65 rfl ?_
    refine g_iload_n (M := mX10_change) (pc := 66) 67 dX10_change_66 rfl rfl rfl ?_
    refine g_iadd (M := mX10_change) (pc := 67) 68 dX10_change_67 rfl ?_
    refine g_iload_n (M := mX10_change) (pc := 68) 69 dX10_change_68 rfl rfl rfl ?_
    refine g_iast (M := mX10_change) (pc := 69) 70 dX10_change_69 rfl oA33 (fun h9 => ?_)
    refine g_iload (M := mX10_change) (pc := 70) 72 dX10_change_70 rfl rfl ?_
    exact g_iret (M := mX10_change) (pc := 72) dX10_change_72 rfl rfl (fun z => z)
  · refine g_aload_n (M := mX10_change) (pc := 41) 42 dX10_change_41 rfl rfl rfl ?_
    refine g_ldc (M := mX10_change) (pc := 42) 44 dX10_change_42 rfl cX10_44 ?_
    refine g_cV_IH (M := mX10_change) (pc := 44) (M' := mX10_finds) (rest := []) 47 dX10_change_44 rfl kX10_67 okX10_finds (CX10_finds (-1000000001) h L) oO32 rfl rfl rfl rfl (fun r10 h11 => ?_)
    exact g_iret (M := mX10_change) (pc := 47) dX10_change_47 rfl rfl (fun z => z)
set_option maxRecDepth 100000 in
set_option maxHeartbeats 4000000 in
theorem CX10_change (a1 : Int32) (a2 : Int32) (a3 : Int32) (h : HI) (L : HL) : CG mX10_change 2 [aR 8 32, aI a1, aI a2, aI a3] h L (lfIH L) (FX10_change a1 a2 a3 h) := by
  unfold FX10_change
  refine cg_of [some (aR 8 32), some (aI a1), some (aI a2), some (aI a3), none] rfl (by decide) rfl rfl (fun T => ?_)
  refine g_aload_n (M := mX10_change) (pc := 0) 1 dX10_change_0 rfl rfl rfl ?_
  refine g_iload_n (M := mX10_change) (pc := 1) 2 dX10_change_1 rfl rfl rfl ?_
  refine g_cV_I (M := mX10_change) (pc := 2) (M' := mX10_isWant) (rest := []) 5 dX10_change_2 rfl kX10_100 okX10_isWant (CX10_isWant a1 h L) oO32 rfl rfl rfl rfl (fun r1 => ?_)
  refine g_if_eq (M := mX10_change) (pc := 5) 41 8 dX10_change_5 (by decide) rfl (fun _ => ?_) (fun _ => ?_)
  · refine g_aload_n (M := mX10_change) (pc := 41) 42 dX10_change_41 rfl rfl rfl ?_
    refine g_ldc (M := mX10_change) (pc := 42) 44 dX10_change_42 rfl cX10_44 ?_
    refine g_cV_IH (M := mX10_change) (pc := 44) (M' := mX10_finds) (rest := []) 47 dX10_change_44 rfl kX10_67 okX10_finds (CX10_finds (-1000000001) h L) oO32 rfl rfl rfl rfl (fun r2 h3 => ?_)
    exact g_iret (M := mX10_change) (pc := 47) dX10_change_47 rfl rfl (fun z => z)
  · refine g_iload_n (M := mX10_change) (pc := 8) 9 dX10_change_8 rfl rfl rfl ?_
    refine g_i2l (M := mX10_change) (pc := 9) 10 dX10_change_9 rfl ?_
    refine g_lconst (M := mX10_change) (pc := 10) (v := 1) 11 dX10_change_10 rfl rfl ?_
    refine g_ldc2 (M := mX10_change) (pc := 11) 14 dX10_change_11 rfl cX10_91 ?_
    refine g_cS_I (M := mX10_change) (pc := 14) (M' := mX10_in) (rest := []) 17 dX10_change_14 rfl kX10_45 okX10_in (CX10_in (Int32.toInt64 a2) 1 4 h L) rfl rfl rfl rfl (fun r4 => ?_)
    refine g_if_eq (M := mX10_change) (pc := 17) 41 20 dX10_change_17 (by decide) rfl (fun _ => ?_) (fun _ => ?_)
    · refine g_aload_n (M := mX10_change) (pc := 41) 42 dX10_change_41 rfl rfl rfl ?_
      refine g_ldc (M := mX10_change) (pc := 42) 44 dX10_change_42 rfl cX10_44 ?_
      refine g_cV_IH (M := mX10_change) (pc := 44) (M' := mX10_finds) (rest := []) 47 dX10_change_44 rfl kX10_67 okX10_finds (CX10_finds (-1000000001) h L) oO32 rfl rfl rfl rfl (fun r5 h6 => ?_)
      exact g_iret (M := mX10_change) (pc := 47) dX10_change_47 rfl rfl (fun z => z)
    · refine g_iload_n (M := mX10_change) (pc := 20) 21 dX10_change_20 rfl rfl rfl ?_
      refine g_i2l (M := mX10_change) (pc := 21) 22 dX10_change_21 rfl ?_
      refine g_lconst (M := mX10_change) (pc := 22) (v := 0) 23 dX10_change_22 rfl rfl ?_
      refine g_iload_n (M := mX10_change) (pc := 23) 24 dX10_change_23 rfl rfl rfl ?_
      refine g_iconst (M := mX10_change) (pc := 24) (v := 3) 25 dX10_change_24 rfl ic3 ?_
      refine g_icmp_ge (M := mX10_change) (pc := 25) 34 28 dX10_change_25 (by decide) rfl (fun _ => ?_) (fun _ => ?_)
      · refine g_lconst (M := mX10_change) (pc := 34) (v := 1) 35 dX10_change_34 rfl rfl ?_
        exact g_fgt [true, true, true, true, false] (JX10_change_35_ok a1 a2 a3 (Int32.toInt64 a3) 0 1 T h L)
      · refine g_ldc2 (M := mX10_change) (pc := 28) 31 dX10_change_28 rfl cX10_94 ?_
        refine g_goto (M := mX10_change) (pc := 31) 35 dX10_change_31 (by decide) ?_
        exact g_fgt [true, true, true, true, false] (JX10_change_35_ok a1 a2 a3 (Int32.toInt64 a3) 0 99 T h L)
def SX10_hasRope_4 (a1 : Int32) (h : HI) : (Int32 × Int32) → Option ((Int32 × Int32) ⊕ (Int32))
  | (a2, a3) =>
    if (h 8 33 0) ≤ a3 then
      some (Sum.inr a2)
    else
      if a2 = 0 then
        Option.bind (FX10_has a1 a3) fun r1 =>
        if r1 = 0 then
          some (Sum.inl (0, (a3 + 1)))
        else
          Option.bind (FX10_its a3 0 h) fun r2 =>
          if r2 = 2 then
            some (Sum.inl (1, (a3 + 1)))
          else
            Option.bind (FX10_its a3 0 h) fun r3 =>
            if r3 = 4 then
              some (Sum.inl (1, (a3 + 1)))
            else
              some (Sum.inl (0, (a3 + 1)))
      else
        some (Sum.inl (1, (a3 + 1)))
def FX10_hasRope (a1 : Int32) (h : HI) : Option (Int32) :=
  Option.bind (loopN (SX10_hasRope_4 a1 h) FU (0, 0)) fun e4 =>
    gd (isB e4) (some e4)
set_option maxRecDepth 100000 in
set_option maxHeartbeats 4000000 in
theorem SX10_hasRope_4_ok (a1 : Int32) (h : HI) (L : HL) (T : ZT) (a2 : Int32) (a3 : Int32) : VX mX10_hasRope 2 T (gS (fun s : Int32 × Int32 => V mX10_hasRope 2 T 4 [some (aR 8 32), some (aI a1), some (aI (s.1)), some (aI (s.2))] [] h L) (fun s : Int32 => V mX10_hasRope 2 T 58 [none, none, some (aI s), none] [] h L)) 4 [some (aR 8 32), some (aI a1), some (aI a2), some (aI a3)] [] h L (SX10_hasRope_4 a1 h (a2, a3)) := by
  unfold SX10_hasRope_4
  refine g_iload_n (M := mX10_hasRope) (pc := 4) 5 dX10_hasRope_4 rfl rfl rfl ?_
  refine g_aload_n (M := mX10_hasRope) (pc := 5) 6 dX10_hasRope_5 rfl rfl rfl ?_
  refine g_getR (M := mX10_hasRope) (pc := 6) 9 dX10_hasRope_6 rfl fX10_7 oR32_0 ?_
  refine g_iconst (M := mX10_hasRope) (pc := 9) (v := 0) 10 dX10_hasRope_9 rfl ic0 ?_
  refine g_ialdC (M := mX10_hasRope) (pc := 10) (j := 0) 11 dX10_hasRope_10 rfl oA33 rfl rfl ?_
  refine g_icmp_ge (M := mX10_hasRope) (pc := 11) 58 14 dX10_hasRope_11 (by decide) rfl (fun _ => ?_) (fun _ => ?_)
  · exact g_jmp (fun z => v_fgt [false, false, true, false] z)
  · refine g_iload_n (M := mX10_hasRope) (pc := 14) 15 dX10_hasRope_14 rfl rfl rfl ?_
    refine g_if_ne (M := mX10_hasRope) (pc := 15) 46 18 dX10_hasRope_15 (by decide) rfl (fun _ => ?_) (fun _ => ?_)
    · refine g_iconst (M := mX10_hasRope) (pc := 46) (v := 1) 47 dX10_hasRope_46 rfl ic1 ?_
      refine g_goto (M := mX10_hasRope) (pc := 47) 51 dX10_hasRope_47 (by decide) ?_
      refine g_istore_n (M := mX10_hasRope) (pc := 51) (ls' := [some (aR 8 32), some (aI a1), some (aI 1), some (aI a3)]) 52 dX10_hasRope_51 rfl rfl rfl rfl ?_
      refine g_iinc (M := mX10_hasRope) (pc := 52) (c := 1) (ls' := [some (aR 8 32), some (aI a1), some (aI 1), some (aI (a3 + 1))]) 55 dX10_hasRope_52 rfl ic1 rfl rfl rfl ?_
      refine g_goto (M := mX10_hasRope) (pc := 55) 4 dX10_hasRope_55 (by decide) ?_
      exact g_jmp (fun z => v_fgt [true, true, true, true] z)
    · refine g_iload_n (M := mX10_hasRope) (pc := 18) 19 dX10_hasRope_18 rfl rfl rfl ?_
      refine g_iload_n (M := mX10_hasRope) (pc := 19) 20 dX10_hasRope_19 rfl rfl rfl ?_
      refine g_cS_I (M := mX10_hasRope) (pc := 20) (M' := mX10_has) (rest := []) 23 dX10_hasRope_20 rfl kX10_106 okX10_has (CX10_has a1 a3 h L) rfl rfl rfl rfl (fun r1 => ?_)
      refine g_if_eq (M := mX10_hasRope) (pc := 23) 50 26 dX10_hasRope_23 (by decide) rfl (fun _ => ?_) (fun _ => ?_)
      · refine g_iconst (M := mX10_hasRope) (pc := 50) (v := 0) 51 dX10_hasRope_50 rfl ic0 ?_
        refine g_istore_n (M := mX10_hasRope) (pc := 51) (ls' := [some (aR 8 32), some (aI a1), some (aI 0), some (aI a3)]) 52 dX10_hasRope_51 rfl rfl rfl rfl ?_
        refine g_iinc (M := mX10_hasRope) (pc := 52) (c := 1) (ls' := [some (aR 8 32), some (aI a1), some (aI 0), some (aI (a3 + 1))]) 55 dX10_hasRope_52 rfl ic1 rfl rfl rfl ?_
        refine g_goto (M := mX10_hasRope) (pc := 55) 4 dX10_hasRope_55 (by decide) ?_
        exact g_jmp (fun z => v_fgt [true, true, true, true] z)
      · refine g_aload_n (M := mX10_hasRope) (pc := 26) 27 dX10_hasRope_26 rfl rfl rfl ?_
        refine g_iload_n (M := mX10_hasRope) (pc := 27) 28 dX10_hasRope_27 rfl rfl rfl ?_
        refine g_iconst (M := mX10_hasRope) (pc := 28) (v := 0) 29 dX10_hasRope_28 rfl ic0 ?_
        refine g_cV_I (M := mX10_hasRope) (pc := 29) (M' := mX10_its) (rest := []) 32 dX10_hasRope_29 rfl kX10_76 okX10_its (CX10_its a3 0 h L) oO32 rfl rfl rfl rfl (fun r2 => ?_)
        refine g_iconst (M := mX10_hasRope) (pc := 32) (v := 2) 33 dX10_hasRope_32 rfl ic2 ?_
        refine g_icmp_eq (M := mX10_hasRope) (pc := 33) 46 36 dX10_hasRope_33 (by decide) rfl (fun _ => ?_) (fun _ => ?_)
        · refine g_iconst (M := mX10_hasRope) (pc := 46) (v := 1) 47 dX10_hasRope_46 rfl ic1 ?_
          refine g_goto (M := mX10_hasRope) (pc := 47) 51 dX10_hasRope_47 (by decide) ?_
          refine g_istore_n (M := mX10_hasRope) (pc := 51) (ls' := [some (aR 8 32), some (aI a1), some (aI 1), some (aI a3)]) 52 dX10_hasRope_51 rfl rfl rfl rfl ?_
          refine g_iinc (M := mX10_hasRope) (pc := 52) (c := 1) (ls' := [some (aR 8 32), some (aI a1), some (aI 1), some (aI (a3 + 1))]) 55 dX10_hasRope_52 rfl ic1 rfl rfl rfl ?_
          refine g_goto (M := mX10_hasRope) (pc := 55) 4 dX10_hasRope_55 (by decide) ?_
          exact g_jmp (fun z => v_fgt [true, true, true, true] z)
        · refine g_aload_n (M := mX10_hasRope) (pc := 36) 37 dX10_hasRope_36 rfl rfl rfl ?_
          refine g_iload_n (M := mX10_hasRope) (pc := 37) 38 dX10_hasRope_37 rfl rfl rfl ?_
          refine g_iconst (M := mX10_hasRope) (pc := 38) (v := 0) 39 dX10_hasRope_38 rfl ic0 ?_
          refine g_cV_I (M := mX10_hasRope) (pc := 39) (M' := mX10_its) (rest := []) 42 dX10_hasRope_39 rfl kX10_76 okX10_its (CX10_its a3 0 h L) oO32 rfl rfl rfl rfl (fun r3 => ?_)
          refine g_iconst (M := mX10_hasRope) (pc := 42) (v := 4) 43 dX10_hasRope_42 rfl ic4 ?_
          refine g_icmp_ne (M := mX10_hasRope) (pc := 43) 50 46 dX10_hasRope_43 (by decide) rfl (fun _ => ?_) (fun _ => ?_)
          · refine g_iconst (M := mX10_hasRope) (pc := 50) (v := 0) 51 dX10_hasRope_50 rfl ic0 ?_
            refine g_istore_n (M := mX10_hasRope) (pc := 51) (ls' := [some (aR 8 32), some (aI a1), some (aI 0), some (aI a3)]) 52 dX10_hasRope_51 rfl rfl rfl rfl ?_
            refine g_iinc (M := mX10_hasRope) (pc := 52) (c := 1) (ls' := [some (aR 8 32), some (aI a1), some (aI 0), some (aI (a3 + 1))]) 55 dX10_hasRope_52 rfl ic1 rfl rfl rfl ?_
            refine g_goto (M := mX10_hasRope) (pc := 55) 4 dX10_hasRope_55 (by decide) ?_
            exact g_jmp (fun z => v_fgt [true, true, true, true] z)
          · refine g_iconst (M := mX10_hasRope) (pc := 46) (v := 1) 47 dX10_hasRope_46 rfl ic1 ?_
            refine g_goto (M := mX10_hasRope) (pc := 47) 51 dX10_hasRope_47 (by decide) ?_
            refine g_istore_n (M := mX10_hasRope) (pc := 51) (ls' := [some (aR 8 32), some (aI a1), some (aI 1), some (aI a3)]) 52 dX10_hasRope_51 rfl rfl rfl rfl ?_
            refine g_iinc (M := mX10_hasRope) (pc := 52) (c := 1) (ls' := [some (aR 8 32), some (aI a1), some (aI 1), some (aI (a3 + 1))]) 55 dX10_hasRope_52 rfl ic1 rfl rfl rfl ?_
            refine g_goto (M := mX10_hasRope) (pc := 55) 4 dX10_hasRope_55 (by decide) ?_
            exact g_jmp (fun z => v_fgt [true, true, true, true] z)
set_option maxRecDepth 100000 in
set_option maxHeartbeats 4000000 in
theorem CX10_hasRope (a1 : Int32) (h : HI) (L : HL) : CG mX10_hasRope 2 [aR 8 32, aI a1] h L (lfI h L) (FX10_hasRope a1 h) := by
  unfold FX10_hasRope
  refine cg_of [some (aR 8 32), some (aI a1), none, none] rfl (by decide) rfl rfl (fun T => ?_)
  refine g_iconst (M := mX10_hasRope) (pc := 0) (v := 0) 1 dX10_hasRope_0 rfl ic0 ?_
  refine g_istore_n (M := mX10_hasRope) (pc := 1) (ls' := [some (aR 8 32), some (aI a1), some (aI 0), none]) 2 dX10_hasRope_1 rfl rfl rfl rfl ?_
  refine g_iconst (M := mX10_hasRope) (pc := 2) (v := 0) 3 dX10_hasRope_2 rfl ic0 ?_
  refine g_istore_n (M := mX10_hasRope) (pc := 3) (ls' := [some (aR 8 32), some (aI a1), some (aI 0), some (aI 0)]) 4 dX10_hasRope_3 rfl rfl rfl rfl ?_
  refine g_loop (fun s => SX10_hasRope_4_ok a1 h L T s.1 s.2) ?_ (fun z => v_fgt [true, true, true, true] z)
  intro e4
  show VX mX10_hasRope 2 T _ 58 [none, none, some (aI e4), none] [] h L _
  refine g_iload_n (M := mX10_hasRope) (pc := 58) 59 dX10_hasRope_58 rfl rfl rfl ?_
  exact g_zret (M := mX10_hasRope) (pc := 59) dX10_hasRope_59 rfl (fun z => z)
def SX10_hasMending_4 (a1 : Int32) (h : HI) : (Int32 × Int32) → Option ((Int32 × Int32) ⊕ (Int32))
  | (a2, a3) =>
    if (h 8 33 0) ≤ a3 then
      some (Sum.inr a2)
    else
      if a2 = 0 then
        Option.bind (FX10_has a1 a3) fun r1 =>
        if r1 = 0 then
          some (Sum.inl (0, (a3 + 1)))
        else
          Option.bind (FX10_its a3 0 h) fun r2 =>
          if r2 = 4 then
            some (Sum.inl (1, (a3 + 1)))
          else
            some (Sum.inl (0, (a3 + 1)))
      else
        some (Sum.inl (1, (a3 + 1)))
def FX10_hasMending (a1 : Int32) (h : HI) : Option (Int32) :=
  Option.bind (loopN (SX10_hasMending_4 a1 h) FU (0, 0)) fun e3 =>
    gd (isB e3) (some e3)
set_option maxRecDepth 100000 in
set_option maxHeartbeats 4000000 in
theorem SX10_hasMending_4_ok (a1 : Int32) (h : HI) (L : HL) (T : ZT) (a2 : Int32) (a3 : Int32) : VX mX10_hasMending 2 T (gS (fun s : Int32 × Int32 => V mX10_hasMending 2 T 4 [some (aR 8 32), some (aI a1), some (aI (s.1)), some (aI (s.2))] [] h L) (fun s : Int32 => V mX10_hasMending 2 T 48 [none, none, some (aI s), none] [] h L)) 4 [some (aR 8 32), some (aI a1), some (aI a2), some (aI a3)] [] h L (SX10_hasMending_4 a1 h (a2, a3)) := by
  unfold SX10_hasMending_4
  refine g_iload_n (M := mX10_hasMending) (pc := 4) 5 dX10_hasMending_4 rfl rfl rfl ?_
  refine g_aload_n (M := mX10_hasMending) (pc := 5) 6 dX10_hasMending_5 rfl rfl rfl ?_
  refine g_getR (M := mX10_hasMending) (pc := 6) 9 dX10_hasMending_6 rfl fX10_7 oR32_0 ?_
  refine g_iconst (M := mX10_hasMending) (pc := 9) (v := 0) 10 dX10_hasMending_9 rfl ic0 ?_
  refine g_ialdC (M := mX10_hasMending) (pc := 10) (j := 0) 11 dX10_hasMending_10 rfl oA33 rfl rfl ?_
  refine g_icmp_ge (M := mX10_hasMending) (pc := 11) 48 14 dX10_hasMending_11 (by decide) rfl (fun _ => ?_) (fun _ => ?_)
  · exact g_jmp (fun z => v_fgt [false, false, true, false] z)
  · refine g_iload_n (M := mX10_hasMending) (pc := 14) 15 dX10_hasMending_14 rfl rfl rfl ?_
    refine g_if_ne (M := mX10_hasMending) (pc := 15) 36 18 dX10_hasMending_15 (by decide) rfl (fun _ => ?_) (fun _ => ?_)
    · refine g_iconst (M := mX10_hasMending) (pc := 36) (v := 1) 37 dX10_hasMending_36 rfl ic1 ?_
      refine g_goto (M := mX10_hasMending) (pc := 37) 41 dX10_hasMending_37 (by decide) ?_
      refine g_istore_n (M := mX10_hasMending) (pc := 41) (ls' := [some (aR 8 32), some (aI a1), some (aI 1), some (aI a3)]) 42 dX10_hasMending_41 rfl rfl rfl rfl ?_
      refine g_iinc (M := mX10_hasMending) (pc := 42) (c := 1) (ls' := [some (aR 8 32), some (aI a1), some (aI 1), some (aI (a3 + 1))]) 45 dX10_hasMending_42 rfl ic1 rfl rfl rfl ?_
      refine g_goto (M := mX10_hasMending) (pc := 45) 4 dX10_hasMending_45 (by decide) ?_
      exact g_jmp (fun z => v_fgt [true, true, true, true] z)
    · refine g_iload_n (M := mX10_hasMending) (pc := 18) 19 dX10_hasMending_18 rfl rfl rfl ?_
      refine g_iload_n (M := mX10_hasMending) (pc := 19) 20 dX10_hasMending_19 rfl rfl rfl ?_
      refine g_cS_I (M := mX10_hasMending) (pc := 20) (M' := mX10_has) (rest := []) 23 dX10_hasMending_20 rfl kX10_106 okX10_has (CX10_has a1 a3 h L) rfl rfl rfl rfl (fun r1 => ?_)
      refine g_if_eq (M := mX10_hasMending) (pc := 23) 40 26 dX10_hasMending_23 (by decide) rfl (fun _ => ?_) (fun _ => ?_)
      · refine g_iconst (M := mX10_hasMending) (pc := 40) (v := 0) 41 dX10_hasMending_40 rfl ic0 ?_
        refine g_istore_n (M := mX10_hasMending) (pc := 41) (ls' := [some (aR 8 32), some (aI a1), some (aI 0), some (aI a3)]) 42 dX10_hasMending_41 rfl rfl rfl rfl ?_
        refine g_iinc (M := mX10_hasMending) (pc := 42) (c := 1) (ls' := [some (aR 8 32), some (aI a1), some (aI 0), some (aI (a3 + 1))]) 45 dX10_hasMending_42 rfl ic1 rfl rfl rfl ?_
        refine g_goto (M := mX10_hasMending) (pc := 45) 4 dX10_hasMending_45 (by decide) ?_
        exact g_jmp (fun z => v_fgt [true, true, true, true] z)
      · refine g_aload_n (M := mX10_hasMending) (pc := 26) 27 dX10_hasMending_26 rfl rfl rfl ?_
        refine g_iload_n (M := mX10_hasMending) (pc := 27) 28 dX10_hasMending_27 rfl rfl rfl ?_
        refine g_iconst (M := mX10_hasMending) (pc := 28) (v := 0) 29 dX10_hasMending_28 rfl ic0 ?_
        refine g_cV_I (M := mX10_hasMending) (pc := 29) (M' := mX10_its) (rest := []) 32 dX10_hasMending_29 rfl kX10_76 okX10_its (CX10_its a3 0 h L) oO32 rfl rfl rfl rfl (fun r2 => ?_)
        refine g_iconst (M := mX10_hasMending) (pc := 32) (v := 4) 33 dX10_hasMending_32 rfl ic4 ?_
        refine g_icmp_ne (M := mX10_hasMending) (pc := 33) 40 36 dX10_hasMending_33 (by decide) rfl (fun _ => ?_) (fun _ => ?_)
        · refine g_iconst (M := mX10_hasMending) (pc := 40) (v := 0) 41 dX10_hasMending_40 rfl ic0 ?_
          refine g_istore_n (M := mX10_hasMending) (pc := 41) (ls' := [some (aR 8 32), some (aI a1), some (aI 0), some (aI a3)]) 42 dX10_hasMending_41 rfl rfl rfl rfl ?_
          refine g_iinc (M := mX10_hasMending) (pc := 42) (c := 1) (ls' := [some (aR 8 32), some (aI a1), some (aI 0), some (aI (a3 + 1))]) 45 dX10_hasMending_42 rfl ic1 rfl rfl rfl ?_
          refine g_goto (M := mX10_hasMending) (pc := 45) 4 dX10_hasMending_45 (by decide) ?_
          exact g_jmp (fun z => v_fgt [true, true, true, true] z)
        · refine g_iconst (M := mX10_hasMending) (pc := 36) (v := 1) 37 dX10_hasMending_36 rfl ic1 ?_
          refine g_goto (M := mX10_hasMending) (pc := 37) 41 dX10_hasMending_37 (by decide) ?_
          refine g_istore_n (M := mX10_hasMending) (pc := 41) (ls' := [some (aR 8 32), some (aI a1), some (aI 1), some (aI a3)]) 42 dX10_hasMending_41 rfl rfl rfl rfl ?_
          refine g_iinc (M := mX10_hasMending) (pc := 42) (c := 1) (ls' := [some (aR 8 32), some (aI a1), some (aI 1), some (aI (a3 + 1))]) 45 dX10_hasMending_42 rfl ic1 rfl rfl rfl ?_
          refine g_goto (M := mX10_hasMending) (pc := 45) 4 dX10_hasMending_45 (by decide) ?_
          exact g_jmp (fun z => v_fgt [true, true, true, true] z)
set_option maxRecDepth 100000 in
set_option maxHeartbeats 4000000 in
theorem CX10_hasMending (a1 : Int32) (h : HI) (L : HL) : CG mX10_hasMending 2 [aR 8 32, aI a1] h L (lfI h L) (FX10_hasMending a1 h) := by
  unfold FX10_hasMending
  refine cg_of [some (aR 8 32), some (aI a1), none, none] rfl (by decide) rfl rfl (fun T => ?_)
  refine g_iconst (M := mX10_hasMending) (pc := 0) (v := 0) 1 dX10_hasMending_0 rfl ic0 ?_
  refine g_istore_n (M := mX10_hasMending) (pc := 1) (ls' := [some (aR 8 32), some (aI a1), some (aI 0), none]) 2 dX10_hasMending_1 rfl rfl rfl rfl ?_
  refine g_iconst (M := mX10_hasMending) (pc := 2) (v := 0) 3 dX10_hasMending_2 rfl ic0 ?_
  refine g_istore_n (M := mX10_hasMending) (pc := 3) (ls' := [some (aR 8 32), some (aI a1), some (aI 0), some (aI 0)]) 4 dX10_hasMending_3 rfl rfl rfl rfl ?_
  refine g_loop (fun s => SX10_hasMending_4_ok a1 h L T s.1 s.2) ?_ (fun z => v_fgt [true, true, true, true] z)
  intro e3
  show VX mX10_hasMending 2 T _ 48 [none, none, some (aI e3), none] [] h L _
  refine g_iload_n (M := mX10_hasMending) (pc := 48) 49 dX10_hasMending_48 rfl rfl rfl ?_
  exact g_zret (M := mX10_hasMending) (pc := 49) dX10_hasMending_49 rfl (fun z => z)
def JX10_gainOf_54 (a1 : Int32) (a2 : Int32) (a4 : Int32) (a5 : Int32) (s0 : Int32) (h : HI) : Option (Int32) :=
  Option.bind (FX10_its a1 0 h) fun r4 =>
  if r4 = 1 then
    some s0
  else
  if r4 = 2 then
    some (a4 / 4)
  else
  if r4 = 3 then
    Option.bind (FX10_wants a2 4 h) fun r5 =>
    if r5 = 1 then
      some s0
    else
      some (s0 / 3)
  else
  if r4 = 4 then
    some ((a4 / 4) + 1)
  else
  if r4 = 5 then
    Option.bind (FX10_wants a2 3 h) fun r6 =>
    if r6 = 1 then
      some (3 * a5)
    else
      some a5
  else
  some a5
def JX10_gainOf_39 (a1 : Int32) (a2 : Int32) (a3 : Int32) (a4 : Int32) (s0 : Int32) (h : HI) : Option (Int32) :=
  if a3 = 0 then
    JX10_gainOf_54 a1 a2 a4 s0 (s0 / 2) h
  else
    JX10_gainOf_54 a1 a2 a4 s0 s0 h
def FX10_gainOf (a1 : Int32) (a2 : Int32) (a3 : Int32) (h : HI) : Option (Int32) :=
  Option.bind (FX10_wants a2 1 h) fun r1 =>
  Option.bind (FX10_its a1 1 h) fun r2 =>
  Option.bind (FX10_wants a2 0 h) fun r3 =>
  if r2 = r3 then
    Option.bind (FX10_its a1 3 h) fun r7 =>
    JX10_gainOf_39 a1 a2 a3 r1 ((r1 * r7) / 10) h
  else
    JX10_gainOf_39 a1 a2 a3 r1 0 h
set_option maxRecDepth 100000 in
set_option maxHeartbeats 4000000 in
theorem JX10_gainOf_54_ok (a1 : Int32) (a2 : Int32) (a4 : Int32) (a5 : Int32) (s0 : Int32) (T : ZT) (h : HI) (L : HL) : VX mX10_gainOf 2 T (fun r => Zl (lfI h L) r = T) 54 [some (aR 8 32), some (aI a1), some (aI a2), none, some (aI a4), some (aI a5), none] [aI s0] h L (JX10_gainOf_54 a1 a2 a4 a5 s0 h) := by
  unfold JX10_gainOf_54
  refine g_istore (M := mX10_gainOf) (pc := 54) (ls' := [some (aR 8 32), some (aI a1), some (aI a2), none, some (aI a4), some (aI a5), some (aI s0)]) 56 dX10_gainOf_54 rfl rfl rfl ?_
  refine g_aload_n (M := mX10_gainOf) (pc := 56) 57 dX10_gainOf_56 rfl rfl rfl ?_
  refine g_iload_n (M := mX10_gainOf) (pc := 57) 58 dX10_gainOf_57 rfl rfl rfl ?_
  refine g_iconst (M := mX10_gainOf) (pc := 58) (v := 0) 59 dX10_gainOf_58 rfl ic0 ?_
  refine g_cV_I (M := mX10_gainOf) (pc := 59) (M' := mX10_its) (rest := []) 62 dX10_gainOf_59 rfl kX10_76 okX10_its (CX10_its a1 0 h L) oO32 rfl rfl rfl rfl (fun r4 => ?_)
  refine g_tsc (M := mX10_gainOf) (pc := 62) (v := 1) 96 dX10_gainOf_62 (by decide) (by decide) rfl (by decide) (fun _ => ?_) (fun z1 => ?_)
  · refine g_iload (M := mX10_gainOf) (pc := 96) 98 dX10_gainOf_96 rfl rfl ?_
    exact g_iret (M := mX10_gainOf) (pc := 98) dX10_gainOf_98 rfl rfl (fun z => z)
  refine g_tsc (M := mX10_gainOf) (pc := 62) (v := 2) 99 dX10_gainOf_62 (by decide) (by decide) rfl (by decide) (fun _ => ?_) (fun z2 => ?_)
  · refine g_iload (M := mX10_gainOf) (pc := 99) 101 dX10_gainOf_99 rfl rfl ?_
    refine g_iconst (M := mX10_gainOf) (pc := 101) (v := 4) 102 dX10_gainOf_101 rfl ic4 ?_
    refine g_idivC (M := mX10_gainOf) (pc := 102) 103 dX10_gainOf_102 rfl (by decide) ?_
    exact g_iret (M := mX10_gainOf) (pc := 103) dX10_gainOf_103 rfl rfl (fun z => z)
  refine g_tsc (M := mX10_gainOf) (pc := 62) (v := 3) 104 dX10_gainOf_62 (by decide) (by decide) rfl (by decide) (fun _ => ?_) (fun z3 => ?_)
  · refine g_aload_n (M := mX10_gainOf) (pc := 104) 105 dX10_gainOf_104 rfl rfl rfl ?_
    refine g_iload_n (M := mX10_gainOf) (pc := 105) 106 dX10_gainOf_105 rfl rfl rfl ?_
    refine g_iconst (M := mX10_gainOf) (pc := 106) (v := 4) 107 dX10_gainOf_106 rfl ic4 ?_
    refine g_cV_I (M := mX10_gainOf) (pc := 107) (M' := mX10_wants) (rest := []) 110 dX10_gainOf_107 rfl kX10_103 okX10_wants (CX10_wants a2 4 h L) oO32 rfl rfl rfl rfl (fun r5 => ?_)
    refine g_iconst (M := mX10_gainOf) (pc := 110) (v := 1) 111 dX10_gainOf_110 rfl ic1 ?_
    refine g_icmp_ne (M := mX10_gainOf) (pc := 111) 119 114 dX10_gainOf_111 (by decide) rfl (fun _ => ?_) (fun _ => ?_)
    · refine g_iload (M := mX10_gainOf) (pc := 119) 121 dX10_gainOf_119 rfl rfl ?_
      refine g_iconst (M := mX10_gainOf) (pc := 121) (v := 3) 122 dX10_gainOf_121 rfl ic3 ?_
      refine g_idivC (M := mX10_gainOf) (pc := 122) 123 dX10_gainOf_122 rfl (by decide) ?_
      exact g_iret (M := mX10_gainOf) (pc := 123) dX10_gainOf_123 rfl rfl (fun z => z)
    · refine g_iload (M := mX10_gainOf) (pc := 114) 116 dX10_gainOf_114 rfl rfl ?_
      refine g_goto (M := mX10_gainOf) (pc := 116) 123 dX10_gainOf_116 (by decide) ?_
      exact g_iret (M := mX10_gainOf) (pc := 123) dX10_gainOf_123 rfl rfl (fun z => z)
  refine g_tsc (M := mX10_gainOf) (pc := 62) (v := 4) 124 dX10_gainOf_62 (by decide) (by decide) rfl (by decide) (fun _ => ?_) (fun z4 => ?_)
  · refine g_iload (M := mX10_gainOf) (pc := 124) 126 dX10_gainOf_124 rfl rfl ?_
    refine g_iconst (M := mX10_gainOf) (pc := 126) (v := 4) 127 dX10_gainOf_126 rfl ic4 ?_
    refine g_idivC (M := mX10_gainOf) (pc := 127) 128 dX10_gainOf_127 rfl (by decide) ?_
    refine g_iconst (M := mX10_gainOf) (pc := 128) (v := 1) 129 dX10_gainOf_128 rfl ic1 ?_
    refine g_iadd (M := mX10_gainOf) (pc := 129) 130 dX10_gainOf_129 rfl ?_
    exact g_iret (M := mX10_gainOf) (pc := 130) dX10_gainOf_130 rfl rfl (fun z => z)
  refine g_tsc (M := mX10_gainOf) (pc := 62) (v := 5) 131 dX10_gainOf_62 (by decide) (by decide) rfl (by decide) (fun _ => ?_) (fun z5 => ?_)
  · refine g_aload_n (M := mX10_gainOf) (pc := 131) 132 dX10_gainOf_131 rfl rfl rfl ?_
    refine g_iload_n (M := mX10_gainOf) (pc := 132) 133 dX10_gainOf_132 rfl rfl rfl ?_
    refine g_iconst (M := mX10_gainOf) (pc := 133) (v := 3) 134 dX10_gainOf_133 rfl ic3 ?_
    refine g_cV_I (M := mX10_gainOf) (pc := 134) (M' := mX10_wants) (rest := []) 137 dX10_gainOf_134 rfl kX10_103 okX10_wants (CX10_wants a2 3 h L) oO32 rfl rfl rfl rfl (fun r6 => ?_)
    refine g_iconst (M := mX10_gainOf) (pc := 137) (v := 1) 138 dX10_gainOf_137 rfl ic1 ?_
    refine g_icmp_ne (M := mX10_gainOf) (pc := 138) 148 141 dX10_gainOf_138 (by decide) rfl (fun _ => ?_) (fun _ => ?_)
    · refine g_iload (M := mX10_gainOf) (pc := 148) 150 dX10_gainOf_148 rfl rfl ?_
      exact g_iret (M := mX10_gainOf) (pc := 150) dX10_gainOf_150 rfl rfl (fun z => z)
    · refine g_iconst (M := mX10_gainOf) (pc := 141) (v := 3) 142 dX10_gainOf_141 rfl ic3 ?_
      refine g_iload (M := mX10_gainOf) (pc := 142) 144 dX10_gainOf_142 rfl rfl ?_
      refine g_imul (M := mX10_gainOf) (pc := 144) 145 dX10_gainOf_144 rfl ?_
      refine g_goto (M := mX10_gainOf) (pc := 145) 150 dX10_gainOf_145 (by decide) ?_
      exact g_iret (M := mX10_gainOf) (pc := 150) dX10_gainOf_150 rfl rfl (fun z => z)
  refine g_tsOut (M := mX10_gainOf) (pc := 62) 151 dX10_gainOf_62 (by have y1 := lv_neT z1 (a := 1) rfl; have y2 := lv_neT z2 (a := 2) rfl; have y3 := lv_neT z3 (a := 3) rfl; have y4 := lv_neT z4 (a := 4) rfl; have y5 := lv_neT z5 (a := 5) rfl; omega) (by decide) ?_
  refine g_iload (M := mX10_gainOf) (pc := 151) 153 dX10_gainOf_151 rfl rfl ?_
  exact g_iret (M := mX10_gainOf) (pc := 153) dX10_gainOf_153 rfl rfl (fun z => z)
set_option maxRecDepth 100000 in
set_option maxHeartbeats 4000000 in
theorem JX10_gainOf_39_ok (a1 : Int32) (a2 : Int32) (a3 : Int32) (a4 : Int32) (s0 : Int32) (T : ZT) (h : HI) (L : HL) : VX mX10_gainOf 2 T (fun r => Zl (lfI h L) r = T) 39 [some (aR 8 32), some (aI a1), some (aI a2), some (aI a3), some (aI a4), none, none] [aI s0] h L (JX10_gainOf_39 a1 a2 a3 a4 s0 h) := by
  unfold JX10_gainOf_39
  refine g_istore (M := mX10_gainOf) (pc := 39) (ls' := [some (aR 8 32), some (aI a1), some (aI a2), some (aI a3), some (aI a4), some (aI s0), none]) 41 dX10_gainOf_39 rfl rfl rfl ?_
  refine g_iload_n (M := mX10_gainOf) (pc := 41) 42 dX10_gainOf_41 rfl rfl rfl ?_
  refine g_if_eq (M := mX10_gainOf) (pc := 42) 50 45 dX10_gainOf_42 (by decide) rfl (fun _ => ?_) (fun _ => ?_)
  · refine g_iload (M := mX10_gainOf) (pc := 50) 52 dX10_gainOf_50 rfl rfl ?_
    refine g_iconst (M := mX10_gainOf) (pc := 52) (v := 2) 53 dX10_gainOf_52 rfl ic2 ?_
    refine g_idivC (M := mX10_gainOf) (pc := 53) 54 dX10_gainOf_53 rfl (by decide) ?_
    exact g_fgt [true, true, true, false, true, true, false] (JX10_gainOf_54_ok a1 a2 a4 s0 (s0 / 2) T h L)
  · refine g_iload (M := mX10_gainOf) (pc := 45) 47 dX10_gainOf_45 rfl rfl ?_
    refine g_goto (M := mX10_gainOf) (pc := 47) 54 dX10_gainOf_47 (by decide) ?_
    exact g_fgt [true, true, true, false, true, true, false] (JX10_gainOf_54_ok a1 a2 a4 s0 s0 T h L)
set_option maxRecDepth 100000 in
set_option maxHeartbeats 4000000 in
theorem CX10_gainOf (a1 : Int32) (a2 : Int32) (a3 : Int32) (h : HI) (L : HL) : CG mX10_gainOf 2 [aR 8 32, aI a1, aI a2, aI a3] h L (lfI h L) (FX10_gainOf a1 a2 a3 h) := by
  unfold FX10_gainOf
  refine cg_of [some (aR 8 32), some (aI a1), some (aI a2), some (aI a3), none, none, none] rfl (by decide) rfl rfl (fun T => ?_)
  refine g_aload_n (M := mX10_gainOf) (pc := 0) 1 dX10_gainOf_0 rfl rfl rfl ?_
  refine g_iload_n (M := mX10_gainOf) (pc := 1) 2 dX10_gainOf_1 rfl rfl rfl ?_
  refine g_iconst (M := mX10_gainOf) (pc := 2) (v := 1) 3 dX10_gainOf_2 rfl ic1 ?_
  refine g_cV_I (M := mX10_gainOf) (pc := 3) (M' := mX10_wants) (rest := []) 6 dX10_gainOf_3 rfl kX10_103 okX10_wants (CX10_wants a2 1 h L) oO32 rfl rfl rfl rfl (fun r1 => ?_)
  refine g_istore (M := mX10_gainOf) (pc := 6) (ls' := [some (aR 8 32), some (aI a1), some (aI a2), some (aI a3), some (aI r1), none, none]) 8 dX10_gainOf_6 rfl rfl rfl ?_
  refine g_aload_n (M := mX10_gainOf) (pc := 8) 9 dX10_gainOf_8 rfl rfl rfl ?_
  refine g_iload_n (M := mX10_gainOf) (pc := 9) 10 dX10_gainOf_9 rfl rfl rfl ?_
  refine g_iconst (M := mX10_gainOf) (pc := 10) (v := 1) 11 dX10_gainOf_10 rfl ic1 ?_
  refine g_cV_I (M := mX10_gainOf) (pc := 11) (M' := mX10_its) (rest := []) 14 dX10_gainOf_11 rfl kX10_76 okX10_its (CX10_its a1 1 h L) oO32 rfl rfl rfl rfl (fun r2 => ?_)
  refine g_aload_n (M := mX10_gainOf) (pc := 14) 15 dX10_gainOf_14 rfl rfl rfl ?_
  refine g_iload_n (M := mX10_gainOf) (pc := 15) 16 dX10_gainOf_15 rfl rfl rfl ?_
  refine g_iconst (M := mX10_gainOf) (pc := 16) (v := 0) 17 dX10_gainOf_16 rfl ic0 ?_
  refine g_cV_I (M := mX10_gainOf) (pc := 17) (M' := mX10_wants) (rest := [aI r2]) 20 dX10_gainOf_17 rfl kX10_103 okX10_wants (CX10_wants a2 0 h L) oO32 rfl rfl rfl rfl (fun r3 => ?_)
  refine g_icmp_ne (M := mX10_gainOf) (pc := 20) 38 23 dX10_gainOf_20 (by decide) rfl (fun _ => ?_) (fun _ => ?_)
  · refine g_iconst (M := mX10_gainOf) (pc := 38) (v := 0) 39 dX10_gainOf_38 rfl ic0 ?_
    exact g_fgt [true, true, true, true, true, false, false] (JX10_gainOf_39_ok a1 a2 a3 r1 0 T h L)
  · refine g_iload (M := mX10_gainOf) (pc := 23) 25 dX10_gainOf_23 rfl rfl ?_
    refine g_aload_n (M := mX10_gainOf) (pc := 25) 26 dX10_gainOf_25 rfl rfl rfl ?_
    refine g_iload_n (M := mX10_gainOf) (pc := 26) 27 dX10_gainOf_26 rfl rfl rfl ?_
    refine g_iconst (M := mX10_gainOf) (pc := 27) (v := 3) 28 dX10_gainOf_27 rfl ic3 ?_
    refine g_cV_I (M := mX10_gainOf) (pc := 28) (M' := mX10_its) (rest := [aI r1]) 31 dX10_gainOf_28 rfl kX10_76 okX10_its (CX10_its a1 3 h L) oO32 rfl rfl rfl rfl (fun r7 => ?_)
    refine g_imul (M := mX10_gainOf) (pc := 31) 32 dX10_gainOf_31 rfl ?_
    refine g_bipush (M := mX10_gainOf) (pc := 32) (v := 10) 34 dX10_gainOf_32 rfl bp10 ?_
    refine g_idivC (M := mX10_gainOf) (pc := 34) 35 dX10_gainOf_34 rfl (by decide) ?_
    refine g_goto (M := mX10_gainOf) (pc := 35) 39 dX10_gainOf_35 (by decide) ?_
    exact g_fgt [true, true, true, true, true, false, false] (JX10_gainOf_39_ok a1 a2 a3 r1 ((r1 * r7) / 10) T h L)
def FX10_gain (a1 : Int32) (a2 : Int32) (a3 : Int32) (h : HI) : Option (Int32 × HI) :=
  Option.bind (FX10_isPhrase a1 h) fun r1 =>
  if r1 = 0 then
    Option.bind (FX10_finds (-1000000001) h) fun (r2, h3) =>
    some (r2, h3)
  else
    Option.bind (FX10_isWant a2 h) fun r4 =>
    if r4 = 0 then
      Option.bind (FX10_finds (-1000000001) h) fun (r5, h6) =>
      some (r5, h6)
    else
      Option.bind (FX10_isSet a3 h) fun r7 =>
      if r7 = 0 then
        Option.bind (FX10_finds (-1000000001) h) fun (r10, h11) =>
        some (r10, h11)
      else
        Option.bind (FX10_hasRope a3 h) fun r8 =>
        Option.bind (FX10_gainOf a1 a2 r8 h) fun r9 =>
        some (r9, h)
set_option maxRecDepth 100000 in
set_option maxHeartbeats 4000000 in
theorem CX10_gain (a1 : Int32) (a2 : Int32) (a3 : Int32) (h : HI) (L : HL) : CG mX10_gain 3 [aR 8 32, aI a1, aI a2, aI a3] h L (lfIH L) (FX10_gain a1 a2 a3 h) := by
  unfold FX10_gain
  refine cg_of [some (aR 8 32), some (aI a1), some (aI a2), some (aI a3)] rfl (by decide) rfl rfl (fun T => ?_)
  refine g_aload_n (M := mX10_gain) (pc := 0) 1 dX10_gain_0 rfl rfl rfl ?_
  refine g_iload_n (M := mX10_gain) (pc := 1) 2 dX10_gain_1 rfl rfl rfl ?_
  refine g_cV_I (M := mX10_gain) (pc := 2) (M' := mX10_isPhrase) (rest := []) 5 dX10_gain_2 rfl kX10_79 okX10_isPhrase (CX10_isPhrase a1 h L) oO32 rfl rfl rfl rfl (fun r1 => ?_)
  refine g_if_eq (M := mX10_gain) (pc := 5) 24 8 dX10_gain_5 (by decide) rfl (fun _ => ?_) (fun _ => ?_)
  · refine g_aload_n (M := mX10_gain) (pc := 24) 25 dX10_gain_24 rfl rfl rfl ?_
    refine g_ldc (M := mX10_gain) (pc := 25) 27 dX10_gain_25 rfl cX10_44 ?_
    refine g_cV_IH (M := mX10_gain) (pc := 27) (M' := mX10_finds) (rest := []) 30 dX10_gain_27 rfl kX10_67 okX10_finds (CX10_finds (-1000000001) h L) oO32 rfl rfl rfl rfl (fun r2 h3 => ?_)
    exact g_iret (M := mX10_gain) (pc := 30) dX10_gain_30 rfl rfl (fun z => z)
  · refine g_aload_n (M := mX10_gain) (pc := 8) 9 dX10_gain_8 rfl rfl rfl ?_
    refine g_iload_n (M := mX10_gain) (pc := 9) 10 dX10_gain_9 rfl rfl rfl ?_
    refine g_cV_I (M := mX10_gain) (pc := 10) (M' := mX10_isWant) (rest := []) 13 dX10_gain_10 rfl kX10_100 okX10_isWant (CX10_isWant a2 h L) oO32 rfl rfl rfl rfl (fun r4 => ?_)
    refine g_if_eq (M := mX10_gain) (pc := 13) 24 16 dX10_gain_13 (by decide) rfl (fun _ => ?_) (fun _ => ?_)
    · refine g_aload_n (M := mX10_gain) (pc := 24) 25 dX10_gain_24 rfl rfl rfl ?_
      refine g_ldc (M := mX10_gain) (pc := 25) 27 dX10_gain_25 rfl cX10_44 ?_
      refine g_cV_IH (M := mX10_gain) (pc := 27) (M' := mX10_finds) (rest := []) 30 dX10_gain_27 rfl kX10_67 okX10_finds (CX10_finds (-1000000001) h L) oO32 rfl rfl rfl rfl (fun r5 h6 => ?_)
      exact g_iret (M := mX10_gain) (pc := 30) dX10_gain_30 rfl rfl (fun z => z)
    · refine g_aload_n (M := mX10_gain) (pc := 16) 17 dX10_gain_16 rfl rfl rfl ?_
      refine g_iload_n (M := mX10_gain) (pc := 17) 18 dX10_gain_17 rfl rfl rfl ?_
      refine g_cV_I (M := mX10_gain) (pc := 18) (M' := mX10_isSet) (rest := []) 21 dX10_gain_18 rfl kX10_109 okX10_isSet (CX10_isSet a3 h L) oO32 rfl rfl rfl rfl (fun r7 => ?_)
      refine g_if_ne (M := mX10_gain) (pc := 21) 31 24 dX10_gain_21 (by decide) rfl (fun _ => ?_) (fun _ => ?_)
      · refine g_aload_n (M := mX10_gain) (pc := 31) 32 dX10_gain_31 rfl rfl rfl ?_
        refine g_iload_n (M := mX10_gain) (pc := 32) 33 dX10_gain_32 rfl rfl rfl ?_
        refine g_iload_n (M := mX10_gain) (pc := 33) 34 dX10_gain_33 rfl rfl rfl ?_
        refine g_aload_n (M := mX10_gain) (pc := 34) 35 dX10_gain_34 rfl rfl rfl ?_
        refine g_iload_n (M := mX10_gain) (pc := 35) 36 dX10_gain_35 rfl rfl rfl ?_
        refine g_cV_I (M := mX10_gain) (pc := 36) (M' := mX10_hasRope) (rest := [aI a2, aI a1, aR 8 32]) 39 dX10_gain_36 rfl kX10_112 okX10_hasRope (CX10_hasRope a3 h L) oO32 rfl rfl rfl rfl (fun r8 => ?_)
        refine g_cV_I (M := mX10_gain) (pc := 39) (M' := mX10_gainOf) (rest := []) 42 dX10_gain_39 rfl kX10_115 okX10_gainOf (CX10_gainOf a1 a2 r8 h L) oO32 rfl rfl rfl rfl (fun r9 => ?_)
        exact g_iret (M := mX10_gain) (pc := 42) dX10_gain_42 rfl rfl (fun z => z)
      · refine g_aload_n (M := mX10_gain) (pc := 24) 25 dX10_gain_24 rfl rfl rfl ?_
        refine g_ldc (M := mX10_gain) (pc := 25) 27 dX10_gain_25 rfl cX10_44 ?_
        refine g_cV_IH (M := mX10_gain) (pc := 27) (M' := mX10_finds) (rest := []) 30 dX10_gain_27 rfl kX10_67 okX10_finds (CX10_finds (-1000000001) h L) oO32 rfl rfl rfl rfl (fun r10 h11 => ?_)
        exact g_iret (M := mX10_gain) (pc := 30) dX10_gain_30 rfl rfl (fun z => z)
def JX10_metOf_50 (a1 : Int32) (a2 : Int32) (a3 : Int32) (a4 : Int32) (a5 : Int32) (a6 : Int32) (a7 : Int32) (s0 : Int32) (h : HI) : Option ((Int32 × Int32) ⊕ (Int32)) :=
  if s0 ≤ a6 then
    some (Sum.inl (a6, (a7 + 1)))
  else
    some (Sum.inl (s0, (a7 + 1)))
def SX10_metOf_18 (a1 : Int32) (a2 : Int32) (a3 : Int32) (a4 : Int32) (a5 : Int32) (h : HI) : (Int32 × Int32) → Option ((Int32 × Int32) ⊕ (Int32))
  | (a6, a7) =>
    if (h 8 33 0) ≤ a7 then
      some (Sum.inr a6)
    else
      Option.bind (FX10_has a2 a7) fun r3 =>
      if r3 = 0 then
        JX10_metOf_50 a1 a2 a3 a4 a5 a6 a7 0 h
      else
        Option.bind (FX10_gainOf a7 a1 a3 h) fun r4 =>
        JX10_metOf_50 a1 a2 a3 a4 a5 a6 a7 r4 h
def JX10_metOf_89 (a5 : Int32) (s0 : Int32) (s1 : Int32) (h : HI) : Option (Int32) :=
  nm (s0 + s1) fun t6 =>
  if a5 ≤ t6 then
    some a5
  else
    some t6
def FX10_metOf (a1 : Int32) (a2 : Int32) (a3 : Int32) (a4 : Int32) (h : HI) : Option (Int32) :=
  Option.bind (FX10_wants a1 1 h) fun r1 =>
  nm (r1 / 10) fun t2 =>
  Option.bind (loopN (SX10_metOf_18 a1 a2 a3 a4 r1 h) FU (t2, 0)) fun e5 =>
    if a4 = 0 then
      JX10_metOf_89 r1 e5 0 h
    else
      JX10_metOf_89 r1 e5 (r1 / 5) h
set_option maxRecDepth 100000 in
set_option maxHeartbeats 4000000 in
theorem JX10_metOf_50_ok (a1 : Int32) (a2 : Int32) (a3 : Int32) (a4 : Int32) (a5 : Int32) (a6 : Int32) (a7 : Int32) (s0 : Int32) (T : ZT) (h : HI) (L : HL) : VX mX10_metOf 3 T (gS (fun s : Int32 × Int32 => V mX10_metOf 3 T 18 [some (aR 8 32), some (aI a1), some (aI a2), some (aI a3), some (aI a4), some (aI a5), some (aI (s.1)), some (aI (s.2)), none] [] h L) (fun s : Int32 => V mX10_metOf 3 T 74 [none, none, none, none, some (aI a4), some (aI a5), some (aI s), none, none] [] h L)) 50 [some (aR 8 32), some (aI a1), some (aI a2), some (aI a3), some (aI a4), some (aI a5), some (aI a6), some (aI a7), none] [aI s0] h L (JX10_metOf_50 a1 a2 a3 a4 a5 a6 a7 s0 h) := by
  unfold JX10_metOf_50
  refine g_istore (M := mX10_metOf) (pc := 50) (ls' := [some (aR 8 32), some (aI a1), some (aI a2), some (aI a3), some (aI a4), some (aI a5), some (aI a6), some (aI a7), some (aI s0)]) 52 dX10_metOf_50 rfl rfl rfl ?_
  refine g_iload (M := mX10_metOf) (pc := 52) 54 dX10_metOf_52 rfl rfl ?_
  refine g_iload (M := mX10_metOf) (pc := 54) 56 dX10_metOf_54 rfl rfl ?_
  refine g_icmp_le (M := mX10_metOf) (pc := 56) 64 59 dX10_metOf_56 (by decide) rfl (fun _ => ?_) (fun _ => ?_)
  · refine g_iload (M := mX10_metOf) (pc := 64) 66 dX10_metOf_64 rfl rfl ?_
    refine g_istore (M := mX10_metOf) (pc := 66) (ls' := [some (aR 8 32), some (aI a1), some (aI a2), some (aI a3), some (aI a4), some (aI a5), some (aI a6), some (aI a7), some (aI s0)]) 68 dX10_metOf_66 rfl rfl rfl ?_
    refine g_iinc (M := mX10_metOf) (pc := 68) (c := 1) (ls' := [some (aR 8 32), some (aI a1), some (aI a2), some (aI a3), some (aI a4), some (aI a5), some (aI a6), some (aI (a7 + 1)), some (aI s0)]) 71 dX10_metOf_68 rfl ic1 rfl rfl rfl ?_
    refine g_goto (M := mX10_metOf) (pc := 71) 18 dX10_metOf_71 (by decide) ?_
    exact g_jmp (fun z => v_fgt [true, true, true, true, true, true, true, true, false] z)
  · refine g_iload (M := mX10_metOf) (pc := 59) 61 dX10_metOf_59 rfl rfl ?_
    refine g_goto (M := mX10_metOf) (pc := 61) 66 dX10_metOf_61 (by decide) ?_
    refine g_istore (M := mX10_metOf) (pc := 66) (ls' := [some (aR 8 32), some (aI a1), some (aI a2), some (aI a3), some (aI a4), some (aI a5), some (aI s0), some (aI a7), some (aI s0)]) 68 dX10_metOf_66 rfl rfl rfl ?_
    refine g_iinc (M := mX10_metOf) (pc := 68) (c := 1) (ls' := [some (aR 8 32), some (aI a1), some (aI a2), some (aI a3), some (aI a4), some (aI a5), some (aI s0), some (aI (a7 + 1)), some (aI s0)]) 71 dX10_metOf_68 rfl ic1 rfl rfl rfl ?_
    refine g_goto (M := mX10_metOf) (pc := 71) 18 dX10_metOf_71 (by decide) ?_
    exact g_jmp (fun z => v_fgt [true, true, true, true, true, true, true, true, false] z)
set_option maxRecDepth 100000 in
set_option maxHeartbeats 4000000 in
theorem SX10_metOf_18_ok (a1 : Int32) (a2 : Int32) (a3 : Int32) (a4 : Int32) (a5 : Int32) (h : HI) (L : HL) (T : ZT) (a6 : Int32) (a7 : Int32) : VX mX10_metOf 3 T (gS (fun s : Int32 × Int32 => V mX10_metOf 3 T 18 [some (aR 8 32), some (aI a1), some (aI a2), some (aI a3), some (aI a4), some (aI a5), some (aI (s.1)), some (aI (s.2)), none] [] h L) (fun s : Int32 => V mX10_metOf 3 T 74 [none, none, none, none, some (aI a4), some (aI a5), some (aI s), none, none] [] h L)) 18 [some (aR 8 32), some (aI a1), some (aI a2), some (aI a3), some (aI a4), some (aI a5), some (aI a6), some (aI a7), none] [] h L (SX10_metOf_18 a1 a2 a3 a4 a5 h (a6, a7)) := by
  unfold SX10_metOf_18
  refine g_iload (M := mX10_metOf) (pc := 18) 20 dX10_metOf_18 rfl rfl ?_
  refine g_aload_n (M := mX10_metOf) (pc := 20) 21 dX10_metOf_20 rfl rfl rfl ?_
  refine g_getR (M := mX10_metOf) (pc := 21) 24 dX10_metOf_21 rfl fX10_7 oR32_0 ?_
  refine g_iconst (M := mX10_metOf) (pc := 24) (v := 0) 25 dX10_metOf_24 rfl ic0 ?_
  refine g_ialdC (M := mX10_metOf) (pc := 25) (j := 0) 26 dX10_metOf_25 rfl oA33 rfl rfl ?_
  refine g_icmp_ge (M := mX10_metOf) (pc := 26) 74 29 dX10_metOf_26 (by decide) rfl (fun _ => ?_) (fun _ => ?_)
  · exact g_jmp (fun z => v_fgt [false, false, false, false, true, true, true, false, false] z)
  · refine g_iload_n (M := mX10_metOf) (pc := 29) 30 dX10_metOf_29 rfl rfl rfl ?_
    refine g_iload (M := mX10_metOf) (pc := 30) 32 dX10_metOf_30 rfl rfl ?_
    refine g_cS_I (M := mX10_metOf) (pc := 32) (M' := mX10_has) (rest := []) 35 dX10_metOf_32 rfl kX10_106 okX10_has (CX10_has a2 a7 h L) rfl rfl rfl rfl (fun r3 => ?_)
    refine g_if_eq (M := mX10_metOf) (pc := 35) 49 38 dX10_metOf_35 (by decide) rfl (fun _ => ?_) (fun _ => ?_)
    · refine g_iconst (M := mX10_metOf) (pc := 49) (v := 0) 50 dX10_metOf_49 rfl ic0 ?_
      exact g_fgt [true, true, true, true, true, true, true, true, false] (JX10_metOf_50_ok a1 a2 a3 a4 a5 a6 a7 0 T h L)
    · refine g_aload_n (M := mX10_metOf) (pc := 38) 39 dX10_metOf_38 rfl rfl rfl ?_
      refine g_iload (M := mX10_metOf) (pc := 39) 41 dX10_metOf_39 rfl rfl ?_
      refine g_iload_n (M := mX10_metOf) (pc := 41) 42 dX10_metOf_41 rfl rfl rfl ?_
      refine g_iload_n (M := mX10_metOf) (pc := 42) 43 dX10_metOf_42 rfl rfl rfl ?_
      refine g_cV_I (M := mX10_metOf) (pc := 43) (M' := mX10_gainOf) (rest := []) 46 dX10_metOf_43 rfl kX10_115 okX10_gainOf (CX10_gainOf a7 a1 a3 h L) oO32 rfl rfl rfl rfl (fun r4 => ?_)
      refine g_goto (M := mX10_metOf) (pc := 46) 50 dX10_metOf_46 (by decide) ?_
      exact g_fgt [true, true, true, true, true, true, true, true, false] (JX10_metOf_50_ok a1 a2 a3 a4 a5 a6 a7 r4 T h L)
set_option maxRecDepth 100000 in
set_option maxHeartbeats 4000000 in
theorem JX10_metOf_89_ok (a5 : Int32) (s0 : Int32) (s1 : Int32) (T : ZT) (h : HI) (L : HL) : VX mX10_metOf 3 T (fun r => Zl (lfI h L) r = T) 89 [none, none, none, none, none, some (aI a5), none, none, none] [aI s1, aI s0] h L (JX10_metOf_89 a5 s0 s1 h) := by
  unfold JX10_metOf_89
  refine g_iadd (M := mX10_metOf) (pc := 89) 90 dX10_metOf_89 rfl ?_
  refine g_nmI (fun t6 => ?_)
  refine g_istore (M := mX10_metOf) (pc := 90) (ls' := [none, none, none, none, none, some (aI a5), some (aI t6), none, none]) 92 dX10_metOf_90 rfl rfl rfl ?_
  refine g_iload (M := mX10_metOf) (pc := 92) 94 dX10_metOf_92 rfl rfl ?_
  refine g_iload (M := mX10_metOf) (pc := 94) 96 dX10_metOf_94 rfl rfl ?_
  refine g_icmp_ge (M := mX10_metOf) (pc := 96) 104 99 dX10_metOf_96 (by decide) rfl (fun _ => ?_) (fun _ => ?_)
  · refine g_iload (M := mX10_metOf) (pc := 104) 106 dX10_metOf_104 rfl rfl ?_
    exact g_iret (M := mX10_metOf) (pc := 106) dX10_metOf_106 rfl rfl (fun z => z)
  · refine g_iload (M := mX10_metOf) (pc := 99) 101 dX10_metOf_99 rfl rfl ?_
    refine g_goto (M := mX10_metOf) (pc := 101) 106 dX10_metOf_101 (by decide) ?_
    exact g_iret (M := mX10_metOf) (pc := 106) dX10_metOf_106 rfl rfl (fun z => z)
set_option maxRecDepth 100000 in
set_option maxHeartbeats 4000000 in
theorem CX10_metOf (a1 : Int32) (a2 : Int32) (a3 : Int32) (a4 : Int32) (h : HI) (L : HL) : CG mX10_metOf 3 [aR 8 32, aI a1, aI a2, aI a3, aI a4] h L (lfI h L) (FX10_metOf a1 a2 a3 a4 h) := by
  unfold FX10_metOf
  refine cg_of [some (aR 8 32), some (aI a1), some (aI a2), some (aI a3), some (aI a4), none, none, none, none] rfl (by decide) rfl rfl (fun T => ?_)
  refine g_aload_n (M := mX10_metOf) (pc := 0) 1 dX10_metOf_0 rfl rfl rfl ?_
  refine g_iload_n (M := mX10_metOf) (pc := 1) 2 dX10_metOf_1 rfl rfl rfl ?_
  refine g_iconst (M := mX10_metOf) (pc := 2) (v := 1) 3 dX10_metOf_2 rfl ic1 ?_
  refine g_cV_I (M := mX10_metOf) (pc := 3) (M' := mX10_wants) (rest := []) 6 dX10_metOf_3 rfl kX10_103 okX10_wants (CX10_wants a1 1 h L) oO32 rfl rfl rfl rfl (fun r1 => ?_)
  refine g_istore (M := mX10_metOf) (pc := 6) (ls' := [some (aR 8 32), some (aI a1), some (aI a2), some (aI a3), some (aI a4), some (aI r1), none, none, none]) 8 dX10_metOf_6 rfl rfl rfl ?_
  refine g_iload (M := mX10_metOf) (pc := 8) 10 dX10_metOf_8 rfl rfl ?_
  refine g_bipush (M := mX10_metOf) (pc := 10) (v := 10) 12 dX10_metOf_10 rfl bp10 ?_
  refine g_idivC (M := mX10_metOf) (pc := 12) 13 dX10_metOf_12 rfl (by decide) ?_
  refine g_nmI (fun t2 => ?_)
  refine g_istore (M := mX10_metOf) (pc := 13) (ls' := [some (aR 8 32), some (aI a1), some (aI a2), some (aI a3), some (aI a4), some (aI r1), some (aI t2), none, none]) 15 dX10_metOf_13 rfl rfl rfl ?_
  refine g_iconst (M := mX10_metOf) (pc := 15) (v := 0) 16 dX10_metOf_15 rfl ic0 ?_
  refine g_istore (M := mX10_metOf) (pc := 16) (ls' := [some (aR 8 32), some (aI a1), some (aI a2), some (aI a3), some (aI a4), some (aI r1), some (aI t2), some (aI 0), none]) 18 dX10_metOf_16 rfl rfl rfl ?_
  refine g_loop (fun s => SX10_metOf_18_ok a1 a2 a3 a4 r1 h L T s.1 s.2) ?_ (fun z => v_fgt [true, true, true, true, true, true, true, true, false] z)
  intro e5
  show VX mX10_metOf 3 T _ 74 [none, none, none, none, some (aI a4), some (aI r1), some (aI e5), none, none] [] h L _
  refine g_iload (M := mX10_metOf) (pc := 74) 76 dX10_metOf_74 rfl rfl ?_
  refine g_iload (M := mX10_metOf) (pc := 76) 78 dX10_metOf_76 rfl rfl ?_
  refine g_if_eq (M := mX10_metOf) (pc := 78) 88 81 dX10_metOf_78 (by decide) rfl (fun _ => ?_) (fun _ => ?_)
  · refine g_iconst (M := mX10_metOf) (pc := 88) (v := 0) 89 dX10_metOf_88 rfl ic0 ?_
    exact g_fgt [false, false, false, false, false, true, false, false, false] (JX10_metOf_89_ok r1 e5 0 T h L)
  · refine g_iload (M := mX10_metOf) (pc := 81) 83 dX10_metOf_81 rfl rfl ?_
    refine g_iconst (M := mX10_metOf) (pc := 83) (v := 5) 84 dX10_metOf_83 rfl ic5 ?_
    refine g_idivC (M := mX10_metOf) (pc := 84) 85 dX10_metOf_84 rfl (by decide) ?_
    refine g_goto (M := mX10_metOf) (pc := 85) 89 dX10_metOf_85 (by decide) ?_
    exact g_fgt [false, false, false, false, false, true, false, false, false] (JX10_metOf_89_ok r1 e5 (r1 / 5) T h L)
