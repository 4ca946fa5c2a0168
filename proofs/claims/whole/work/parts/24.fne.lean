-- functions of the methods and their contracts, by program (wip/whole/dec.py): X9_ith X9_learn X9_evening X9_line X9_known X9_mayGo X9_days X9_now X9_sum X9_on X9_forgot X9_useless X9_tonight X9_plan X9_feed X9_wipe X9_book X9_sheet X9_write X9_copy X9_lays X9_read X9_image X9_undo X9_tear X9_count X9_status X10_in X10_finds X10_has X10_ones
def FX9_ith (a1 : Int32) (h : HI) : Option (Int32 × HI) :=
  Option.bind (FX9_within a1 0 ((h 0 14 1) - 1)) fun r1 =>
  if r1 = 0 then
    Option.bind (FX9_tell (-1000000001) h) fun (r2, h3) =>
    some (r2, h3)
  else
    gd (ixb a1 12) <|
    some ((h 0 15 (nC a1)), h)
set_option maxRecDepth 100000 in
set_option maxHeartbeats 4000000 in
theorem CX9_ith (a1 : Int32) (h : HI) (L : HL) : CG mX9_ith 1 [aR 3 16, aI a1] h L (lfIH L) (FX9_ith a1 h) := by
  unfold FX9_ith
  refine cg_of [some (aR 3 16), some (aI a1)] rfl (by decide) rfl rfl (fun T => ?_)
  refine g_iload_n (M := mX9_ith) (pc := 0) 1 dX9_ith_0 rfl rfl rfl ?_
  refine g_iconst (M := mX9_ith) (pc := 1) (v := 0) 2 dX9_ith_1 rfl ic0 ?_
  refine g_aload_n (M := mX9_ith) (pc := 2) 3 dX9_ith_2 rfl rfl rfl ?_
  refine g_getR (M := mX9_ith) (pc := 3) 6 dX9_ith_3 rfl fX9_16 oR16_1 ?_
  refine g_getR (M := mX9_ith) (pc := 6) 9 dX9_ith_6 rfl fX9_173 (oR0_2 (by decide)) ?_
  refine g_getI (M := mX9_ith) (pc := 9) 12 dX9_ith_9 rfl fX9_186 (oF14_1 (by decide)) ?_
  refine g_iconst (M := mX9_ith) (pc := 12) (v := 1) 13 dX9_ith_12 rfl ic1 ?_
  refine g_isub (M := mX9_ith) (pc := 13) 14 dX9_ith_13 rfl ?_
  refine g_cS_I (M := mX9_ith) (pc := 14) (M' := mX9_within) (rest := []) 17 dX9_ith_14 rfl kX9_55 okX9_within (CX9_within a1 0 ((h 0 14 1) - 1) h L) rfl rfl rfl rfl (fun r1 => ?_)
  refine g_if_ne (M := mX9_ith) (pc := 17) 27 20 dX9_ith_17 (by decide) rfl (fun _ => ?_) (fun _ => ?_)
  · refine g_aload_n (M := mX9_ith) (pc := 27) 28 dX9_ith_27 rfl rfl rfl ?_
    refine g_getR (M := mX9_ith) (pc := 28) 31 dX9_ith_28 rfl fX9_16 oR16_1 ?_
    refine g_getR (M := mX9_ith) (pc := 31) 34 dX9_ith_31 rfl fX9_173 (oR0_2 (by decide)) ?_
    refine g_getR (M := mX9_ith) (pc := 34) 37 dX9_ith_34 rfl fX9_190 (oR14_0 (by decide)) ?_
    refine g_iload_n (M := mX9_ith) (pc := 37) 38 dX9_ith_37 rfl rfl rfl ?_
    refine g_iald (M := mX9_ith) (pc := 38) 39 dX9_ith_38 rfl (oA15 (by decide)) ?_
    exact g_iret (M := mX9_ith) (pc := 39) dX9_ith_39 rfl rfl (fun z => z)
  · refine g_aload_n (M := mX9_ith) (pc := 20) 21 dX9_ith_20 rfl rfl rfl ?_
    refine g_ldc (M := mX9_ith) (pc := 21) 23 dX9_ith_21 rfl cX9_59 ?_
    refine g_cV_IH (M := mX9_ith) (pc := 23) (M' := mX9_tell) (rest := []) 26 dX9_ith_23 rfl kX9_60 okX9_tell (CX9_tell (-1000000001) h L) oO16 rfl rfl rfl rfl (fun r2 h3 => ?_)
    exact g_iret (M := mX9_ith) (pc := 26) dX9_ith_26 rfl rfl (fun z => z)
def FX9_learn (a1 : Int32) (a2 : Int32) (h : HI) : Option (Int32 × HI) :=
  Option.bind (FX9_isPhrase a1 h) fun r1 =>
  if r1 = 0 then
    Option.bind (FX9_tell (-1000000001) h) fun (r2, h3) =>
    some (r2, h3)
  else
    Option.bind (FX9_within a2 1 600) fun r4 =>
    if r4 = 0 then
      Option.bind (FX9_tell (-1000000001) h) fun (r6, h7) =>
      some (r6, h7)
    else
      Option.bind (FX5_learnFor 0 a1 a2 h) fun h5 =>
      gd (ixb a1 12) <|
      some ((h5 0 6 (nC a1)), h5)
set_option maxRecDepth 100000 in
set_option maxHeartbeats 4000000 in
theorem CX9_learn (a1 : Int32) (a2 : Int32) (h : HI) (L : HL) : CG mX9_learn 2 [aR 3 16, aI a1, aI a2] h L (lfIH L) (FX9_learn a1 a2 h) := by
  unfold FX9_learn
  refine cg_of [some (aR 3 16), some (aI a1), some (aI a2)] rfl (by decide) rfl rfl (fun T => ?_)
  refine g_aload_n (M := mX9_learn) (pc := 0) 1 dX9_learn_0 rfl rfl rfl ?_
  refine g_iload_n (M := mX9_learn) (pc := 1) 2 dX9_learn_1 rfl rfl rfl ?_
  refine g_cV_I (M := mX9_learn) (pc := 2) (M' := mX9_isPhrase) (rest := []) 5 dX9_learn_2 rfl kX9_79 okX9_isPhrase (CX9_isPhrase a1 h L) oO16 rfl rfl rfl rfl (fun r1 => ?_)
  refine g_if_eq (M := mX9_learn) (pc := 5) 19 8 dX9_learn_5 (by decide) rfl (fun _ => ?_) (fun _ => ?_)
  · refine g_aload_n (M := mX9_learn) (pc := 19) 20 dX9_learn_19 rfl rfl rfl ?_
    refine g_ldc (M := mX9_learn) (pc := 20) 22 dX9_learn_20 rfl cX9_59 ?_
    refine g_cV_IH (M := mX9_learn) (pc := 22) (M' := mX9_tell) (rest := []) 25 dX9_learn_22 rfl kX9_60 okX9_tell (CX9_tell (-1000000001) h L) oO16 rfl rfl rfl rfl (fun r2 h3 => ?_)
    exact g_iret (M := mX9_learn) (pc := 25) dX9_learn_25 rfl rfl (fun z => z)
  · refine g_iload_n (M := mX9_learn) (pc := 8) 9 dX9_learn_8 rfl rfl rfl ?_
    refine g_iconst (M := mX9_learn) (pc := 9) (v := 1) 10 dX9_learn_9 rfl ic1 ?_
    refine g_sipush (M := mX9_learn) (pc := 10) (v := 600) 13 dX9_learn_10 rfl sp600 ?_
    refine g_cS_I (M := mX9_learn) (pc := 13) (M' := mX9_within) (rest := []) 16 dX9_learn_13 rfl kX9_55 okX9_within (CX9_within a2 1 600 h L) rfl rfl rfl rfl (fun r4 => ?_)
    refine g_if_ne (M := mX9_learn) (pc := 16) 26 19 dX9_learn_16 (by decide) rfl (fun _ => ?_) (fun _ => ?_)
    · refine g_aload_n (M := mX9_learn) (pc := 26) 27 dX9_learn_26 rfl rfl rfl ?_
      refine g_getR (M := mX9_learn) (pc := 27) 30 dX9_learn_27 rfl fX9_16 oR16_1 ?_
      refine g_getR (M := mX9_learn) (pc := 30) 33 dX9_learn_30 rfl fX9_64 (oR0_0 (by decide)) ?_
      refine g_iload_n (M := mX9_learn) (pc := 33) 34 dX9_learn_33 rfl rfl rfl ?_
      refine g_iload_n (M := mX9_learn) (pc := 34) 35 dX9_learn_34 rfl rfl rfl ?_
      refine g_cV_VH (M := mX9_learn) (pc := 35) (M' := mX5_learnFor) (rest := []) 38 dX9_learn_35 rfl kX9_192 okX5_learnFor (CX5_learnFor 0 (by decide) a1 a2 h L) (oO1 (by decide)) rfl rfl rfl rfl (fun h5 => ?_)
      refine g_aload_n (M := mX9_learn) (pc := 38) 39 dX9_learn_38 rfl rfl rfl ?_
      refine g_getR (M := mX9_learn) (pc := 39) 42 dX9_learn_39 rfl fX9_16 oR16_1 ?_
      refine g_getR (M := mX9_learn) (pc := 42) 45 dX9_learn_42 rfl fX9_64 (oR0_0 (by decide)) ?_
      refine g_getR (M := mX9_learn) (pc := 45) 48 dX9_learn_45 rfl fX9_108 (oR1_4 (by decide)) ?_
      refine g_iload_n (M := mX9_learn) (pc := 48) 49 dX9_learn_48 rfl rfl rfl ?_
      refine g_iald (M := mX9_learn) (pc := 49) 50 dX9_learn_49 rfl (oA6 (by decide)) ?_
      exact g_iret (M := mX9_learn) (pc := 50) dX9_learn_50 rfl rfl (fun z => z)
    · refine g_aload_n (M := mX9_learn) (pc := 19) 20 dX9_learn_19 rfl rfl rfl ?_
      refine g_ldc (M := mX9_learn) (pc := 20) 22 dX9_learn_20 rfl cX9_59 ?_
      refine g_cV_IH (M := mX9_learn) (pc := 22) (M' := mX9_tell) (rest := []) 25 dX9_learn_22 rfl kX9_60 okX9_tell (CX9_tell (-1000000001) h L) oO16 rfl rfl rfl rfl (fun r6 h7 => ?_)
      exact g_iret (M := mX9_learn) (pc := 25) dX9_learn_25 rfl rfl (fun z => z)
def FX9_evening (a1 : Int32) (h : HI) : Option (Int32 × HI) :=
  Option.bind (FX9_within a1 0 600) fun r1 =>
  if r1 = 0 then
    Option.bind (FX9_tell (-1000000001) h) fun (r4, h5) =>
    some (r4, h5)
  else
    Option.bind (FX0_spendEvening 0 a1 h) fun (r2, h3) =>
    some (r2, h3)
set_option maxRecDepth 100000 in
set_option maxHeartbeats 4000000 in
theorem CX9_evening (a1 : Int32) (h : HI) (L : HL) : CG mX9_evening 3 [aR 3 16, aI a1] h L (lfIH L) (FX9_evening a1 h) := by
  unfold FX9_evening
  refine cg_of [some (aR 3 16), some (aI a1)] rfl (by decide) rfl rfl (fun T => ?_)
  refine g_iload_n (M := mX9_evening) (pc := 0) 1 dX9_evening_0 rfl rfl rfl ?_
  refine g_iconst (M := mX9_evening) (pc := 1) (v := 0) 2 dX9_evening_1 rfl ic0 ?_
  refine g_sipush (M := mX9_evening) (pc := 2) (v := 600) 5 dX9_evening_2 rfl sp600 ?_
  refine g_cS_I (M := mX9_evening) (pc := 5) (M' := mX9_within) (rest := []) 8 dX9_evening_5 rfl kX9_55 okX9_within (CX9_within a1 0 600 h L) rfl rfl rfl rfl (fun r1 => ?_)
  refine g_if_ne (M := mX9_evening) (pc := 8) 18 11 dX9_evening_8 (by decide) rfl (fun _ => ?_) (fun _ => ?_)
  · refine g_aload_n (M := mX9_evening) (pc := 18) 19 dX9_evening_18 rfl rfl rfl ?_
    refine g_getR (M := mX9_evening) (pc := 19) 22 dX9_evening_19 rfl fX9_16 oR16_1 ?_
    refine g_iload_n (M := mX9_evening) (pc := 22) 23 dX9_evening_22 rfl rfl rfl ?_
    refine g_cV_IH (M := mX9_evening) (pc := 23) (M' := mX0_spendEvening) (rest := []) 26 dX9_evening_23 rfl kX9_196 okX0_spendEvening (CX0_spendEvening 0 (by decide) a1 h L) (oO0 (by decide)) rfl rfl rfl rfl (fun r2 h3 => ?_)
    exact g_iret (M := mX9_evening) (pc := 26) dX9_evening_26 rfl rfl (fun z => z)
  · refine g_aload_n (M := mX9_evening) (pc := 11) 12 dX9_evening_11 rfl rfl rfl ?_
    refine g_ldc (M := mX9_evening) (pc := 12) 14 dX9_evening_12 rfl cX9_59 ?_
    refine g_cV_IH (M := mX9_evening) (pc := 14) (M' := mX9_tell) (rest := []) 17 dX9_evening_14 rfl kX9_60 okX9_tell (CX9_tell (-1000000001) h L) oO16 rfl rfl rfl rfl (fun r4 h5 => ?_)
    exact g_iret (M := mX9_evening) (pc := 17) dX9_evening_17 rfl rfl (fun z => z)
def FX9_line (a1 : Int32) (h : HI) : Option (Int32 × HI) :=
  Option.bind (FX9_within a1 1 100) fun r1 =>
  if r1 = 0 then
    Option.bind (FX9_tell (-1000000001) h) fun (r4, h5) =>
    some (r4, h5)
  else
    nm (h 0 0 3) fun t2 =>
    nm (hP1 h 0 0 3 a1) fun h3 =>
    some (t2, h3)
set_option maxRecDepth 100000 in
set_option maxHeartbeats 4000000 in
theorem CX9_line (a1 : Int32) (h : HI) (L : HL) : CG mX9_line 1 [aR 3 16, aI a1] h L (lfIH L) (FX9_line a1 h) := by
  unfold FX9_line
  refine cg_of [some (aR 3 16), some (aI a1), none] rfl (by decide) rfl rfl (fun T => ?_)
  refine g_iload_n (M := mX9_line) (pc := 0) 1 dX9_line_0 rfl rfl rfl ?_
  refine g_iconst (M := mX9_line) (pc := 1) (v := 1) 2 dX9_line_1 rfl ic1 ?_
  refine g_bipush (M := mX9_line) (pc := 2) (v := 100) 4 dX9_line_2 rfl bp100 ?_
  refine g_cS_I (M := mX9_line) (pc := 4) (M' := mX9_within) (rest := []) 7 dX9_line_4 rfl kX9_55 okX9_within (CX9_within a1 1 100 h L) rfl rfl rfl rfl (fun r1 => ?_)
  refine g_if_ne (M := mX9_line) (pc := 7) 17 10 dX9_line_7 (by decide) rfl (fun _ => ?_) (fun _ => ?_)
  · refine g_aload_n (M := mX9_line) (pc := 17) 18 dX9_line_17 rfl rfl rfl ?_
    refine g_getR (M := mX9_line) (pc := 18) 21 dX9_line_18 rfl fX9_16 oR16_1 ?_
    refine g_getI (M := mX9_line) (pc := 21) 24 dX9_line_21 rfl fX9_199 (oF0_3 (by decide)) ?_
    refine g_nmI (fun t2 => ?_)
    refine g_istore_n (M := mX9_line) (pc := 24) (ls' := [some (aR 3 16), some (aI a1), some (aI t2)]) 25 dX9_line_24 rfl rfl rfl rfl ?_
    refine g_aload_n (M := mX9_line) (pc := 25) 26 dX9_line_25 rfl rfl rfl ?_
    refine g_getR (M := mX9_line) (pc := 26) 29 dX9_line_26 rfl fX9_16 oR16_1 ?_
    refine g_iload_n (M := mX9_line) (pc := 29) 30 dX9_line_29 rfl rfl rfl ?_
    refine g_put (M := mX9_line) (pc := 30) 33 dX9_line_30 rfl pX9_199 (oF0_3 (by decide)) rfl rfl (fun h3 => ?_)
    refine g_iload_n (M := mX9_line) (pc := 33) 34 dX9_line_33 rfl rfl rfl ?_
    exact g_iret (M := mX9_line) (pc := 34) dX9_line_34 rfl rfl (fun z => z)
  · refine g_aload_n (M := mX9_line) (pc := 10) 11 dX9_line_10 rfl rfl rfl ?_
    refine g_ldc (M := mX9_line) (pc := 11) 13 dX9_line_11 rfl cX9_59 ?_
    refine g_cV_IH (M := mX9_line) (pc := 13) (M' := mX9_tell) (rest := []) 16 dX9_line_13 rfl kX9_60 okX9_tell (CX9_tell (-1000000001) h L) oO16 rfl rfl rfl rfl (fun r4 h5 => ?_)
    exact g_iret (M := mX9_line) (pc := 16) dX9_line_16 rfl rfl (fun z => z)
def FX9_known (h : HI) : Option (Int32) :=
  Option.bind (FX0_knownSet 0 h) fun r1 =>
  some r1
set_option maxRecDepth 100000 in
set_option maxHeartbeats 4000000 in
theorem CX9_known (h : HI) (L : HL) : CG mX9_known 2 [aR 3 16] h L (lfI h L) (FX9_known h) := by
  unfold FX9_known
  refine cg_of [some (aR 3 16)] rfl (by decide) rfl rfl (fun T => ?_)
  refine g_aload_n (M := mX9_known) (pc := 0) 1 dX9_known_0 rfl rfl rfl ?_
  refine g_getR (M := mX9_known) (pc := 1) 4 dX9_known_1 rfl fX9_16 oR16_1 ?_
  refine g_cV_I (M := mX9_known) (pc := 4) (M' := mX0_knownSet) (rest := []) 7 dX9_known_4 rfl kX9_202 okX0_knownSet (CX0_knownSet 0 (by decide) h L) (oO0 (by decide)) rfl rfl rfl rfl (fun r1 => ?_)
  exact g_iret (M := mX9_known) (pc := 7) dX9_known_7 rfl rfl (fun z => z)
def FX9_mayGo (a1 : Int32) (h : HI) : Option (Int32) :=
  if 99 < ((h 0 0 4) + a1) then
    some 0
  else
    some 1
set_option maxRecDepth 100000 in
set_option maxHeartbeats 4000000 in
theorem CX9_mayGo (a1 : Int32) (h : HI) (L : HL) : CG mX9_mayGo 0 [aR 3 16, aI a1] h L (lfI h L) (FX9_mayGo a1 h) := by
  unfold FX9_mayGo
  refine cg_of [some (aR 3 16), some (aI a1)] rfl (by decide) rfl rfl (fun T => ?_)
  refine g_aload_n (M := mX9_mayGo) (pc := 0) 1 dX9_mayGo_0 rfl rfl rfl ?_
  refine g_getR (M := mX9_mayGo) (pc := 1) 4 dX9_mayGo_1 rfl fX9_16 oR16_1 ?_
  refine g_getI (M := mX9_mayGo) (pc := 4) 7 dX9_mayGo_4 rfl fX9_216 (oF0_4 (by decide)) ?_
  refine g_iload_n (M := mX9_mayGo) (pc := 7) 8 dX9_mayGo_7 rfl rfl rfl ?_
  refine g_iadd (M := mX9_mayGo) (pc := 8) 9 dX9_mayGo_8 rfl ?_
  refine g_bipush (M := mX9_mayGo) (pc := 9) (v := 99) 11 dX9_mayGo_9 rfl bp99 ?_
  refine g_icmp_gt (M := mX9_mayGo) (pc := 11) 18 14 dX9_mayGo_11 (by decide) rfl (fun _ => ?_) (fun _ => ?_)
  · refine g_iconst (M := mX9_mayGo) (pc := 18) (v := 0) 19 dX9_mayGo_18 rfl ic0 ?_
    exact g_iret (M := mX9_mayGo) (pc := 19) dX9_mayGo_19 rfl nz0 (fun z => z)
  · refine g_iconst (M := mX9_mayGo) (pc := 14) (v := 1) 15 dX9_mayGo_14 rfl ic1 ?_
    refine g_goto (M := mX9_mayGo) (pc := 15) 19 dX9_mayGo_15 (by decide) ?_
    exact g_iret (M := mX9_mayGo) (pc := 19) dX9_mayGo_19 rfl nz1 (fun z => z)
def FX9_days (a1 : Int32) (h : HI) : Option (Int32 × HI) :=
  Option.bind (FX9_within a1 1 30) fun r1 =>
  if r1 = 0 then
    Option.bind (FX9_tell (-1000000001) h) fun (r7, h8) =>
    some (r7, h8)
  else
    Option.bind (FX9_mayGo a1 h) fun r2 =>
    if r2 = 0 then
      Option.bind (FX9_tell (-1000000005) h) fun (r5, h6) =>
      some (r5, h6)
    else
      nm (h 0 0 5) fun t3 =>
      Option.bind (FX0_goDays 0 a1 h) fun h4 =>
      some (((h4 0 0 5) - t3), h4)
set_option maxRecDepth 100000 in
set_option maxHeartbeats 4000000 in
theorem CX9_days (a1 : Int32) (h : HI) (L : HL) : CG mX9_days 5 [aR 3 16, aI a1] h L (lfIH L) (FX9_days a1 h) := by
  unfold FX9_days
  refine cg_of [some (aR 3 16), some (aI a1), none] rfl (by decide) rfl rfl (fun T => ?_)
  refine g_iload_n (M := mX9_days) (pc := 0) 1 dX9_days_0 rfl rfl rfl ?_
  refine g_iconst (M := mX9_days) (pc := 1) (v := 1) 2 dX9_days_1 rfl ic1 ?_
  refine g_bipush (M := mX9_days) (pc := 2) (v := 30) 4 dX9_days_2 rfl bp30 ?_
  refine g_cS_I (M := mX9_days) (pc := 4) (M' := mX9_within) (rest := []) 7 dX9_days_4 rfl kX9_55 okX9_within (CX9_within a1 1 30 h L) rfl rfl rfl rfl (fun r1 => ?_)
  refine g_if_ne (M := mX9_days) (pc := 7) 17 10 dX9_days_7 (by decide) rfl (fun _ => ?_) (fun _ => ?_)
  · refine g_aload_n (M := mX9_days) (pc := 17) 18 dX9_days_17 rfl rfl rfl ?_
    refine g_iload_n (M := mX9_days) (pc := 18) 19 dX9_days_18 rfl rfl rfl ?_
    refine g_cV_I (M := mX9_days) (pc := 19) (M' := mX9_mayGo) (rest := []) 22 dX9_days_19 rfl kX9_206 okX9_mayGo (CX9_mayGo a1 h L) oO16 rfl rfl rfl rfl (fun r2 => ?_)
    refine g_if_ne (M := mX9_days) (pc := 22) 32 25 dX9_days_22 (by decide) rfl (fun _ => ?_) (fun _ => ?_)
    · refine g_aload_n (M := mX9_days) (pc := 32) 33 dX9_days_32 rfl rfl rfl ?_
      refine g_getR (M := mX9_days) (pc := 33) 36 dX9_days_33 rfl fX9_16 oR16_1 ?_
      refine g_getI (M := mX9_days) (pc := 36) 39 dX9_days_36 rfl fX9_210 (oF0_5 (by decide)) ?_
      refine g_nmI (fun t3 => ?_)
      refine g_istore_n (M := mX9_days) (pc := 39) (ls' := [some (aR 3 16), some (aI a1), some (aI t3)]) 40 dX9_days_39 rfl rfl rfl rfl ?_
      refine g_aload_n (M := mX9_days) (pc := 40) 41 dX9_days_40 rfl rfl rfl ?_
      refine g_getR (M := mX9_days) (pc := 41) 44 dX9_days_41 rfl fX9_16 oR16_1 ?_
      refine g_iload_n (M := mX9_days) (pc := 44) 45 dX9_days_44 rfl rfl rfl ?_
      refine g_cV_VH (M := mX9_days) (pc := 45) (M' := mX0_goDays) (rest := []) 48 dX9_days_45 rfl kX9_213 okX0_goDays (CX0_goDays 0 (by decide) a1 h L) (oO0 (by decide)) rfl rfl rfl rfl (fun h4 => ?_)
      refine g_aload_n (M := mX9_days) (pc := 48) 49 dX9_days_48 rfl rfl rfl ?_
      refine g_getR (M := mX9_days) (pc := 49) 52 dX9_days_49 rfl fX9_16 oR16_1 ?_
      refine g_getI (M := mX9_days) (pc := 52) 55 dX9_days_52 rfl fX9_210 (oF0_5 (by decide)) ?_
      refine g_iload_n (M := mX9_days) (pc := 55) 56 dX9_days_55 rfl rfl rfl ?_
      refine g_isub (M := mX9_days) (pc := 56) 57 dX9_days_56 rfl ?_
      exact g_iret (M := mX9_days) (pc := 57) dX9_days_57 rfl rfl (fun z => z)
    · refine g_aload_n (M := mX9_days) (pc := 25) 26 dX9_days_25 rfl rfl rfl ?_
      refine g_ldc (M := mX9_days) (pc := 26) 28 dX9_days_26 rfl cX9_209 ?_
      refine g_cV_IH (M := mX9_days) (pc := 28) (M' := mX9_tell) (rest := []) 31 dX9_days_28 rfl kX9_60 okX9_tell (CX9_tell (-1000000005) h L) oO16 rfl rfl rfl rfl (fun r5 h6 => ?_)
      exact g_iret (M := mX9_days) (pc := 31) dX9_days_31 rfl rfl (fun z => z)
  · refine g_aload_n (M := mX9_days) (pc := 10) 11 dX9_days_10 rfl rfl rfl ?_
    refine g_ldc (M := mX9_days) (pc := 11) 13 dX9_days_11 rfl cX9_59 ?_
    refine g_cV_IH (M := mX9_days) (pc := 13) (M' := mX9_tell) (rest := []) 16 dX9_days_13 rfl kX9_60 okX9_tell (CX9_tell (-1000000001) h L) oO16 rfl rfl rfl rfl (fun r7 h8 => ?_)
    exact g_iret (M := mX9_days) (pc := 16) dX9_days_16 rfl rfl (fun z => z)
def FX9_now (a1 : Int32) (h : HI) : Option (Int32 × HI) :=
  if a1 = 0 then
    some ((h 0 0 4), h)
  else
  if a1 = 1 then
    some ((h 0 0 3), h)
  else
  if a1 = 2 then
    some ((h 0 0 5), h)
  else
  if a1 = 3 then
    Option.bind (FX8_howManyOn 0 (h 0 0 4) h) fun r1 =>
    some (r1, h)
  else
  Option.bind (FX9_tell (-1000000001) h) fun (r2, h3) =>
  some (r2, h3)
set_option maxRecDepth 100000 in
set_option maxHeartbeats 4000000 in
theorem CX9_now (a1 : Int32) (h : HI) (L : HL) : CG mX9_now 1 [aR 3 16, aI a1] h L (lfIH L) (FX9_now a1 h) := by
  unfold FX9_now
  refine cg_of [some (aR 3 16), some (aI a1)] rfl (by decide) rfl rfl (fun T => ?_)
  refine g_iload_n (M := mX9_now) (pc := 0) 1 dX9_now_0 rfl rfl rfl ?_
  refine g_tsc (M := mX9_now) (pc := 1) (v := 0) 32 dX9_now_1 (by decide) (by decide) rfl (by decide) (fun _ => ?_) (fun z0 => ?_)
  · refine g_aload_n (M := mX9_now) (pc := 32) 33 dX9_now_32 rfl rfl rfl ?_
    refine g_getR (M := mX9_now) (pc := 33) 36 dX9_now_33 rfl fX9_16 oR16_1 ?_
    refine g_getI (M := mX9_now) (pc := 36) 39 dX9_now_36 rfl fX9_216 (oF0_4 (by decide)) ?_
    exact g_iret (M := mX9_now) (pc := 39) dX9_now_39 rfl rfl (fun z => z)
  refine g_tsc (M := mX9_now) (pc := 1) (v := 1) 40 dX9_now_1 (by decide) (by decide) rfl (by decide) (fun _ => ?_) (fun z1 => ?_)
  · refine g_aload_n (M := mX9_now) (pc := 40) 41 dX9_now_40 rfl rfl rfl ?_
    refine g_getR (M := mX9_now) (pc := 41) 44 dX9_now_41 rfl fX9_16 oR16_1 ?_
    refine g_getI (M := mX9_now) (pc := 44) 47 dX9_now_44 rfl fX9_199 (oF0_3 (by decide)) ?_
    exact g_iret (M := mX9_now) (pc := 47) dX9_now_47 rfl rfl (fun z => z)
  refine g_tsc (M := mX9_now) (pc := 1) (v := 2) 48 dX9_now_1 (by decide) (by decide) rfl (by decide) (fun _ => ?_) (fun z2 => ?_)
  · refine g_aload_n (M := mX9_now) (pc := 48) 49 dX9_now_48 rfl rfl rfl ?_
    refine g_getR (M := mX9_now) (pc := 49) 52 dX9_now_49 rfl fX9_16 oR16_1 ?_
    refine g_getI (M := mX9_now) (pc := 52) 55 dX9_now_52 rfl fX9_210 (oF0_5 (by decide)) ?_
    exact g_iret (M := mX9_now) (pc := 55) dX9_now_55 rfl rfl (fun z => z)
  refine g_tsc (M := mX9_now) (pc := 1) (v := 3) 56 dX9_now_1 (by decide) (by decide) rfl (by decide) (fun _ => ?_) (fun z3 => ?_)
  · refine g_aload_n (M := mX9_now) (pc := 56) 57 dX9_now_56 rfl rfl rfl ?_
    refine g_getR (M := mX9_now) (pc := 57) 60 dX9_now_57 rfl fX9_16 oR16_1 ?_
    refine g_getR (M := mX9_now) (pc := 60) 63 dX9_now_60 rfl fX9_111 (oR0_1 (by decide)) ?_
    refine g_aload_n (M := mX9_now) (pc := 63) 64 dX9_now_63 rfl rfl rfl ?_
    refine g_getR (M := mX9_now) (pc := 64) 67 dX9_now_64 rfl fX9_16 oR16_1 ?_
    refine g_getI (M := mX9_now) (pc := 67) 70 dX9_now_67 rfl fX9_216 (oF0_4 (by decide)) ?_
    refine g_cV_I (M := mX9_now) (pc := 70) (M' := mX8_howManyOn) (rest := []) 73 dX9_now_70 rfl kX9_219 okX8_howManyOn (CX8_howManyOn 0 (by decide) (h 0 0 4) h L) (oO8 (by decide)) rfl rfl rfl rfl (fun r1 => ?_)
    exact g_iret (M := mX9_now) (pc := 73) dX9_now_73 rfl rfl (fun z => z)
  refine g_tsOut (M := mX9_now) (pc := 1) 74 dX9_now_1 (by have y0 := lv_neT z0 (a := 0) rfl; have y1 := lv_neT z1 (a := 1) rfl; have y2 := lv_neT z2 (a := 2) rfl; have y3 := lv_neT z3 (a := 3) rfl; omega) (by decide) ?_
  refine g_aload_n (M := mX9_now) (pc := 74) 75 dX9_now_74 rfl rfl rfl ?_
  refine g_ldc (M := mX9_now) (pc := 75) 77 dX9_now_75 rfl cX9_59 ?_
  refine g_cV_IH (M := mX9_now) (pc := 77) (M' := mX9_tell) (rest := []) 80 dX9_now_77 rfl kX9_60 okX9_tell (CX9_tell (-1000000001) h L) oO16 rfl rfl rfl rfl (fun r2 h3 => ?_)
  exact g_iret (M := mX9_now) (pc := 80) dX9_now_80 rfl rfl (fun z => z)
def SX9_sum_4 (g0 : Nat) (k0 : Nat) (a1 : Int32) (h : HI) : (Int32 × Int32) → Option ((Int32 × Int32) ⊕ (Int32))
  | (a2, a3) =>
    if a1 ≤ a3 then
      some (Sum.inr a2)
    else
      gd (okI g0 k0 && ixb a3 (alen k0)) <|
      nm (a2 + (h g0 k0 (nC a3))) fun t1 =>
      some (Sum.inl (t1, (a3 + 1)))
def FX9_sum (g0 : Nat) (k0 : Nat) (a1 : Int32) (h : HI) : Option (Int32) :=
  Option.bind (loopN (SX9_sum_4 g0 k0 a1 h) FU (0, 0)) fun e2 =>
    some e2
set_option maxRecDepth 100000 in
set_option maxHeartbeats 4000000 in
theorem SX9_sum_4_ok (g0 : Nat) (k0 : Nat) (a1 : Int32) (h : HI) (L : HL) (T : ZT) (a2 : Int32) (a3 : Int32) : VX mX9_sum 0 T (gS (fun s : Int32 × Int32 => V mX9_sum 0 T 4 [some (aR g0 k0), some (aI a1), some (aI (s.1)), some (aI (s.2))] [] h L) (fun s : Int32 => V mX9_sum 0 T 21 [none, none, some (aI s), none] [] h L)) 4 [some (aR g0 k0), some (aI a1), some (aI a2), some (aI a3)] [] h L (SX9_sum_4 g0 k0 a1 h (a2, a3)) := by
  unfold SX9_sum_4
  refine g_iload_n (M := mX9_sum) (pc := 4) 5 dX9_sum_4 rfl rfl rfl ?_
  refine g_iload_n (M := mX9_sum) (pc := 5) 6 dX9_sum_5 rfl rfl rfl ?_
  refine g_icmp_ge (M := mX9_sum) (pc := 6) 21 9 dX9_sum_6 (by decide) rfl (fun _ => ?_) (fun _ => ?_)
  · exact g_jmp (fun z => v_fgt [false, false, true, false] z)
  · refine g_iload_n (M := mX9_sum) (pc := 9) 10 dX9_sum_9 rfl rfl rfl ?_
    refine g_aload_n (M := mX9_sum) (pc := 10) 11 dX9_sum_10 rfl rfl rfl ?_
    refine g_iload_n (M := mX9_sum) (pc := 11) 12 dX9_sum_11 rfl rfl rfl ?_
    refine g_ialdV (M := mX9_sum) (pc := 12) 13 dX9_sum_12 rfl ?_
    refine g_iadd (M := mX9_sum) (pc := 13) 14 dX9_sum_13 rfl ?_
    refine g_nmI (fun t1 => ?_)
    refine g_istore_n (M := mX9_sum) (pc := 14) (ls' := [some (aR g0 k0), some (aI a1), some (aI t1), some (aI a3)]) 15 dX9_sum_14 rfl rfl rfl rfl ?_
    refine g_iinc (M := mX9_sum) (pc := 15) (c := 1) (ls' := [some (aR g0 k0), some (aI a1), some (aI t1), some (aI (a3 + 1))]) 18 dX9_sum_15 rfl ic1 rfl rfl rfl ?_
    refine g_goto (M := mX9_sum) (pc := 18) 4 dX9_sum_18 (by decide) ?_
    exact g_jmp (fun z => v_fgt [true, true, true, true] z)
set_option maxRecDepth 100000 in
set_option maxHeartbeats 4000000 in
theorem CX9_sum (g0 : Nat) (k0 : Nat) (a1 : Int32) (h : HI) (L : HL) : CG mX9_sum 0 [aR g0 k0, aI a1] h L (lfI h L) (FX9_sum g0 k0 a1 h) := by
  unfold FX9_sum
  refine cg_of [some (aR g0 k0), some (aI a1), none, none] rfl (by decide) rfl rfl (fun T => ?_)
  refine g_iconst (M := mX9_sum) (pc := 0) (v := 0) 1 dX9_sum_0 rfl ic0 ?_
  refine g_istore_n (M := mX9_sum) (pc := 1) (ls' := [some (aR g0 k0), some (aI a1), some (aI 0), none]) 2 dX9_sum_1 rfl rfl rfl rfl ?_
  refine g_iconst (M := mX9_sum) (pc := 2) (v := 0) 3 dX9_sum_2 rfl ic0 ?_
  refine g_istore_n (M := mX9_sum) (pc := 3) (ls' := [some (aR g0 k0), some (aI a1), some (aI 0), some (aI 0)]) 4 dX9_sum_3 rfl rfl rfl rfl ?_
  refine g_loop (fun s => SX9_sum_4_ok g0 k0 a1 h L T s.1 s.2) ?_ (fun z => v_fgt [true, true, true, true] z)
  intro e2
  show VX mX9_sum 0 T _ 21 [none, none, some (aI e2), none] [] h L _
  refine g_iload_n (M := mX9_sum) (pc := 21) 22 dX9_sum_21 rfl rfl rfl ?_
  exact g_iret (M := mX9_sum) (pc := 22) dX9_sum_22 rfl rfl (fun z => z)
def FX9_on (a1 : Int32) (a2 : Int32) (h : HI) : Option (Int32 × HI) :=
  Option.bind (FX9_within a1 0 60) fun r1 =>
  if r1 = 0 then
    Option.bind (FX9_tell (-1000000001) h) fun (r2, h3) =>
    some (r2, h3)
  else
    Option.bind (FX9_within a2 0 2) fun r4 =>
    if r4 = 0 then
      Option.bind (FX9_tell (-1000000001) h) fun (r11, h12) =>
      some (r11, h12)
    else
      Option.bind (FX9_mayGo a1 h) fun r5 =>
      if r5 = 0 then
        Option.bind (FX9_tell (-1000000005) h) fun (r9, h10) =>
        some (r9, h10)
      else
        Option.bind (FX4_lookAhead 0 a1 h) fun h6 =>
        if a2 = 0 then
          some ((h6 2 0 5), h6)
        else
          if a2 = 1 then
            Option.bind (FX0_knownSet 2 h6) fun r8 =>
            some (r8, h6)
          else
            Option.bind (FX9_sum 2 6 (h6 2 1 6) h6) fun r7 =>
            some (r7, h6)
set_option maxRecDepth 100000 in
set_option maxHeartbeats 4000000 in
theorem CX9_on (a1 : Int32) (a2 : Int32) (h : HI) (L : HL) : CG mX9_on 6 [aR 3 16, aI a1, aI a2] h L (lfIH L) (FX9_on a1 a2 h) := by
  unfold FX9_on
  refine cg_of [some (aR 3 16), some (aI a1), some (aI a2), none] rfl (by decide) rfl rfl (fun T => ?_)
  refine g_iload_n (M := mX9_on) (pc := 0) 1 dX9_on_0 rfl rfl rfl ?_
  refine g_iconst (M := mX9_on) (pc := 1) (v := 0) 2 dX9_on_1 rfl ic0 ?_
  refine g_bipush (M := mX9_on) (pc := 2) (v := 60) 4 dX9_on_2 rfl bp60 ?_
  refine g_cS_I (M := mX9_on) (pc := 4) (M' := mX9_within) (rest := []) 7 dX9_on_4 rfl kX9_55 okX9_within (CX9_within a1 0 60 h L) rfl rfl rfl rfl (fun r1 => ?_)
  refine g_if_eq (M := mX9_on) (pc := 7) 19 10 dX9_on_7 (by decide) rfl (fun _ => ?_) (fun _ => ?_)
  · refine g_aload_n (M := mX9_on) (pc := 19) 20 dX9_on_19 rfl rfl rfl ?_
    refine g_ldc (M := mX9_on) (pc := 20) 22 dX9_on_20 rfl cX9_59 ?_
    refine g_cV_IH (M := mX9_on) (pc := 22) (M' := mX9_tell) (rest := []) 25 dX9_on_22 rfl kX9_60 okX9_tell (CX9_tell (-1000000001) h L) oO16 rfl rfl rfl rfl (fun r2 h3 => ?_)
    exact g_iret (M := mX9_on) (pc := 25) dX9_on_25 rfl rfl (fun z => z)
  · refine g_iload_n (M := mX9_on) (pc := 10) 11 dX9_on_10 rfl rfl rfl ?_
    refine g_iconst (M := mX9_on) (pc := 11) (v := 0) 12 dX9_on_11 rfl ic0 ?_
    refine g_iconst (M := mX9_on) (pc := 12) (v := 2) 13 dX9_on_12 rfl ic2 ?_
    refine g_cS_I (M := mX9_on) (pc := 13) (M' := mX9_within) (rest := []) 16 dX9_on_13 rfl kX9_55 okX9_within (CX9_within a2 0 2 h L) rfl rfl rfl rfl (fun r4 => ?_)
    refine g_if_ne (M := mX9_on) (pc := 16) 26 19 dX9_on_16 (by decide) rfl (fun _ => ?_) (fun _ => ?_)
    · refine g_aload_n (M := mX9_on) (pc := 26) 27 dX9_on_26 rfl rfl rfl ?_
      refine g_iload_n (M := mX9_on) (pc := 27) 28 dX9_on_27 rfl rfl rfl ?_
      refine g_cV_I (M := mX9_on) (pc := 28) (M' := mX9_mayGo) (rest := []) 31 dX9_on_28 rfl kX9_206 okX9_mayGo (CX9_mayGo a1 h L) oO16 rfl rfl rfl rfl (fun r5 => ?_)
      refine g_if_ne (M := mX9_on) (pc := 31) 41 34 dX9_on_31 (by decide) rfl (fun _ => ?_) (fun _ => ?_)
      · refine g_aload_n (M := mX9_on) (pc := 41) 42 dX9_on_41 rfl rfl rfl ?_
        refine g_getR (M := mX9_on) (pc := 42) 45 dX9_on_42 rfl fX9_37 oR16_5 ?_
        refine g_aload_n (M := mX9_on) (pc := 45) 46 dX9_on_45 rfl rfl rfl ?_
        refine g_getR (M := mX9_on) (pc := 46) 49 dX9_on_46 rfl fX9_16 oR16_1 ?_
        refine g_iload_n (M := mX9_on) (pc := 49) 50 dX9_on_49 rfl rfl rfl ?_
        refine g_cV_VH (M := mX9_on) (pc := 50) (M' := mX4_lookAhead) (rest := []) 53 dX9_on_50 rfl kX9_222 okX4_lookAhead (CX4_lookAhead 0 (by decide) a1 h L) oO24 rfl rfl rfl rfl (fun h6 => ?_)
        refine g_aload_n (M := mX9_on) (pc := 53) 54 dX9_on_53 rfl rfl rfl ?_
        refine g_getR (M := mX9_on) (pc := 54) 57 dX9_on_54 rfl fX9_37 oR16_5 ?_
        refine g_getR (M := mX9_on) (pc := 57) 60 dX9_on_57 rfl fX9_226 oR24_0 ?_
        refine g_astore_n (M := mX9_on) (pc := 60) (ls' := [some (aR 3 16), some (aI a1), some (aI a2), some (aR 2 0)]) 61 dX9_on_60 rfl rfl rfl rfl ?_
        refine g_iload_n (M := mX9_on) (pc := 61) 62 dX9_on_61 rfl rfl rfl ?_
        refine g_if_ne (M := mX9_on) (pc := 62) 70 65 dX9_on_62 (by decide) rfl (fun _ => ?_) (fun _ => ?_)
        · refine g_iload_n (M := mX9_on) (pc := 70) 71 dX9_on_70 rfl rfl rfl ?_
          refine g_iconst (M := mX9_on) (pc := 71) (v := 1) 72 dX9_on_71 rfl ic1 ?_
          refine g_icmp_ne (M := mX9_on) (pc := 72) 82 75 dX9_on_72 (by decide) rfl (fun _ => ?_) (fun _ => ?_)
          · refine g_aload_n (M := mX9_on) (pc := 82) 83 dX9_on_82 rfl rfl rfl ?_
            refine g_getR (M := mX9_on) (pc := 83) 86 dX9_on_83 rfl fX9_64 (oR0_0 (by decide)) ?_
            refine g_getR (M := mX9_on) (pc := 86) 89 dX9_on_86 rfl fX9_108 (oR1_4 (by decide)) ?_
            refine g_aload_n (M := mX9_on) (pc := 89) 90 dX9_on_89 rfl rfl rfl ?_
            refine g_getR (M := mX9_on) (pc := 90) 93 dX9_on_90 rfl fX9_64 (oR0_0 (by decide)) ?_
            refine g_getI (M := mX9_on) (pc := 93) 96 dX9_on_93 rfl fX9_229 (oF1_6 (by decide)) ?_
            refine g_cS_I (M := mX9_on) (pc := 96) (M' := mX9_sum) (rest := []) 99 dX9_on_96 rfl kX9_230 okX9_sum (CX9_sum 2 6 (h6 2 1 6) h6 L) rfl rfl rfl rfl (fun r7 => ?_)
            exact g_iret (M := mX9_on) (pc := 99) dX9_on_99 rfl rfl (fun z => z)
          · refine g_aload_n (M := mX9_on) (pc := 75) 76 dX9_on_75 rfl rfl rfl ?_
            refine g_cV_I (M := mX9_on) (pc := 76) (M' := mX0_knownSet) (rest := []) 79 dX9_on_76 rfl kX9_202 okX0_knownSet (CX0_knownSet 2 (by decide) h6 L) (oO0 (by decide)) rfl rfl rfl rfl (fun r8 => ?_)
            refine g_goto (M := mX9_on) (pc := 79) 99 dX9_on_79 (by decide) ?_
            exact g_iret (M := mX9_on) (pc := 99) dX9_on_99 rfl rfl (fun z => z)
        · refine g_aload_n (M := mX9_on) (pc := 65) 66 dX9_on_65 rfl rfl rfl ?_
          refine g_getI (M := mX9_on) (pc := 66) 69 dX9_on_66 rfl fX9_210 (oF0_5 (by decide)) ?_
          exact g_iret (M := mX9_on) (pc := 69) dX9_on_69 rfl rfl (fun z => z)
      · refine g_aload_n (M := mX9_on) (pc := 34) 35 dX9_on_34 rfl rfl rfl ?_
        refine g_ldc (M := mX9_on) (pc := 35) 37 dX9_on_35 rfl cX9_209 ?_
        refine g_cV_IH (M := mX9_on) (pc := 37) (M' := mX9_tell) (rest := []) 40 dX9_on_37 rfl kX9_60 okX9_tell (CX9_tell (-1000000005) h L) oO16 rfl rfl rfl rfl (fun r9 h10 => ?_)
        exact g_iret (M := mX9_on) (pc := 40) dX9_on_40 rfl rfl (fun z => z)
    · refine g_aload_n (M := mX9_on) (pc := 19) 20 dX9_on_19 rfl rfl rfl ?_
      refine g_ldc (M := mX9_on) (pc := 20) 22 dX9_on_20 rfl cX9_59 ?_
      refine g_cV_IH (M := mX9_on) (pc := 22) (M' := mX9_tell) (rest := []) 25 dX9_on_22 rfl kX9_60 okX9_tell (CX9_tell (-1000000001) h L) oO16 rfl rfl rfl rfl (fun r11 h12 => ?_)
      exact g_iret (M := mX9_on) (pc := 25) dX9_on_25 rfl rfl (fun z => z)
def FX9_forgot (a1 : Int32) (h : HI) : Option (Int32 × HI) :=
  Option.bind (FX9_isPhrase a1 h) fun r1 =>
  if r1 = 0 then
    Option.bind (FX9_tell (-1000000001) h) fun (r9, h10) =>
    some (r9, h10)
  else
    Option.bind (FX9_mayGo 60 h) fun r2 =>
    if r2 = 0 then
      Option.bind (FX9_tell (-1000000005) h) fun (r7, h8) =>
      some (r7, h8)
    else
      Option.bind (FX4_daysTillForgotten 0 a1 h) fun (r3, h4) =>
      Option.bind (FX9_orNone r3 h4) fun (r5, h6) =>
      some (r5, h6)
set_option maxRecDepth 100000 in
set_option maxHeartbeats 4000000 in
theorem CX9_forgot (a1 : Int32) (h : HI) (L : HL) : CG mX9_forgot 6 [aR 3 16, aI a1] h L (lfIH L) (FX9_forgot a1 h) := by
  unfold FX9_forgot
  refine cg_of [some (aR 3 16), some (aI a1)] rfl (by decide) rfl rfl (fun T => ?_)
  refine g_aload_n (M := mX9_forgot) (pc := 0) 1 dX9_forgot_0 rfl rfl rfl ?_
  refine g_iload_n (M := mX9_forgot) (pc := 1) 2 dX9_forgot_1 rfl rfl rfl ?_
  refine g_cV_I (M := mX9_forgot) (pc := 2) (M' := mX9_isPhrase) (rest := []) 5 dX9_forgot_2 rfl kX9_79 okX9_isPhrase (CX9_isPhrase a1 h L) oO16 rfl rfl rfl rfl (fun r1 => ?_)
  refine g_if_ne (M := mX9_forgot) (pc := 5) 15 8 dX9_forgot_5 (by decide) rfl (fun _ => ?_) (fun _ => ?_)
  · refine g_aload_n (M := mX9_forgot) (pc := 15) 16 dX9_forgot_15 rfl rfl rfl ?_
    refine g_bipush (M := mX9_forgot) (pc := 16) (v := 60) 18 dX9_forgot_16 rfl bp60 ?_
    refine g_cV_I (M := mX9_forgot) (pc := 18) (M' := mX9_mayGo) (rest := []) 21 dX9_forgot_18 rfl kX9_206 okX9_mayGo (CX9_mayGo 60 h L) oO16 rfl rfl rfl rfl (fun r2 => ?_)
    refine g_if_ne (M := mX9_forgot) (pc := 21) 31 24 dX9_forgot_21 (by decide) rfl (fun _ => ?_) (fun _ => ?_)
    · refine g_aload_n (M := mX9_forgot) (pc := 31) 32 dX9_forgot_31 rfl rfl rfl ?_
      refine g_aload_n (M := mX9_forgot) (pc := 32) 33 dX9_forgot_32 rfl rfl rfl ?_
      refine g_getR (M := mX9_forgot) (pc := 33) 36 dX9_forgot_33 rfl fX9_37 oR16_5 ?_
      refine g_aload_n (M := mX9_forgot) (pc := 36) 37 dX9_forgot_36 rfl rfl rfl ?_
      refine g_getR (M := mX9_forgot) (pc := 37) 40 dX9_forgot_37 rfl fX9_16 oR16_1 ?_
      refine g_iload_n (M := mX9_forgot) (pc := 40) 41 dX9_forgot_40 rfl rfl rfl ?_
      refine g_cV_IH (M := mX9_forgot) (pc := 41) (M' := mX4_daysTillForgotten) (rest := [aR 3 16]) 44 dX9_forgot_41 rfl kX9_234 okX4_daysTillForgotten (CX4_daysTillForgotten 0 (by decide) a1 h L) oO24 rfl rfl rfl rfl (fun r3 h4 => ?_)
      refine g_cV_IH (M := mX9_forgot) (pc := 44) (M' := mX9_orNone) (rest := []) 47 dX9_forgot_44 rfl kX9_152 okX9_orNone (CX9_orNone r3 h4 L) oO16 rfl rfl rfl rfl (fun r5 h6 => ?_)
      exact g_iret (M := mX9_forgot) (pc := 47) dX9_forgot_47 rfl rfl (fun z => z)
    · refine g_aload_n (M := mX9_forgot) (pc := 24) 25 dX9_forgot_24 rfl rfl rfl ?_
      refine g_ldc (M := mX9_forgot) (pc := 25) 27 dX9_forgot_25 rfl cX9_209 ?_
      refine g_cV_IH (M := mX9_forgot) (pc := 27) (M' := mX9_tell) (rest := []) 30 dX9_forgot_27 rfl kX9_60 okX9_tell (CX9_tell (-1000000005) h L) oO16 rfl rfl rfl rfl (fun r7 h8 => ?_)
      exact g_iret (M := mX9_forgot) (pc := 30) dX9_forgot_30 rfl rfl (fun z => z)
  · refine g_aload_n (M := mX9_forgot) (pc := 8) 9 dX9_forgot_8 rfl rfl rfl ?_
    refine g_ldc (M := mX9_forgot) (pc := 9) 11 dX9_forgot_9 rfl cX9_59 ?_
    refine g_cV_IH (M := mX9_forgot) (pc := 11) (M' := mX9_tell) (rest := []) 14 dX9_forgot_11 rfl kX9_60 okX9_tell (CX9_tell (-1000000001) h L) oO16 rfl rfl rfl rfl (fun r9 h10 => ?_)
    exact g_iret (M := mX9_forgot) (pc := 14) dX9_forgot_14 rfl rfl (fun z => z)
def FX9_useless (a1 : Int32) (h : HI) : Option (Int32 × HI) :=
  Option.bind (FX9_within a1 1 60) fun r1 =>
  if r1 = 0 then
    Option.bind (FX9_tell (-1000000001) h) fun (r7, h8) =>
    some (r7, h8)
  else
    Option.bind (FX9_mayGo a1 h) fun r2 =>
    if r2 = 0 then
      Option.bind (FX9_tell (-1000000005) h) fun (r5, h6) =>
      some (r5, h6)
    else
      Option.bind (FX4_neverUsed 0 a1 h) fun (r3, h4) =>
      some (r3, h4)
set_option maxRecDepth 100000 in
set_option maxHeartbeats 4000000 in
theorem CX9_useless (a1 : Int32) (h : HI) (L : HL) : CG mX9_useless 7 [aR 3 16, aI a1] h L (lfIH L) (FX9_useless a1 h) := by
  unfold FX9_useless
  refine cg_of [some (aR 3 16), some (aI a1)] rfl (by decide) rfl rfl (fun T => ?_)
  refine g_iload_n (M := mX9_useless) (pc := 0) 1 dX9_useless_0 rfl rfl rfl ?_
  refine g_iconst (M := mX9_useless) (pc := 1) (v := 1) 2 dX9_useless_1 rfl ic1 ?_
  refine g_bipush (M := mX9_useless) (pc := 2) (v := 60) 4 dX9_useless_2 rfl bp60 ?_
  refine g_cS_I (M := mX9_useless) (pc := 4) (M' := mX9_within) (rest := []) 7 dX9_useless_4 rfl kX9_55 okX9_within (CX9_within a1 1 60 h L) rfl rfl rfl rfl (fun r1 => ?_)
  refine g_if_ne (M := mX9_useless) (pc := 7) 17 10 dX9_useless_7 (by decide) rfl (fun _ => ?_) (fun _ => ?_)
  · refine g_aload_n (M := mX9_useless) (pc := 17) 18 dX9_useless_17 rfl rfl rfl ?_
    refine g_iload_n (M := mX9_useless) (pc := 18) 19 dX9_useless_18 rfl rfl rfl ?_
    refine g_cV_I (M := mX9_useless) (pc := 19) (M' := mX9_mayGo) (rest := []) 22 dX9_useless_19 rfl kX9_206 okX9_mayGo (CX9_mayGo a1 h L) oO16 rfl rfl rfl rfl (fun r2 => ?_)
    refine g_if_ne (M := mX9_useless) (pc := 22) 32 25 dX9_useless_22 (by decide) rfl (fun _ => ?_) (fun _ => ?_)
    · refine g_aload_n (M := mX9_useless) (pc := 32) 33 dX9_useless_32 rfl rfl rfl ?_
      refine g_getR (M := mX9_useless) (pc := 33) 36 dX9_useless_33 rfl fX9_37 oR16_5 ?_
      refine g_aload_n (M := mX9_useless) (pc := 36) 37 dX9_useless_36 rfl rfl rfl ?_
      refine g_getR (M := mX9_useless) (pc := 37) 40 dX9_useless_37 rfl fX9_16 oR16_1 ?_
      refine g_iload_n (M := mX9_useless) (pc := 40) 41 dX9_useless_40 rfl rfl rfl ?_
      refine g_cV_IH (M := mX9_useless) (pc := 41) (M' := mX4_neverUsed) (rest := []) 44 dX9_useless_41 rfl kX9_238 okX4_neverUsed (CX4_neverUsed 0 (by decide) a1 h L) oO24 rfl rfl rfl rfl (fun r3 h4 => ?_)
      exact g_iret (M := mX9_useless) (pc := 44) dX9_useless_44 rfl rfl (fun z => z)
    · refine g_aload_n (M := mX9_useless) (pc := 25) 26 dX9_useless_25 rfl rfl rfl ?_
      refine g_ldc (M := mX9_useless) (pc := 26) 28 dX9_useless_26 rfl cX9_209 ?_
      refine g_cV_IH (M := mX9_useless) (pc := 28) (M' := mX9_tell) (rest := []) 31 dX9_useless_28 rfl kX9_60 okX9_tell (CX9_tell (-1000000005) h L) oO16 rfl rfl rfl rfl (fun r5 h6 => ?_)
      exact g_iret (M := mX9_useless) (pc := 31) dX9_useless_31 rfl rfl (fun z => z)
  · refine g_aload_n (M := mX9_useless) (pc := 10) 11 dX9_useless_10 rfl rfl rfl ?_
    refine g_ldc (M := mX9_useless) (pc := 11) 13 dX9_useless_11 rfl cX9_59 ?_
    refine g_cV_IH (M := mX9_useless) (pc := 13) (M' := mX9_tell) (rest := []) 16 dX9_useless_13 rfl kX9_60 okX9_tell (CX9_tell (-1000000001) h L) oO16 rfl rfl rfl rfl (fun r7 h8 => ?_)
    exact g_iret (M := mX9_useless) (pc := 16) dX9_useless_16 rfl rfl (fun z => z)
def FX9_tonight (a1 : Int32) (h : HI) : Option (Int32 × HI) :=
  Option.bind (FX9_within a1 1 60) fun r1 =>
  if r1 = 0 then
    Option.bind (FX9_tell (-1000000001) h) fun (r9, h10) =>
    some (r9, h10)
  else
    Option.bind (FX9_mayGo a1 h) fun r2 =>
    if r2 = 0 then
      Option.bind (FX9_tell (-1000000005) h) fun (r7, h8) =>
      some (r7, h8)
    else
      Option.bind (FX4_worthLearning 0 a1 h) fun (r3, h4) =>
      Option.bind (FX9_orNone r3 h4) fun (r5, h6) =>
      some (r5, h6)
set_option maxRecDepth 100000 in
set_option maxHeartbeats 4000000 in
theorem CX9_tonight (a1 : Int32) (h : HI) (L : HL) : CG mX9_tonight 7 [aR 3 16, aI a1] h L (lfIH L) (FX9_tonight a1 h) := by
  unfold FX9_tonight
  refine cg_of [some (aR 3 16), some (aI a1)] rfl (by decide) rfl rfl (fun T => ?_)
  refine g_iload_n (M := mX9_tonight) (pc := 0) 1 dX9_tonight_0 rfl rfl rfl ?_
  refine g_iconst (M := mX9_tonight) (pc := 1) (v := 1) 2 dX9_tonight_1 rfl ic1 ?_
  refine g_bipush (M := mX9_tonight) (pc := 2) (v := 60) 4 dX9_tonight_2 rfl bp60 ?_
  refine g_cS_I (M := mX9_tonight) (pc := 4) (M' := mX9_within) (rest := []) 7 dX9_tonight_4 rfl kX9_55 okX9_within (CX9_within a1 1 60 h L) rfl rfl rfl rfl (fun r1 => ?_)
  refine g_if_ne (M := mX9_tonight) (pc := 7) 17 10 dX9_tonight_7 (by decide) rfl (fun _ => ?_) (fun _ => ?_)
  · refine g_aload_n (M := mX9_tonight) (pc := 17) 18 dX9_tonight_17 rfl rfl rfl ?_
    refine g_iload_n (M := mX9_tonight) (pc := 18) 19 dX9_tonight_18 rfl rfl rfl ?_
    refine g_cV_I (M := mX9_tonight) (pc := 19) (M' := mX9_mayGo) (rest := []) 22 dX9_tonight_19 rfl kX9_206 okX9_mayGo (CX9_mayGo a1 h L) oO16 rfl rfl rfl rfl (fun r2 => ?_)
    refine g_if_ne (M := mX9_tonight) (pc := 22) 32 25 dX9_tonight_22 (by decide) rfl (fun _ => ?_) (fun _ => ?_)
    · refine g_aload_n (M := mX9_tonight) (pc := 32) 33 dX9_tonight_32 rfl rfl rfl ?_
      refine g_aload_n (M := mX9_tonight) (pc := 33) 34 dX9_tonight_33 rfl rfl rfl ?_
      refine g_getR (M := mX9_tonight) (pc := 34) 37 dX9_tonight_34 rfl fX9_37 oR16_5 ?_
      refine g_aload_n (M := mX9_tonight) (pc := 37) 38 dX9_tonight_37 rfl rfl rfl ?_
      refine g_getR (M := mX9_tonight) (pc := 38) 41 dX9_tonight_38 rfl fX9_16 oR16_1 ?_
      refine g_iload_n (M := mX9_tonight) (pc := 41) 42 dX9_tonight_41 rfl rfl rfl ?_
      refine g_cV_IH (M := mX9_tonight) (pc := 42) (M' := mX4_worthLearning) (rest := [aR 3 16]) 45 dX9_tonight_42 rfl kX9_241 okX4_worthLearning (CX4_worthLearning 0 (by decide) a1 h L) oO24 rfl rfl rfl rfl (fun r3 h4 => ?_)
      refine g_cV_IH (M := mX9_tonight) (pc := 45) (M' := mX9_orNone) (rest := []) 48 dX9_tonight_45 rfl kX9_152 okX9_orNone (CX9_orNone r3 h4 L) oO16 rfl rfl rfl rfl (fun r5 h6 => ?_)
      exact g_iret (M := mX9_tonight) (pc := 48) dX9_tonight_48 rfl rfl (fun z => z)
    · refine g_aload_n (M := mX9_tonight) (pc := 25) 26 dX9_tonight_25 rfl rfl rfl ?_
      refine g_ldc (M := mX9_tonight) (pc := 26) 28 dX9_tonight_26 rfl cX9_209 ?_
      refine g_cV_IH (M := mX9_tonight) (pc := 28) (M' := mX9_tell) (rest := []) 31 dX9_tonight_28 rfl kX9_60 okX9_tell (CX9_tell (-1000000005) h L) oO16 rfl rfl rfl rfl (fun r7 h8 => ?_)
      exact g_iret (M := mX9_tonight) (pc := 31) dX9_tonight_31 rfl rfl (fun z => z)
  · refine g_aload_n (M := mX9_tonight) (pc := 10) 11 dX9_tonight_10 rfl rfl rfl ?_
    refine g_ldc (M := mX9_tonight) (pc := 11) 13 dX9_tonight_11 rfl cX9_59 ?_
    refine g_cV_IH (M := mX9_tonight) (pc := 13) (M' := mX9_tell) (rest := []) 16 dX9_tonight_13 rfl kX9_60 okX9_tell (CX9_tell (-1000000001) h L) oO16 rfl rfl rfl rfl (fun r9 h10 => ?_)
    exact g_iret (M := mX9_tonight) (pc := 16) dX9_tonight_16 rfl rfl (fun z => z)
def FX9_plan (a1 : Int32) (a2 : Int32) (a3 : Int32) (a4 : Int32) (h : HI) : Option (Int32 × HI) :=
  Option.bind (FX9_isSet a1 h) fun r1 =>
  if r1 = 0 then
    Option.bind (FX9_tell (-1000000001) h) fun (r2, h3) =>
    some (r2, h3)
  else
    Option.bind (FX9_within a2 0 600) fun r4 =>
    if r4 = 0 then
      Option.bind (FX9_tell (-1000000001) h) fun (r5, h6) =>
      some (r5, h6)
    else
      Option.bind (FX9_within a3 1 60) fun r7 =>
      if r7 = 0 then
        Option.bind (FX9_tell (-1000000001) h) fun (r8, h9) =>
        some (r8, h9)
      else
        Option.bind (FX9_within a4 (-1) 4) fun r10 =>
        if r10 = 0 then
          Option.bind (FX9_tell (-1000000001) h) fun (r24, h25) =>
          some (r24, h25)
        else
          Option.bind (FJ6_bitCount_0f7a4 a1) fun r11 =>
          if r11 ≤ 5 then
            Option.bind (FX9_mayGo a3 h) fun r12 =>
            if r12 = 0 then
              Option.bind (FX9_tell (-1000000005) h) fun (r20, h21) =>
              some (r20, h21)
            else
              if a4 < r11 then
                Option.bind (FX4_placeOfBestOrder 0 a1 a2 a3 h) fun (r13, h14) =>
                if 0 ≤ a4 then
                  Option.bind (FX3_arrange 2 a1 r13 h14) fun h15 =>
                  gd (ixb a4 12) <|
                  some ((h15 2 15 (nC a4)), h15)
                else
                  Option.bind (FX4_scoreByOrder 0 a1 r13 a2 a3 h14) fun (r16, h17) =>
                  some (r16, h17)
              else
                Option.bind (FX9_tell (-1000000004) h) fun (r18, h19) =>
                some (r18, h19)
          else
            Option.bind (FX9_tell (-1000000007) h) fun (r22, h23) =>
            some (r22, h23)
set_option maxRecDepth 100000 in
set_option maxHeartbeats 4000000 in
theorem CX9_plan (a1 : Int32) (a2 : Int32) (a3 : Int32) (a4 : Int32) (h : HI) (L : HL) : CG mX9_plan 7 [aR 3 16, aI a1, aI a2, aI a3, aI a4] h L (lfIH L) (FX9_plan a1 a2 a3 a4 h) := by
  unfold FX9_plan
  refine cg_of [some (aR 3 16), some (aI a1), some (aI a2), some (aI a3), some (aI a4), none, none, none] rfl (by decide) rfl rfl (fun T => ?_)
  refine g_aload_n (M := mX9_plan) (pc := 0) 1 dX9_plan_0 rfl rfl rfl ?_
  refine g_iload_n (M := mX9_plan) (pc := 1) 2 dX9_plan_1 rfl rfl rfl ?_
  refine g_cV_I (M := mX9_plan) (pc := 2) (M' := mX9_isSet) (rest := []) 5 dX9_plan_2 rfl kX9_128 okX9_isSet (CX9_isSet a1 h L) oO16 rfl rfl rfl rfl (fun r1 => ?_)
  refine g_if_eq (M := mX9_plan) (pc := 5) 39 8 dX9_plan_5 (by decide) rfl (fun _ => ?_) (fun _ => ?_)
  · refine g_aload_n (M := mX9_plan) (pc := 39) 40 dX9_plan_39 rfl rfl rfl ?_
    refine g_ldc (M := mX9_plan) (pc := 40) 42 dX9_plan_40 rfl cX9_59 ?_
    refine g_cV_IH (M := mX9_plan) (pc := 42) (M' := mX9_tell) (rest := []) 45 dX9_plan_42 rfl kX9_60 okX9_tell (CX9_tell (-1000000001) h L) oO16 rfl rfl rfl rfl (fun r2 h3 => ?_)
    exact g_iret (M := mX9_plan) (pc := 45) dX9_plan_45 rfl rfl (fun z => z)
  · refine g_iload_n (M := mX9_plan) (pc := 8) 9 dX9_plan_8 rfl rfl rfl ?_
    refine g_iconst (M := mX9_plan) (pc := 9) (v := 0) 10 dX9_plan_9 rfl ic0 ?_
    refine g_sipush (M := mX9_plan) (pc := 10) (v := 600) 13 dX9_plan_10 rfl sp600 ?_
    refine g_cS_I (M := mX9_plan) (pc := 13) (M' := mX9_within) (rest := []) 16 dX9_plan_13 rfl kX9_55 okX9_within (CX9_within a2 0 600 h L) rfl rfl rfl rfl (fun r4 => ?_)
    refine g_if_eq (M := mX9_plan) (pc := 16) 39 19 dX9_plan_16 (by decide) rfl (fun _ => ?_) (fun _ => ?_)
    · refine g_aload_n (M := mX9_plan) (pc := 39) 40 dX9_plan_39 rfl rfl rfl ?_
      refine g_ldc (M := mX9_plan) (pc := 40) 42 dX9_plan_40 rfl cX9_59 ?_
      refine g_cV_IH (M := mX9_plan) (pc := 42) (M' := mX9_tell) (rest := []) 45 dX9_plan_42 rfl kX9_60 okX9_tell (CX9_tell (-1000000001) h L) oO16 rfl rfl rfl rfl (fun r5 h6 => ?_)
      exact g_iret (M := mX9_plan) (pc := 45) dX9_plan_45 rfl rfl (fun z => z)
    · refine g_iload_n (M := mX9_plan) (pc := 19) 20 dX9_plan_19 rfl rfl rfl ?_
      refine g_iconst (M := mX9_plan) (pc := 20) (v := 1) 21 dX9_plan_20 rfl ic1 ?_
      refine g_bipush (M := mX9_plan) (pc := 21) (v := 60) 23 dX9_plan_21 rfl bp60 ?_
      refine g_cS_I (M := mX9_plan) (pc := 23) (M' := mX9_within) (rest := []) 26 dX9_plan_23 rfl kX9_55 okX9_within (CX9_within a3 1 60 h L) rfl rfl rfl rfl (fun r7 => ?_)
      refine g_if_eq (M := mX9_plan) (pc := 26) 39 29 dX9_plan_26 (by decide) rfl (fun _ => ?_) (fun _ => ?_)
      · refine g_aload_n (M := mX9_plan) (pc := 39) 40 dX9_plan_39 rfl rfl rfl ?_
        refine g_ldc (M := mX9_plan) (pc := 40) 42 dX9_plan_40 rfl cX9_59 ?_
        refine g_cV_IH (M := mX9_plan) (pc := 42) (M' := mX9_tell) (rest := []) 45 dX9_plan_42 rfl kX9_60 okX9_tell (CX9_tell (-1000000001) h L) oO16 rfl rfl rfl rfl (fun r8 h9 => ?_)
        exact g_iret (M := mX9_plan) (pc := 45) dX9_plan_45 rfl rfl (fun z => z)
      · refine g_iload (M := mX9_plan) (pc := 29) 31 dX9_plan_29 rfl rfl ?_
        refine g_iconst (M := mX9_plan) (pc := 31) (v := (-1)) 32 dX9_plan_31 rfl icm1 ?_
        refine g_iconst (M := mX9_plan) (pc := 32) (v := 4) 33 dX9_plan_32 rfl ic4 ?_
        refine g_cS_I (M := mX9_plan) (pc := 33) (M' := mX9_within) (rest := []) 36 dX9_plan_33 rfl kX9_55 okX9_within (CX9_within a4 (-1) 4 h L) rfl rfl rfl rfl (fun r10 => ?_)
        refine g_if_ne (M := mX9_plan) (pc := 36) 46 39 dX9_plan_36 (by decide) rfl (fun _ => ?_) (fun _ => ?_)
        · refine g_iload_n (M := mX9_plan) (pc := 46) 47 dX9_plan_46 rfl rfl rfl ?_
          refine g_cS_I (M := mX9_plan) (pc := 47) (M' := mJ6_bitCount_0f7a4) (rest := []) 50 dX9_plan_47 rfl kX9_244 okJ6_bitCount_0f7a4 (CJ6_bitCount_0f7a4 a1 h L) rfl rfl rfl rfl (fun r11 => ?_)
          refine g_istore (M := mX9_plan) (pc := 50) (ls' := [some (aR 3 16), some (aI a1), some (aI a2), some (aI a3), some (aI a4), some (aI r11), none, none]) 52 dX9_plan_50 rfl rfl rfl ?_
          refine g_iload (M := mX9_plan) (pc := 52) 54 dX9_plan_52 rfl rfl ?_
          refine g_iconst (M := mX9_plan) (pc := 54) (v := 5) 55 dX9_plan_54 rfl ic5 ?_
          refine g_icmp_le (M := mX9_plan) (pc := 55) 65 58 dX9_plan_55 (by decide) rfl (fun _ => ?_) (fun _ => ?_)
          · refine g_aload_n (M := mX9_plan) (pc := 65) 66 dX9_plan_65 rfl rfl rfl ?_
            refine g_iload_n (M := mX9_plan) (pc := 66) 67 dX9_plan_66 rfl rfl rfl ?_
            refine g_cV_I (M := mX9_plan) (pc := 67) (M' := mX9_mayGo) (rest := []) 70 dX9_plan_67 rfl kX9_206 okX9_mayGo (CX9_mayGo a3 h L) oO16 rfl rfl rfl rfl (fun r12 => ?_)
            refine g_if_ne (M := mX9_plan) (pc := 70) 80 73 dX9_plan_70 (by decide) rfl (fun _ => ?_) (fun _ => ?_)
            · refine g_iload (M := mX9_plan) (pc := 80) 82 dX9_plan_80 rfl rfl ?_
              refine g_iload (M := mX9_plan) (pc := 82) 84 dX9_plan_82 rfl rfl ?_
              refine g_icmp_lt (M := mX9_plan) (pc := 84) 94 87 dX9_plan_84 (by decide) rfl (fun _ => ?_) (fun _ => ?_)
              · refine g_aload_n (M := mX9_plan) (pc := 94) 95 dX9_plan_94 rfl rfl rfl ?_
                refine g_getR (M := mX9_plan) (pc := 95) 98 dX9_plan_95 rfl fX9_37 oR16_5 ?_
                refine g_aload_n (M := mX9_plan) (pc := 98) 99 dX9_plan_98 rfl rfl rfl ?_
                refine g_getR (M := mX9_plan) (pc := 99) 102 dX9_plan_99 rfl fX9_16 oR16_1 ?_
                refine g_iload_n (M := mX9_plan) (pc := 102) 103 dX9_plan_102 rfl rfl rfl ?_
                refine g_iload_n (M := mX9_plan) (pc := 103) 104 dX9_plan_103 rfl rfl rfl ?_
                refine g_iload_n (M := mX9_plan) (pc := 104) 105 dX9_plan_104 rfl rfl rfl ?_
                refine g_cV_IH (M := mX9_plan) (pc := 105) (M' := mX4_placeOfBestOrder) (rest := []) 108 dX9_plan_105 rfl kX9_251 okX4_placeOfBestOrder (CX4_placeOfBestOrder 0 (by decide) a1 a2 a3 h L) oO24 rfl rfl rfl rfl (fun r13 h14 => ?_)
                refine g_istore (M := mX9_plan) (pc := 108) (ls' := [some (aR 3 16), some (aI a1), some (aI a2), some (aI a3), some (aI a4), some (aI r11), some (aI r13), none]) 110 dX9_plan_108 rfl rfl rfl ?_
                refine g_iload (M := mX9_plan) (pc := 110) 112 dX9_plan_110 rfl rfl ?_
                refine g_if_ge (M := mX9_plan) (pc := 112) 132 115 dX9_plan_112 (by decide) rfl (fun _ => ?_) (fun _ => ?_)
                · refine g_aload_n (M := mX9_plan) (pc := 132) 133 dX9_plan_132 rfl rfl rfl ?_
                  refine g_getR (M := mX9_plan) (pc := 133) 136 dX9_plan_133 rfl fX9_37 oR16_5 ?_
                  refine g_getR (M := mX9_plan) (pc := 136) 139 dX9_plan_136 rfl fX9_226 oR24_0 ?_
                  refine g_getR (M := mX9_plan) (pc := 139) 142 dX9_plan_139 rfl fX9_173 (oR0_2 (by decide)) ?_
                  refine g_astore (M := mX9_plan) (pc := 142) (ls' := [some (aR 3 16), some (aI a1), some (aI a2), some (aI a3), some (aI a4), some (aI r11), some (aI r13), some (aR 2 14)]) 144 dX9_plan_142 rfl rfl rfl ?_
                  refine g_aload (M := mX9_plan) (pc := 144) 146 dX9_plan_144 rfl rfl ?_
                  refine g_iload_n (M := mX9_plan) (pc := 146) 147 dX9_plan_146 rfl rfl rfl ?_
                  refine g_iload (M := mX9_plan) (pc := 147) 149 dX9_plan_147 rfl rfl ?_
                  refine g_cV_VH (M := mX9_plan) (pc := 149) (M' := mX3_arrange) (rest := []) 152 dX9_plan_149 rfl kX9_259 okX3_arrange (CX3_arrange 2 (by decide) a1 r13 h14 L) (oO14 (by decide)) rfl rfl rfl rfl (fun h15 => ?_)
                  refine g_aload (M := mX9_plan) (pc := 152) 154 dX9_plan_152 rfl rfl ?_
                  refine g_getR (M := mX9_plan) (pc := 154) 157 dX9_plan_154 rfl fX9_190 (oR14_0 (by decide)) ?_
                  refine g_iload (M := mX9_plan) (pc := 157) 159 dX9_plan_157 rfl rfl ?_
                  refine g_iald (M := mX9_plan) (pc := 159) 160 dX9_plan_159 rfl (oA15 (by decide)) ?_
                  exact g_iret (M := mX9_plan) (pc := 160) dX9_plan_160 rfl rfl (fun z => z)
                · refine g_aload_n (M := mX9_plan) (pc := 115) 116 dX9_plan_115 rfl rfl rfl ?_
                  refine g_getR (M := mX9_plan) (pc := 116) 119 dX9_plan_116 rfl fX9_37 oR16_5 ?_
                  refine g_aload_n (M := mX9_plan) (pc := 119) 120 dX9_plan_119 rfl rfl rfl ?_
                  refine g_getR (M := mX9_plan) (pc := 120) 123 dX9_plan_120 rfl fX9_16 oR16_1 ?_
                  refine g_iload_n (M := mX9_plan) (pc := 123) 124 dX9_plan_123 rfl rfl rfl ?_
                  refine g_iload (M := mX9_plan) (pc := 124) 126 dX9_plan_124 rfl rfl ?_
                  refine g_iload_n (M := mX9_plan) (pc := 126) 127 dX9_plan_126 rfl rfl rfl ?_
                  refine g_iload_n (M := mX9_plan) (pc := 127) 128 dX9_plan_127 rfl rfl rfl ?_
                  refine g_cV_IH (M := mX9_plan) (pc := 128) (M' := mX4_scoreByOrder) (rest := []) 131 dX9_plan_128 rfl kX9_255 okX4_scoreByOrder (CX4_scoreByOrder 0 (by decide) a1 r13 a2 a3 h14 L) oO24 rfl rfl rfl rfl (fun r16 h17 => ?_)
                  exact g_iret (M := mX9_plan) (pc := 131) dX9_plan_131 rfl rfl (fun z => z)
              · refine g_aload_n (M := mX9_plan) (pc := 87) 88 dX9_plan_87 rfl rfl rfl ?_
                refine g_ldc (M := mX9_plan) (pc := 88) 90 dX9_plan_88 rfl cX9_250 ?_
                refine g_cV_IH (M := mX9_plan) (pc := 90) (M' := mX9_tell) (rest := []) 93 dX9_plan_90 rfl kX9_60 okX9_tell (CX9_tell (-1000000004) h L) oO16 rfl rfl rfl rfl (fun r18 h19 => ?_)
                exact g_iret (M := mX9_plan) (pc := 93) dX9_plan_93 rfl rfl (fun z => z)
            · refine g_aload_n (M := mX9_plan) (pc := 73) 74 dX9_plan_73 rfl rfl rfl ?_
              refine g_ldc (M := mX9_plan) (pc := 74) 76 dX9_plan_74 rfl cX9_209 ?_
              refine g_cV_IH (M := mX9_plan) (pc := 76) (M' := mX9_tell) (rest := []) 79 dX9_plan_76 rfl kX9_60 okX9_tell (CX9_tell (-1000000005) h L) oO16 rfl rfl rfl rfl (fun r20 h21 => ?_)
              exact g_iret (M := mX9_plan) (pc := 79) dX9_plan_79 rfl rfl (fun z => z)
          · refine g_aload_n (M := mX9_plan) (pc := 58) 59 dX9_plan_58 rfl rfl rfl ?_
            refine g_ldc (M := mX9_plan) (pc := 59) 61 dX9_plan_59 rfl cX9_249 ?_
            refine g_cV_IH (M := mX9_plan) (pc := 61) (M' := mX9_tell) (rest := []) 64 dX9_plan_61 rfl kX9_60 okX9_tell (CX9_tell (-1000000007) h L) oO16 rfl rfl rfl rfl (fun r22 h23 => ?_)
            exact g_iret (M := mX9_plan) (pc := 64) dX9_plan_64 rfl rfl (fun z => z)
        · refine g_aload_n (M := mX9_plan) (pc := 39) 40 dX9_plan_39 rfl rfl rfl ?_
          refine g_ldc (M := mX9_plan) (pc := 40) 42 dX9_plan_40 rfl cX9_59 ?_
          refine g_cV_IH (M := mX9_plan) (pc := 42) (M' := mX9_tell) (rest := []) 45 dX9_plan_42 rfl kX9_60 okX9_tell (CX9_tell (-1000000001) h L) oO16 rfl rfl rfl rfl (fun r24 h25 => ?_)
          exact g_iret (M := mX9_plan) (pc := 45) dX9_plan_45 rfl rfl (fun z => z)
def SX9_feed_44 (a1 : Int32) : (Int32 × HI) → Option ((Int32 × HI) ⊕ (HI))
  | (a4, h) =>
    if a4 < 0 then
      some (Sum.inr h)
    else
      Option.bind (FX7_append (((Int32.toUInt32 a1 >>> (Int32.toUInt32 (8 * a4) &&& Int32.toUInt32 31)).toInt32) &&& 255) h) fun h4 =>
      some (Sum.inl ((a4 + (-1)), h4))
def FX9_feed (a1 : Int32) (a2 : Int32) (h : HI) : Option (Int32 × HI) :=
  Option.bind (FX9_within a2 1 4) fun r1 =>
  if r1 = 0 then
    Option.bind (FX9_tell (-1000000001) h) fun (r8, h9) =>
    some (r8, h9)
  else
    Option.bind (FX7_hasRoom a2 h) fun r2 =>
    if r2 = 0 then
      Option.bind (FX9_tell (-1000000002) h) fun (r6, h7) =>
      some (r6, h7)
    else
      nm (a2 - 1) fun t3 =>
      Option.bind (loopN (SX9_feed_44 a1) FU (t3, h)) fun h5 =>
        some ((h5 5 26 1), h5)
set_option maxRecDepth 100000 in
set_option maxHeartbeats 4000000 in
theorem SX9_feed_44_ok (a1 : Int32) (L : HL) (T : ZT) (a4 : Int32) (h : HI) : VX mX9_feed 1 T (gS (fun s : Int32 × HI => V mX9_feed 1 T 44 [none, some (aI a1), none, some (aR 5 26), some (aI (s.1))] [] (s.2) L) (fun s : HI => V mX9_feed 1 T 70 [none, none, none, some (aR 5 26), none] [] s L)) 44 [none, some (aI a1), none, some (aR 5 26), some (aI a4)] [] h L (SX9_feed_44 a1 (a4, h)) := by
  unfold SX9_feed_44
  refine g_iload (M := mX9_feed) (pc := 44) 46 dX9_feed_44 rfl rfl ?_
  refine g_if_lt (M := mX9_feed) (pc := 46) 70 49 dX9_feed_46 (by decide) rfl (fun _ => ?_) (fun _ => ?_)
  · exact g_jmp (fun z => v_fgt [false, false, false, true, false] z)
  · refine g_aload_n (M := mX9_feed) (pc := 49) 50 dX9_feed_49 rfl rfl rfl ?_
    refine g_iload_n (M := mX9_feed) (pc := 50) 51 dX9_feed_50 rfl rfl rfl ?_
    refine g_bipush (M := mX9_feed) (pc := 51) (v := 8) 53 dX9_feed_51 rfl bp8 ?_
    refine g_iload (M := mX9_feed) (pc := 53) 55 dX9_feed_53 rfl rfl ?_
    refine g_imul (M := mX9_feed) (pc := 55) 56 dX9_feed_55 rfl ?_
    refine g_iushr (M := mX9_feed) (pc := 56) 57 dX9_feed_56 rfl ?_
    refine g_sipush (M := mX9_feed) (pc := 57) (v := 255) 60 dX9_feed_57 rfl sp255 ?_
    refine g_iand (M := mX9_feed) (pc := 60) 61 dX9_feed_60 rfl ?_
    refine g_cV_VH (M := mX9_feed) (pc := 61) (M' := mX7_append) (rest := []) 64 dX9_feed_61 rfl kX9_271 okX7_append (CX7_append (((Int32.toUInt32 a1 >>> (Int32.toUInt32 (8 * a4) &&& Int32.toUInt32 31)).toInt32) &&& 255) h L) oO26 rfl rfl rfl rfl (fun h4 => ?_)
    refine g_iinc (M := mX9_feed) (pc := 64) (c := (-1)) (ls' := [none, some (aI a1), none, some (aR 5 26), some (aI (a4 + (-1)))]) 67 dX9_feed_64 rfl icm1 rfl rfl rfl ?_
    refine g_goto (M := mX9_feed) (pc := 67) 44 dX9_feed_67 (by decide) ?_
    exact g_jmp (fun z => v_fgt [false, true, false, true, true] z)
set_option maxRecDepth 100000 in
set_option maxHeartbeats 4000000 in
theorem CX9_feed (a1 : Int32) (a2 : Int32) (h : HI) (L : HL) : CG mX9_feed 1 [aR 3 16, aI a1, aI a2] h L (lfIH L) (FX9_feed a1 a2 h) := by
  unfold FX9_feed
  refine cg_of [some (aR 3 16), some (aI a1), some (aI a2), none, none] rfl (by decide) rfl rfl (fun T => ?_)
  refine g_iload_n (M := mX9_feed) (pc := 0) 1 dX9_feed_0 rfl rfl rfl ?_
  refine g_iconst (M := mX9_feed) (pc := 1) (v := 1) 2 dX9_feed_1 rfl ic1 ?_
  refine g_iconst (M := mX9_feed) (pc := 2) (v := 4) 3 dX9_feed_2 rfl ic4 ?_
  refine g_cS_I (M := mX9_feed) (pc := 3) (M' := mX9_within) (rest := []) 6 dX9_feed_3 rfl kX9_55 okX9_within (CX9_within a2 1 4 h L) rfl rfl rfl rfl (fun r1 => ?_)
  refine g_if_ne (M := mX9_feed) (pc := 6) 16 9 dX9_feed_6 (by decide) rfl (fun _ => ?_) (fun _ => ?_)
  · refine g_aload_n (M := mX9_feed) (pc := 16) 17 dX9_feed_16 rfl rfl rfl ?_
    refine g_getR (M := mX9_feed) (pc := 17) 20 dX9_feed_17 rfl fX9_44 oR16_6 ?_
    refine g_getR (M := mX9_feed) (pc := 20) 23 dX9_feed_20 rfl fX9_262 oR25_0 ?_
    refine g_astore_n (M := mX9_feed) (pc := 23) (ls' := [some (aR 3 16), some (aI a1), some (aI a2), some (aR 5 26), none]) 24 dX9_feed_23 rfl rfl rfl rfl ?_
    refine g_aload_n (M := mX9_feed) (pc := 24) 25 dX9_feed_24 rfl rfl rfl ?_
    refine g_iload_n (M := mX9_feed) (pc := 25) 26 dX9_feed_25 rfl rfl rfl ?_
    refine g_cV_I (M := mX9_feed) (pc := 26) (M' := mX7_hasRoom) (rest := []) 29 dX9_feed_26 rfl kX9_266 okX7_hasRoom (CX7_hasRoom a2 h L) oO26 rfl rfl rfl rfl (fun r2 => ?_)
    refine g_if_ne (M := mX9_feed) (pc := 29) 39 32 dX9_feed_29 (by decide) rfl (fun _ => ?_) (fun _ => ?_)
    · refine g_iload_n (M := mX9_feed) (pc := 39) 40 dX9_feed_39 rfl rfl rfl ?_
      refine g_iconst (M := mX9_feed) (pc := 40) (v := 1) 41 dX9_feed_40 rfl ic1 ?_
      refine g_isub (M := mX9_feed) (pc := 41) 42 dX9_feed_41 rfl ?_
      refine g_nmI (fun t3 => ?_)
      refine g_istore (M := mX9_feed) (pc := 42) (ls' := [some (aR 3 16), some (aI a1), some (aI a2), some (aR 5 26), some (aI t3)]) 44 dX9_feed_42 rfl rfl rfl ?_
      refine g_loop (fun s => SX9_feed_44_ok a1 L T s.1 s.2) ?_ (fun z => v_fgt [false, true, false, true, true] z)
      intro h5
      show VX mX9_feed 1 T _ 70 [none, none, none, some (aR 5 26), none] [] h5 L _
      refine g_aload_n (M := mX9_feed) (pc := 70) 71 dX9_feed_70 rfl rfl rfl ?_
      refine g_getI (M := mX9_feed) (pc := 71) 74 dX9_feed_71 rfl fX9_272 oF26_1 ?_
      exact g_iret (M := mX9_feed) (pc := 74) dX9_feed_74 rfl rfl (fun z => z)
    · refine g_aload_n (M := mX9_feed) (pc := 32) 33 dX9_feed_32 rfl rfl rfl ?_
      refine g_ldc (M := mX9_feed) (pc := 33) 35 dX9_feed_33 rfl cX9_74 ?_
      refine g_cV_IH (M := mX9_feed) (pc := 35) (M' := mX9_tell) (rest := []) 38 dX9_feed_35 rfl kX9_60 okX9_tell (CX9_tell (-1000000002) h L) oO16 rfl rfl rfl rfl (fun r6 h7 => ?_)
      exact g_iret (M := mX9_feed) (pc := 38) dX9_feed_38 rfl rfl (fun z => z)
  · refine g_aload_n (M := mX9_feed) (pc := 9) 10 dX9_feed_9 rfl rfl rfl ?_
    refine g_ldc (M := mX9_feed) (pc := 10) 12 dX9_feed_10 rfl cX9_59 ?_
    refine g_cV_IH (M := mX9_feed) (pc := 12) (M' := mX9_tell) (rest := []) 15 dX9_feed_12 rfl kX9_60 okX9_tell (CX9_tell (-1000000001) h L) oO16 rfl rfl rfl rfl (fun r8 h9 => ?_)
    exact g_iret (M := mX9_feed) (pc := 15) dX9_feed_15 rfl rfl (fun z => z)
def FX9_wipe (h : HI) : Option (Int32 × HI) :=
  Option.bind (FX7_clear h) fun (r1, h2) =>
  some (r1, h2)
set_option maxRecDepth 100000 in
set_option maxHeartbeats 4000000 in
theorem CX9_wipe (h : HI) (L : HL) : CG mX9_wipe 1 [aR 3 16] h L (lfIH L) (FX9_wipe h) := by
  unfold FX9_wipe
  refine cg_of [some (aR 3 16)] rfl (by decide) rfl rfl (fun T => ?_)
  refine g_aload_n (M := mX9_wipe) (pc := 0) 1 dX9_wipe_0 rfl rfl rfl ?_
  refine g_getR (M := mX9_wipe) (pc := 1) 4 dX9_wipe_1 rfl fX9_44 oR16_6 ?_
  refine g_getR (M := mX9_wipe) (pc := 4) 7 dX9_wipe_4 rfl fX9_262 oR25_0 ?_
  refine g_cV_IH (M := mX9_wipe) (pc := 7) (M' := mX7_clear) (rest := []) 10 dX9_wipe_7 rfl kX9_275 okX7_clear (CX7_clear h L) oO26 rfl rfl rfl rfl (fun r1 h2 => ?_)
  exact g_iret (M := mX9_wipe) (pc := 10) dX9_wipe_10 rfl rfl (fun z => z)
def FX9_book (h : HI) : Option (Int32 × HI) :=
  Option.bind (FX0_takeFrom 2 0 h) fun h1 =>
  Option.bind (FX2_readBook 2 h1) fun (r2, h3) =>
  if r2 < 0 then
    Option.bind (FX7_clear h3) fun (r4, h5) =>
    some (r2, h5)
  else
    Option.bind (FX0_takeFrom 0 2 h3) fun h6 =>
    Option.bind (FX7_clear h6) fun (r7, h8) =>
    some (r2, h8)
set_option maxRecDepth 100000 in
set_option maxHeartbeats 4000000 in
theorem CX9_book (h : HI) (L : HL) : CG mX9_book 10 [aR 3 16] h L (lfIH L) (FX9_book h) := by
  unfold FX9_book
  refine cg_of [some (aR 3 16), none, none] rfl (by decide) rfl rfl (fun T => ?_)
  refine g_aload_n (M := mX9_book) (pc := 0) 1 dX9_book_0 rfl rfl rfl ?_
  refine g_getR (M := mX9_book) (pc := 1) 4 dX9_book_1 rfl fX9_37 oR16_5 ?_
  refine g_getR (M := mX9_book) (pc := 4) 7 dX9_book_4 rfl fX9_226 oR24_0 ?_
  refine g_astore_n (M := mX9_book) (pc := 7) (ls' := [some (aR 3 16), some (aR 2 0), none]) 8 dX9_book_7 rfl rfl rfl rfl ?_
  refine g_aload_n (M := mX9_book) (pc := 8) 9 dX9_book_8 rfl rfl rfl ?_
  refine g_aload_n (M := mX9_book) (pc := 9) 10 dX9_book_9 rfl rfl rfl ?_
  refine g_getR (M := mX9_book) (pc := 10) 13 dX9_book_10 rfl fX9_16 oR16_1 ?_
  refine g_cV_VH (M := mX9_book) (pc := 13) (M' := mX0_takeFrom) (rest := []) 16 dX9_book_13 rfl kX9_278 okX0_takeFrom (CX0_takeFrom 2 0 (by decide) (by decide) h L) (oO0 (by decide)) rfl rfl rfl rfl (fun h1 => ?_)
  refine g_aload_n (M := mX9_book) (pc := 16) 17 dX9_book_16 rfl rfl rfl ?_
  refine g_getR (M := mX9_book) (pc := 17) 20 dX9_book_17 rfl fX9_44 oR16_6 ?_
  refine g_aload_n (M := mX9_book) (pc := 20) 21 dX9_book_20 rfl rfl rfl ?_
  refine g_cV_IH (M := mX9_book) (pc := 21) (M' := mX2_readBook) (rest := []) 24 dX9_book_21 rfl kX9_281 okX2_readBook (CX2_readBook 2 (by decide) h1 L) oO25 rfl rfl rfl rfl (fun r2 h3 => ?_)
  refine g_istore_n (M := mX9_book) (pc := 24) (ls' := [some (aR 3 16), some (aR 2 0), some (aI r2)]) 25 dX9_book_24 rfl rfl rfl rfl ?_
  refine g_iload_n (M := mX9_book) (pc := 25) 26 dX9_book_25 rfl rfl rfl ?_
  refine g_if_lt (M := mX9_book) (pc := 26) 37 29 dX9_book_26 (by decide) rfl (fun _ => ?_) (fun _ => ?_)
  · refine g_aload_n (M := mX9_book) (pc := 37) 38 dX9_book_37 rfl rfl rfl ?_
    refine g_getR (M := mX9_book) (pc := 38) 41 dX9_book_38 rfl fX9_44 oR16_6 ?_
    refine g_getR (M := mX9_book) (pc := 41) 44 dX9_book_41 rfl fX9_262 oR25_0 ?_
    refine g_cV_IH (M := mX9_book) (pc := 44) (M' := mX7_clear) (rest := []) 47 dX9_book_44 rfl kX9_275 okX7_clear (CX7_clear h3 L) oO26 rfl rfl rfl rfl (fun r4 h5 => ?_)
    refine g_pop (M := mX9_book) (pc := 47) 48 dX9_book_47 rfl rfl ?_
    refine g_iload_n (M := mX9_book) (pc := 48) 49 dX9_book_48 rfl rfl rfl ?_
    exact g_iret (M := mX9_book) (pc := 49) dX9_book_49 rfl rfl (fun z => z)
  · refine g_aload_n (M := mX9_book) (pc := 29) 30 dX9_book_29 rfl rfl rfl ?_
    refine g_getR (M := mX9_book) (pc := 30) 33 dX9_book_30 rfl fX9_16 oR16_1 ?_
    refine g_aload_n (M := mX9_book) (pc := 33) 34 dX9_book_33 rfl rfl rfl ?_
    refine g_cV_VH (M := mX9_book) (pc := 34) (M' := mX0_takeFrom) (rest := []) 37 dX9_book_34 rfl kX9_278 okX0_takeFrom (CX0_takeFrom 0 2 (by decide) (by decide) h3 L) (oO0 (by decide)) rfl rfl rfl rfl (fun h6 => ?_)
    refine g_aload_n (M := mX9_book) (pc := 37) 38 dX9_book_37 rfl rfl rfl ?_
    refine g_getR (M := mX9_book) (pc := 38) 41 dX9_book_38 rfl fX9_44 oR16_6 ?_
    refine g_getR (M := mX9_book) (pc := 41) 44 dX9_book_41 rfl fX9_262 oR25_0 ?_
    refine g_cV_IH (M := mX9_book) (pc := 44) (M' := mX7_clear) (rest := []) 47 dX9_book_44 rfl kX9_275 okX7_clear (CX7_clear h6 L) oO26 rfl rfl rfl rfl (fun r7 h8 => ?_)
    refine g_pop (M := mX9_book) (pc := 47) 48 dX9_book_47 rfl rfl ?_
    refine g_iload_n (M := mX9_book) (pc := 48) 49 dX9_book_48 rfl rfl rfl ?_
    exact g_iret (M := mX9_book) (pc := 49) dX9_book_49 rfl rfl (fun z => z)
def JX9_sheet_40 (a1 : Int32) (a2 : Int32) (a3 : Int32) (h : HI) (L : HL) : Option (Int32 × HI × HL) :=
  if 0 ≤ a3 then
    if a3 ≤ 40 then
      Option.bind (FX6_lay a1 a2 a3 h L) fun (r4, h5, L6) =>
      some (r4, h5, L6)
    else
      Option.bind (FX9_tell (-1000000001) h) fun (r7, h8) =>
      some (r7, h8, L)
  else
    Option.bind (FX9_tell (-1000000007) h) fun (r9, h10) =>
    some (r9, h10, L)
def FX9_sheet (a1 : Int32) (a2 : Int32) (a3 : Int32) (h : HI) (L : HL) : Option (Int32 × HI × HL) :=
  Option.bind (FX6_isSheet a1) fun r1 =>
  if r1 = 0 then
    Option.bind (FX9_tell (-1000000001) h) fun (r2, h3) =>
    some (r2, h3, L)
  else
    if a2 = 0 then
      JX9_sheet_40 a1 a2 a3 h L
    else
      if a2 = 8 then
        JX9_sheet_40 a1 a2 a3 h L
      else
        if a2 = 16 then
          JX9_sheet_40 a1 a2 a3 h L
        else
          if a2 = 64 then
            JX9_sheet_40 a1 a2 a3 h L
          else
            Option.bind (FX9_tell (-1000000001) h) fun (r11, h12) =>
            some (r11, h12, L)
set_option maxRecDepth 100000 in
set_option maxHeartbeats 4000000 in
theorem JX9_sheet_40_ok (a1 : Int32) (a2 : Int32) (a3 : Int32) (T : ZT) (h : HI) (L : HL) : VX mX9_sheet 1 T (fun r => Zl (lfIHL) r = T) 40 [some (aR 3 16), some (aI a1), some (aI a2), some (aI a3)] [] h L (JX9_sheet_40 a1 a2 a3 h L) := by
  unfold JX9_sheet_40
  refine g_iload_n (M := mX9_sheet) (pc := 40) 41 dX9_sheet_40 rfl rfl rfl ?_
  refine g_if_ge (M := mX9_sheet) (pc := 41) 51 44 dX9_sheet_41 (by decide) rfl (fun _ => ?_) (fun _ => ?_)
  · refine g_iload_n (M := mX9_sheet) (pc := 51) 52 dX9_sheet_51 rfl rfl rfl ?_
    refine g_bipush (M := mX9_sheet) (pc := 52) (v := 40) 54 dX9_sheet_52 rfl bp40 ?_
    refine g_icmp_le (M := mX9_sheet) (pc := 54) 64 57 dX9_sheet_54 (by decide) rfl (fun _ => ?_) (fun _ => ?_)
    · refine g_aload_n (M := mX9_sheet) (pc := 64) 65 dX9_sheet_64 rfl rfl rfl ?_
      refine g_getR (M := mX9_sheet) (pc := 65) 68 dX9_sheet_65 rfl fX9_51 oR16_7 ?_
      refine g_iload_n (M := mX9_sheet) (pc := 68) 69 dX9_sheet_68 rfl rfl rfl ?_
      refine g_iload_n (M := mX9_sheet) (pc := 69) 70 dX9_sheet_69 rfl rfl rfl ?_
      refine g_iload_n (M := mX9_sheet) (pc := 70) 71 dX9_sheet_70 rfl rfl rfl ?_
      refine g_cV_IHL (M := mX9_sheet) (pc := 71) (M' := mX6_lay) (rest := []) 74 dX9_sheet_71 rfl kX9_288 okX6_lay (CX6_lay a1 a2 a3 h L) oO28 rfl rfl rfl rfl (fun r4 h5 L6 => ?_)
      exact g_iret (M := mX9_sheet) (pc := 74) dX9_sheet_74 rfl rfl (fun z => z)
    · refine g_aload_n (M := mX9_sheet) (pc := 57) 58 dX9_sheet_57 rfl rfl rfl ?_
      refine g_ldc (M := mX9_sheet) (pc := 58) 60 dX9_sheet_58 rfl cX9_59 ?_
      refine g_cV_IH (M := mX9_sheet) (pc := 60) (M' := mX9_tell) (rest := []) 63 dX9_sheet_60 rfl kX9_60 okX9_tell (CX9_tell (-1000000001) h L) oO16 rfl rfl rfl rfl (fun r7 h8 => ?_)
      exact g_iret (M := mX9_sheet) (pc := 63) dX9_sheet_63 rfl rfl (fun z => z)
  · refine g_aload_n (M := mX9_sheet) (pc := 44) 45 dX9_sheet_44 rfl rfl rfl ?_
    refine g_ldc (M := mX9_sheet) (pc := 45) 47 dX9_sheet_45 rfl cX9_249 ?_
    refine g_cV_IH (M := mX9_sheet) (pc := 47) (M' := mX9_tell) (rest := []) 50 dX9_sheet_47 rfl kX9_60 okX9_tell (CX9_tell (-1000000007) h L) oO16 rfl rfl rfl rfl (fun r9 h10 => ?_)
    exact g_iret (M := mX9_sheet) (pc := 50) dX9_sheet_50 rfl rfl (fun z => z)
set_option maxRecDepth 100000 in
set_option maxHeartbeats 4000000 in
theorem CX9_sheet (a1 : Int32) (a2 : Int32) (a3 : Int32) (h : HI) (L : HL) : CG mX9_sheet 1 [aR 3 16, aI a1, aI a2, aI a3] h L (lfIHL) (FX9_sheet a1 a2 a3 h L) := by
  unfold FX9_sheet
  refine cg_of [some (aR 3 16), some (aI a1), some (aI a2), some (aI a3)] rfl (by decide) rfl rfl (fun T => ?_)
  refine g_aload_n (M := mX9_sheet) (pc := 0) 1 dX9_sheet_0 rfl rfl rfl ?_
  refine g_getR (M := mX9_sheet) (pc := 1) 4 dX9_sheet_1 rfl fX9_51 oR16_7 ?_
  refine g_iload_n (M := mX9_sheet) (pc := 4) 5 dX9_sheet_4 rfl rfl rfl ?_
  refine g_cV_I (M := mX9_sheet) (pc := 5) (M' := mX6_isSheet) (rest := []) 8 dX9_sheet_5 rfl kX9_285 okX6_isSheet (CX6_isSheet a1 h L) oO28 rfl rfl rfl rfl (fun r1 => ?_)
  refine g_if_eq (M := mX9_sheet) (pc := 8) 33 11 dX9_sheet_8 (by decide) rfl (fun _ => ?_) (fun _ => ?_)
  · refine g_aload_n (M := mX9_sheet) (pc := 33) 34 dX9_sheet_33 rfl rfl rfl ?_
    refine g_ldc (M := mX9_sheet) (pc := 34) 36 dX9_sheet_34 rfl cX9_59 ?_
    refine g_cV_IH (M := mX9_sheet) (pc := 36) (M' := mX9_tell) (rest := []) 39 dX9_sheet_36 rfl kX9_60 okX9_tell (CX9_tell (-1000000001) h L) oO16 rfl rfl rfl rfl (fun r2 h3 => ?_)
    exact g_iret (M := mX9_sheet) (pc := 39) dX9_sheet_39 rfl rfl (fun z => z)
  · refine g_iload_n (M := mX9_sheet) (pc := 11) 12 dX9_sheet_11 rfl rfl rfl ?_
    refine g_if_eq (M := mX9_sheet) (pc := 12) 40 15 dX9_sheet_12 (by decide) rfl (fun _ => ?_) (fun _ => ?_)
    · exact g_fgt [true, true, true, true] (JX9_sheet_40_ok a1 a2 a3 T h L)
    · refine g_iload_n (M := mX9_sheet) (pc := 15) 16 dX9_sheet_15 rfl rfl rfl ?_
      refine g_bipush (M := mX9_sheet) (pc := 16) (v := 8) 18 dX9_sheet_16 rfl bp8 ?_
      refine g_icmp_eq (M := mX9_sheet) (pc := 18) 40 21 dX9_sheet_18 (by decide) rfl (fun _ => ?_) (fun _ => ?_)
      · exact g_fgt [true, true, true, true] (JX9_sheet_40_ok a1 a2 a3 T h L)
      · refine g_iload_n (M := mX9_sheet) (pc := 21) 22 dX9_sheet_21 rfl rfl rfl ?_
        refine g_bipush (M := mX9_sheet) (pc := 22) (v := 16) 24 dX9_sheet_22 rfl bp16 ?_
        refine g_icmp_eq (M := mX9_sheet) (pc := 24) 40 27 dX9_sheet_24 (by decide) rfl (fun _ => ?_) (fun _ => ?_)
        · exact g_fgt [true, true, true, true] (JX9_sheet_40_ok a1 a2 a3 T h L)
        · refine g_iload_n (M := mX9_sheet) (pc := 27) 28 dX9_sheet_27 rfl rfl rfl ?_
          refine g_bipush (M := mX9_sheet) (pc := 28) (v := 64) 30 dX9_sheet_28 rfl bp64 ?_
          refine g_icmp_eq (M := mX9_sheet) (pc := 30) 40 33 dX9_sheet_30 (by decide) rfl (fun _ => ?_) (fun _ => ?_)
          · exact g_fgt [true, true, true, true] (JX9_sheet_40_ok a1 a2 a3 T h L)
          · refine g_aload_n (M := mX9_sheet) (pc := 33) 34 dX9_sheet_33 rfl rfl rfl ?_
            refine g_ldc (M := mX9_sheet) (pc := 34) 36 dX9_sheet_34 rfl cX9_59 ?_
            refine g_cV_IH (M := mX9_sheet) (pc := 36) (M' := mX9_tell) (rest := []) 39 dX9_sheet_36 rfl kX9_60 okX9_tell (CX9_tell (-1000000001) h L) oO16 rfl rfl rfl rfl (fun r11 h12 => ?_)
            exact g_iret (M := mX9_sheet) (pc := 39) dX9_sheet_39 rfl rfl (fun z => z)
def FX9_write (a1 : Int32) (a2 : Int32) (a3 : Int64) (h : HI) (L : HL) : Option (Int64 × HI × HL) :=
  Option.bind (FX6_isSheet a1) fun r1 =>
  if r1 = 0 then
    Option.bind (FX9_tell (-1000000001) h) fun (r10, h11) =>
    some ((Int32.toInt64 r10), h11, L)
  else
    Option.bind (FX6_isMissing a1 h) fun r2 =>
    if r2 = 0 then
      Option.bind (FX6_hasNumbers a1 a2 1 h) fun r3 =>
      if r3 = 0 then
        Option.bind (FX9_tell (-1000000001) h) fun (r6, h7) =>
        some ((Int32.toInt64 r6), h7, L)
      else
        Option.bind (FX6_replace a1 a2 a3 h L) fun (r4, L5) =>
        some (r4, h, L5)
    else
      Option.bind (FX9_tell (-1000000006) h) fun (r8, h9) =>
      some ((Int32.toInt64 r8), h9, L)
set_option maxRecDepth 100000 in
set_option maxHeartbeats 4000000 in
theorem CX9_write (a1 : Int32) (a2 : Int32) (a3 : Int64) (h : HI) (L : HL) : CG mX9_write 2 [aR 3 16, aI a1, aI a2, aL a3] h L (lfJHL) (FX9_write a1 a2 a3 h L) := by
  unfold FX9_write
  refine cg_of [some (aR 3 16), some (aI a1), some (aI a2), some (aL a3), none] rfl (by decide) rfl rfl (fun T => ?_)
  refine g_aload_n (M := mX9_write) (pc := 0) 1 dX9_write_0 rfl rfl rfl ?_
  refine g_getR (M := mX9_write) (pc := 1) 4 dX9_write_1 rfl fX9_51 oR16_7 ?_
  refine g_iload_n (M := mX9_write) (pc := 4) 5 dX9_write_4 rfl rfl rfl ?_
  refine g_cV_I (M := mX9_write) (pc := 5) (M' := mX6_isSheet) (rest := []) 8 dX9_write_5 rfl kX9_285 okX6_isSheet (CX6_isSheet a1 h L) oO28 rfl rfl rfl rfl (fun r1 => ?_)
  refine g_if_ne (M := mX9_write) (pc := 8) 19 11 dX9_write_8 (by decide) rfl (fun _ => ?_) (fun _ => ?_)
  · refine g_aload_n (M := mX9_write) (pc := 19) 20 dX9_write_19 rfl rfl rfl ?_
    refine g_getR (M := mX9_write) (pc := 20) 23 dX9_write_20 rfl fX9_51 oR16_7 ?_
    refine g_iload_n (M := mX9_write) (pc := 23) 24 dX9_write_23 rfl rfl rfl ?_
    refine g_cV_I (M := mX9_write) (pc := 24) (M' := mX6_isMissing) (rest := []) 27 dX9_write_24 rfl kX9_291 okX6_isMissing (CX6_isMissing a1 h L) oO28 rfl rfl rfl rfl (fun r2 => ?_)
    refine g_if_eq (M := mX9_write) (pc := 27) 39 30 dX9_write_27 (by decide) rfl (fun _ => ?_) (fun _ => ?_)
    · refine g_aload_n (M := mX9_write) (pc := 39) 40 dX9_write_39 rfl rfl rfl ?_
      refine g_getR (M := mX9_write) (pc := 40) 43 dX9_write_40 rfl fX9_51 oR16_7 ?_
      refine g_iload_n (M := mX9_write) (pc := 43) 44 dX9_write_43 rfl rfl rfl ?_
      refine g_iload_n (M := mX9_write) (pc := 44) 45 dX9_write_44 rfl rfl rfl ?_
      refine g_iconst (M := mX9_write) (pc := 45) (v := 1) 46 dX9_write_45 rfl ic1 ?_
      refine g_cV_I (M := mX9_write) (pc := 46) (M' := mX6_hasNumbers) (rest := []) 49 dX9_write_46 rfl kX9_295 okX6_hasNumbers (CX6_hasNumbers a1 a2 1 h L) oO28 rfl rfl rfl rfl (fun r3 => ?_)
      refine g_if_ne (M := mX9_write) (pc := 49) 60 52 dX9_write_49 (by decide) rfl (fun _ => ?_) (fun _ => ?_)
      · refine g_aload_n (M := mX9_write) (pc := 60) 61 dX9_write_60 rfl rfl rfl ?_
        refine g_getR (M := mX9_write) (pc := 61) 64 dX9_write_61 rfl fX9_51 oR16_7 ?_
        refine g_iload_n (M := mX9_write) (pc := 64) 65 dX9_write_64 rfl rfl rfl ?_
        refine g_iload_n (M := mX9_write) (pc := 65) 66 dX9_write_65 rfl rfl rfl ?_
        refine g_lload_n (M := mX9_write) (pc := 66) 67 dX9_write_66 rfl rfl rfl ?_
        refine g_cV_JL (M := mX9_write) (pc := 67) (M' := mX6_replace) (rest := []) 70 dX9_write_67 rfl kX9_298 okX6_replace (CX6_replace a1 a2 a3 h L) oO28 rfl rfl rfl rfl (fun r4 L5 => ?_)
        exact g_lret (M := mX9_write) (pc := 70) dX9_write_70 rfl (fun z => z)
      · refine g_aload_n (M := mX9_write) (pc := 52) 53 dX9_write_52 rfl rfl rfl ?_
        refine g_ldc (M := mX9_write) (pc := 53) 55 dX9_write_53 rfl cX9_59 ?_
        refine g_cV_IH (M := mX9_write) (pc := 55) (M' := mX9_tell) (rest := []) 58 dX9_write_55 rfl kX9_60 okX9_tell (CX9_tell (-1000000001) h L) oO16 rfl rfl rfl rfl (fun r6 h7 => ?_)
        refine g_i2l (M := mX9_write) (pc := 58) 59 dX9_write_58 rfl ?_
        exact g_lret (M := mX9_write) (pc := 59) dX9_write_59 rfl (fun z => z)
    · refine g_aload_n (M := mX9_write) (pc := 30) 31 dX9_write_30 rfl rfl rfl ?_
      refine g_ldcw (M := mX9_write) (pc := 31) 34 dX9_write_31 rfl cX9_294 ?_
      refine g_cV_IH (M := mX9_write) (pc := 34) (M' := mX9_tell) (rest := []) 37 dX9_write_34 rfl kX9_60 okX9_tell (CX9_tell (-1000000006) h L) oO16 rfl rfl rfl rfl (fun r8 h9 => ?_)
      refine g_i2l (M := mX9_write) (pc := 37) 38 dX9_write_37 rfl ?_
      exact g_lret (M := mX9_write) (pc := 38) dX9_write_38 rfl (fun z => z)
  · refine g_aload_n (M := mX9_write) (pc := 11) 12 dX9_write_11 rfl rfl rfl ?_
    refine g_ldc (M := mX9_write) (pc := 12) 14 dX9_write_12 rfl cX9_59 ?_
    refine g_cV_IH (M := mX9_write) (pc := 14) (M' := mX9_tell) (rest := []) 17 dX9_write_14 rfl kX9_60 okX9_tell (CX9_tell (-1000000001) h L) oO16 rfl rfl rfl rfl (fun r10 h11 => ?_)
    refine g_i2l (M := mX9_write) (pc := 17) 18 dX9_write_17 rfl ?_
    exact g_lret (M := mX9_write) (pc := 18) dX9_write_18 rfl (fun z => z)
def FX9_copy (a1 : Int32) (a2 : Int32) (a3 : Int32) (a4 : Int32) (a5 : Int32) (h : HI) (L : HL) : Option (Int32 × HI × HL) :=
  Option.bind (FX6_isSheet a1) fun r1 =>
  if r1 = 0 then
    Option.bind (FX9_tell (-1000000001) h) fun (r2, h3) =>
    some (r2, h3, L)
  else
    Option.bind (FX6_isSheet a3) fun r4 =>
    if r4 = 0 then
      Option.bind (FX9_tell (-1000000001) h) fun (r20, h21) =>
      some (r20, h21, L)
    else
      Option.bind (FX6_isMissing a1 h) fun r5 =>
      if r5 = 0 then
        Option.bind (FX6_isMissing a3 h) fun r8 =>
        if r8 = 0 then
          gd (ixb a1 4) <|
          gd (ixb a3 4) <|
          if (h 6 29 (nC a1)) = (h 6 29 (nC a3)) then
            Option.bind (FX6_hasNumbers a1 a2 a5 h) fun r9 =>
            if r9 = 0 then
              Option.bind (FX9_tell (-1000000001) h) fun (r10, h11) =>
              some (r10, h11, L)
            else
              Option.bind (FX6_hasNumbers a3 a4 a5 h) fun r12 =>
              if r12 = 0 then
                Option.bind (FX9_tell (-1000000001) h) fun (r14, h15) =>
                some (r14, h15, L)
              else
                Option.bind (FX6_move a1 a2 a3 a4 a5 L) fun L13 =>
                some (a5, h, L13)
          else
            Option.bind (FX9_tell (-1000000003) h) fun (r16, h17) =>
            some (r16, h17, L)
        else
          Option.bind (FX9_tell (-1000000006) h) fun (r18, h19) =>
          some (r18, h19, L)
      else
        Option.bind (FX9_tell (-1000000006) h) fun (r6, h7) =>
        some (r6, h7, L)
set_option maxRecDepth 100000 in
set_option maxHeartbeats 4000000 in
theorem CX9_copy (a1 : Int32) (a2 : Int32) (a3 : Int32) (a4 : Int32) (a5 : Int32) (h : HI) (L : HL) : CG mX9_copy 2 [aR 3 16, aI a1, aI a2, aI a3, aI a4, aI a5] h L (lfIHL) (FX9_copy a1 a2 a3 a4 a5 h L) := by
  unfold FX9_copy
  refine cg_of [some (aR 3 16), some (aI a1), some (aI a2), some (aI a3), some (aI a4), some (aI a5)] rfl (by decide) rfl rfl (fun T => ?_)
  refine g_aload_n (M := mX9_copy) (pc := 0) 1 dX9_copy_0 rfl rfl rfl ?_
  refine g_getR (M := mX9_copy) (pc := 1) 4 dX9_copy_1 rfl fX9_51 oR16_7 ?_
  refine g_iload_n (M := mX9_copy) (pc := 4) 5 dX9_copy_4 rfl rfl rfl ?_
  refine g_cV_I (M := mX9_copy) (pc := 5) (M' := mX6_isSheet) (rest := []) 8 dX9_copy_5 rfl kX9_285 okX6_isSheet (CX6_isSheet a1 h L) oO28 rfl rfl rfl rfl (fun r1 => ?_)
  refine g_if_eq (M := mX9_copy) (pc := 8) 22 11 dX9_copy_8 (by decide) rfl (fun _ => ?_) (fun _ => ?_)
  · refine g_aload_n (M := mX9_copy) (pc := 22) 23 dX9_copy_22 rfl rfl rfl ?_
    refine g_ldc (M := mX9_copy) (pc := 23) 25 dX9_copy_23 rfl cX9_59 ?_
    refine g_cV_IH (M := mX9_copy) (pc := 25) (M' := mX9_tell) (rest := []) 28 dX9_copy_25 rfl kX9_60 okX9_tell (CX9_tell (-1000000001) h L) oO16 rfl rfl rfl rfl (fun r2 h3 => ?_)
    exact g_iret (M := mX9_copy) (pc := 28) dX9_copy_28 rfl rfl (fun z => z)
  · refine g_aload_n (M := mX9_copy) (pc := 11) 12 dX9_copy_11 rfl rfl rfl ?_
    refine g_getR (M := mX9_copy) (pc := 12) 15 dX9_copy_12 rfl fX9_51 oR16_7 ?_
    refine g_iload_n (M := mX9_copy) (pc := 15) 16 dX9_copy_15 rfl rfl rfl ?_
    refine g_cV_I (M := mX9_copy) (pc := 16) (M' := mX6_isSheet) (rest := []) 19 dX9_copy_16 rfl kX9_285 okX6_isSheet (CX6_isSheet a3 h L) oO28 rfl rfl rfl rfl (fun r4 => ?_)
    refine g_if_ne (M := mX9_copy) (pc := 19) 29 22 dX9_copy_19 (by decide) rfl (fun _ => ?_) (fun _ => ?_)
    · refine g_aload_n (M := mX9_copy) (pc := 29) 30 dX9_copy_29 rfl rfl rfl ?_
      refine g_getR (M := mX9_copy) (pc := 30) 33 dX9_copy_30 rfl fX9_51 oR16_7 ?_
      refine g_iload_n (M := mX9_copy) (pc := 33) 34 dX9_copy_33 rfl rfl rfl ?_
      refine g_cV_I (M := mX9_copy) (pc := 34) (M' := mX6_isMissing) (rest := []) 37 dX9_copy_34 rfl kX9_291 okX6_isMissing (CX6_isMissing a1 h L) oO28 rfl rfl rfl rfl (fun r5 => ?_)
      refine g_if_ne (M := mX9_copy) (pc := 37) 51 40 dX9_copy_37 (by decide) rfl (fun _ => ?_) (fun _ => ?_)
      · refine g_aload_n (M := mX9_copy) (pc := 51) 52 dX9_copy_51 rfl rfl rfl ?_
        refine g_ldcw (M := mX9_copy) (pc := 52) 55 dX9_copy_52 rfl cX9_294 ?_
        refine g_cV_IH (M := mX9_copy) (pc := 55) (M' := mX9_tell) (rest := []) 58 dX9_copy_55 rfl kX9_60 okX9_tell (CX9_tell (-1000000006) h L) oO16 rfl rfl rfl rfl (fun r6 h7 => ?_)
        exact g_iret (M := mX9_copy) (pc := 58) dX9_copy_58 rfl rfl (fun z => z)
      · refine g_aload_n (M := mX9_copy) (pc := 40) 41 dX9_copy_40 rfl rfl rfl ?_
        refine g_getR (M := mX9_copy) (pc := 41) 44 dX9_copy_41 rfl fX9_51 oR16_7 ?_
        refine g_iload_n (M := mX9_copy) (pc := 44) 45 dX9_copy_44 rfl rfl rfl ?_
        refine g_cV_I (M := mX9_copy) (pc := 45) (M' := mX6_isMissing) (rest := []) 48 dX9_copy_45 rfl kX9_291 okX6_isMissing (CX6_isMissing a3 h L) oO28 rfl rfl rfl rfl (fun r8 => ?_)
        refine g_if_eq (M := mX9_copy) (pc := 48) 59 51 dX9_copy_48 (by decide) rfl (fun _ => ?_) (fun _ => ?_)
        · refine g_aload_n (M := mX9_copy) (pc := 59) 60 dX9_copy_59 rfl rfl rfl ?_
          refine g_getR (M := mX9_copy) (pc := 60) 63 dX9_copy_60 rfl fX9_51 oR16_7 ?_
          refine g_getR (M := mX9_copy) (pc := 63) 66 dX9_copy_63 rfl fX9_302 oR28_0 ?_
          refine g_iload_n (M := mX9_copy) (pc := 66) 67 dX9_copy_66 rfl rfl rfl ?_
          refine g_iald (M := mX9_copy) (pc := 67) 68 dX9_copy_67 rfl oA29 ?_
          refine g_aload_n (M := mX9_copy) (pc := 68) 69 dX9_copy_68 rfl rfl rfl ?_
          refine g_getR (M := mX9_copy) (pc := 69) 72 dX9_copy_69 rfl fX9_51 oR16_7 ?_
          refine g_getR (M := mX9_copy) (pc := 72) 75 dX9_copy_72 rfl fX9_302 oR28_0 ?_
          refine g_iload_n (M := mX9_copy) (pc := 75) 76 dX9_copy_75 rfl rfl rfl ?_
          refine g_iald (M := mX9_copy) (pc := 76) 77 dX9_copy_76 rfl oA29 ?_
          refine g_icmp_eq (M := mX9_copy) (pc := 77) 87 80 dX9_copy_77 (by decide) rfl (fun _ => ?_) (fun _ => ?_)
          · refine g_aload_n (M := mX9_copy) (pc := 87) 88 dX9_copy_87 rfl rfl rfl ?_
            refine g_getR (M := mX9_copy) (pc := 88) 91 dX9_copy_88 rfl fX9_51 oR16_7 ?_
            refine g_iload_n (M := mX9_copy) (pc := 91) 92 dX9_copy_91 rfl rfl rfl ?_
            refine g_iload_n (M := mX9_copy) (pc := 92) 93 dX9_copy_92 rfl rfl rfl ?_
            refine g_iload (M := mX9_copy) (pc := 93) 95 dX9_copy_93 rfl rfl ?_
            refine g_cV_I (M := mX9_copy) (pc := 95) (M' := mX6_hasNumbers) (rest := []) 98 dX9_copy_95 rfl kX9_295 okX6_hasNumbers (CX6_hasNumbers a1 a2 a5 h L) oO28 rfl rfl rfl rfl (fun r9 => ?_)
            refine g_if_eq (M := mX9_copy) (pc := 98) 116 101 dX9_copy_98 (by decide) rfl (fun _ => ?_) (fun _ => ?_)
            · refine g_aload_n (M := mX9_copy) (pc := 116) 117 dX9_copy_116 rfl rfl rfl ?_
              refine g_ldc (M := mX9_copy) (pc := 117) 119 dX9_copy_117 rfl cX9_59 ?_
              refine g_cV_IH (M := mX9_copy) (pc := 119) (M' := mX9_tell) (rest := []) 122 dX9_copy_119 rfl kX9_60 okX9_tell (CX9_tell (-1000000001) h L) oO16 rfl rfl rfl rfl (fun r10 h11 => ?_)
              exact g_iret (M := mX9_copy) (pc := 122) dX9_copy_122 rfl rfl (fun z => z)
            · refine g_aload_n (M := mX9_copy) (pc := 101) 102 dX9_copy_101 rfl rfl rfl ?_
              refine g_getR (M := mX9_copy) (pc := 102) 105 dX9_copy_102 rfl fX9_51 oR16_7 ?_
              refine g_iload_n (M := mX9_copy) (pc := 105) 106 dX9_copy_105 rfl rfl rfl ?_
              refine g_iload (M := mX9_copy) (pc := 106) 108 dX9_copy_106 rfl rfl ?_
              refine g_iload (M := mX9_copy) (pc := 108) 110 dX9_copy_108 rfl rfl ?_
              refine g_cV_I (M := mX9_copy) (pc := 110) (M' := mX6_hasNumbers) (rest := []) 113 dX9_copy_110 rfl kX9_295 okX6_hasNumbers (CX6_hasNumbers a3 a4 a5 h L) oO28 rfl rfl rfl rfl (fun r12 => ?_)
              refine g_if_ne (M := mX9_copy) (pc := 113) 123 116 dX9_copy_113 (by decide) rfl (fun _ => ?_) (fun _ => ?_)
              · refine g_aload_n (M := mX9_copy) (pc := 123) 124 dX9_copy_123 rfl rfl rfl ?_
                refine g_getR (M := mX9_copy) (pc := 124) 127 dX9_copy_124 rfl fX9_51 oR16_7 ?_
                refine g_iload_n (M := mX9_copy) (pc := 127) 128 dX9_copy_127 rfl rfl rfl ?_
                refine g_iload_n (M := mX9_copy) (pc := 128) 129 dX9_copy_128 rfl rfl rfl ?_
                refine g_iload_n (M := mX9_copy) (pc := 129) 130 dX9_copy_129 rfl rfl rfl ?_
                refine g_iload (M := mX9_copy) (pc := 130) 132 dX9_copy_130 rfl rfl ?_
                refine g_iload (M := mX9_copy) (pc := 132) 134 dX9_copy_132 rfl rfl ?_
                refine g_cV_VL (M := mX9_copy) (pc := 134) (M' := mX6_move) (rest := []) 137 dX9_copy_134 rfl kX9_305 okX6_move (CX6_move a1 a2 a3 a4 a5 h L) oO28 rfl rfl rfl rfl (fun L13 => ?_)
                refine g_iload (M := mX9_copy) (pc := 137) 139 dX9_copy_137 rfl rfl ?_
                exact g_iret (M := mX9_copy) (pc := 139) dX9_copy_139 rfl rfl (fun z => z)
              · refine g_aload_n (M := mX9_copy) (pc := 116) 117 dX9_copy_116 rfl rfl rfl ?_
                refine g_ldc (M := mX9_copy) (pc := 117) 119 dX9_copy_117 rfl cX9_59 ?_
                refine g_cV_IH (M := mX9_copy) (pc := 119) (M' := mX9_tell) (rest := []) 122 dX9_copy_119 rfl kX9_60 okX9_tell (CX9_tell (-1000000001) h L) oO16 rfl rfl rfl rfl (fun r14 h15 => ?_)
                exact g_iret (M := mX9_copy) (pc := 122) dX9_copy_122 rfl rfl (fun z => z)
          · refine g_aload_n (M := mX9_copy) (pc := 80) 81 dX9_copy_80 rfl rfl rfl ?_
            refine g_ldc (M := mX9_copy) (pc := 81) 83 dX9_copy_81 rfl cX9_107 ?_
            refine g_cV_IH (M := mX9_copy) (pc := 83) (M' := mX9_tell) (rest := []) 86 dX9_copy_83 rfl kX9_60 okX9_tell (CX9_tell (-1000000003) h L) oO16 rfl rfl rfl rfl (fun r16 h17 => ?_)
            exact g_iret (M := mX9_copy) (pc := 86) dX9_copy_86 rfl rfl (fun z => z)
        · refine g_aload_n (M := mX9_copy) (pc := 51) 52 dX9_copy_51 rfl rfl rfl ?_
          refine g_ldcw (M := mX9_copy) (pc := 52) 55 dX9_copy_52 rfl cX9_294 ?_
          refine g_cV_IH (M := mX9_copy) (pc := 55) (M' := mX9_tell) (rest := []) 58 dX9_copy_55 rfl kX9_60 okX9_tell (CX9_tell (-1000000006) h L) oO16 rfl rfl rfl rfl (fun r18 h19 => ?_)
          exact g_iret (M := mX9_copy) (pc := 58) dX9_copy_58 rfl rfl (fun z => z)
    · refine g_aload_n (M := mX9_copy) (pc := 22) 23 dX9_copy_22 rfl rfl rfl ?_
      refine g_ldc (M := mX9_copy) (pc := 23) 25 dX9_copy_23 rfl cX9_59 ?_
      refine g_cV_IH (M := mX9_copy) (pc := 25) (M' := mX9_tell) (rest := []) 28 dX9_copy_25 rfl kX9_60 okX9_tell (CX9_tell (-1000000001) h L) oO16 rfl rfl rfl rfl (fun r20 h21 => ?_)
      exact g_iret (M := mX9_copy) (pc := 28) dX9_copy_28 rfl rfl (fun z => z)
def SX9_lays_65 (a1 : Int32) (a3 : Int32) (L : HL) : (Int32 × Int32 × HI) → Option ((Int32 × Int32 × HI) ⊕ (Int32 × HI))
  | (a2, a4, h) =>
    if a3 ≤ a4 then
      some (Sum.inr (a2, h))
    else
      Option.bind (FX6_at a1 a4 L) fun r4 =>
      if (lg_cmp r4 0) < 0 then
        some (Sum.inl (a2, (a4 + 1), h))
      else
        if 0 < (lg_cmp r4 100) then
          some (Sum.inl (a2, (a4 + 1), h))
        else
          gd (ixb a4 12) <|
          nm (hP1 h 0 6 (nC a4) (Int64.toInt32 r4)) fun h5 =>
          some (Sum.inl ((a2 + 1), (a4 + 1), h5))
def FX9_lays (a1 : Int32) (h : HI) (L : HL) : Option (Int32 × HI) :=
  Option.bind (FX6_isSheet a1) fun r1 =>
  if r1 = 0 then
    Option.bind (FX9_tell (-1000000001) h) fun (r10, h11) =>
    some (r10, h11)
  else
    Option.bind (FX6_isMissing a1 h) fun r2 =>
    if r2 = 0 then
      gd (ixb a1 4) <|
      nm (if (h 0 1 6) < (h 6 30 (nC a1)) then (h 0 1 6) else (h 6 30 (nC a1))) fun t3 =>
      Option.bind (loopN (SX9_lays_65 a1 t3 L) FU (0, 0, h)) fun (e6, h7) =>
        some (e6, h7)
    else
      Option.bind (FX9_tell (-1000000006) h) fun (r8, h9) =>
      some (r8, h9)
set_option maxRecDepth 100000 in
set_option maxHeartbeats 4000000 in
theorem SX9_lays_65_ok (a1 : Int32) (a3 : Int32) (L : HL) (T : ZT) (a2 : Int32) (a4 : Int32) (h : HI) : VX mX9_lays 1 T (gS (fun s : Int32 × Int32 × HI => V mX9_lays 1 T 65 [some (aR 3 16), some (aI a1), some (aI (s.1)), some (aI a3), some (aI (s.2.1)), none, none] [] (s.2.2) L) (fun s : Int32 × HI => V mX9_lays 1 T 124 [none, none, some (aI (s.1)), none, none, none, none] [] (s.2) L)) 65 [some (aR 3 16), some (aI a1), some (aI a2), some (aI a3), some (aI a4), none, none] [] h L (SX9_lays_65 a1 a3 L (a2, a4, h)) := by
  unfold SX9_lays_65
  refine g_iload (M := mX9_lays) (pc := 65) 67 dX9_lays_65 rfl rfl ?_
  refine g_iload_n (M := mX9_lays) (pc := 67) 68 dX9_lays_67 rfl rfl rfl ?_
  refine g_icmp_ge (M := mX9_lays) (pc := 68) 124 71 dX9_lays_68 (by decide) rfl (fun _ => ?_) (fun _ => ?_)
  · exact g_jmp (fun z => v_fgt [false, false, true, false, false, false, false] z)
  · refine g_aload_n (M := mX9_lays) (pc := 71) 72 dX9_lays_71 rfl rfl rfl ?_
    refine g_getR (M := mX9_lays) (pc := 72) 75 dX9_lays_72 rfl fX9_51 oR16_7 ?_
    refine g_iload_n (M := mX9_lays) (pc := 75) 76 dX9_lays_75 rfl rfl rfl ?_
    refine g_iload (M := mX9_lays) (pc := 76) 78 dX9_lays_76 rfl rfl ?_
    refine g_cV_J (M := mX9_lays) (pc := 78) (M' := mX6_at) (rest := []) 81 dX9_lays_78 rfl kX9_317 okX6_at (CX6_at a1 a4 h L) oO28 rfl rfl rfl rfl (fun r4 => ?_)
    refine g_lstore (M := mX9_lays) (pc := 81) (ls' := [some (aR 3 16), some (aI a1), some (aI a2), some (aI a3), some (aI a4), some (aL r4), none]) 83 dX9_lays_81 rfl rfl rfl ?_
    refine g_lload (M := mX9_lays) (pc := 83) 85 dX9_lays_83 rfl rfl ?_
    refine g_lconst (M := mX9_lays) (pc := 85) (v := 0) 86 dX9_lays_85 rfl rfl ?_
    refine g_lcmp (M := mX9_lays) (pc := 86) 87 dX9_lays_86 rfl ?_
    refine g_if_lt (M := mX9_lays) (pc := 87) 118 90 dX9_lays_87 (by decide) rfl (fun _ => ?_) (fun _ => ?_)
    · refine g_iinc (M := mX9_lays) (pc := 118) (c := 1) (ls' := [some (aR 3 16), some (aI a1), some (aI a2), some (aI a3), some (aI (a4 + 1)), some (aL r4), none]) 121 dX9_lays_118 rfl ic1 rfl rfl rfl ?_
      refine g_goto (M := mX9_lays) (pc := 121) 65 dX9_lays_121 (by decide) ?_
      exact g_jmp (fun z => v_fgt [true, true, true, true, true, false, false] z)
    · refine g_lload (M := mX9_lays) (pc := 90) 92 dX9_lays_90 rfl rfl ?_
      refine g_ldc2 (M := mX9_lays) (pc := 92) 95 dX9_lays_92 rfl cX9_321 ?_
      refine g_lcmp (M := mX9_lays) (pc := 95) 96 dX9_lays_95 rfl ?_
      refine g_if_gt (M := mX9_lays) (pc := 96) 118 99 dX9_lays_96 (by decide) rfl (fun _ => ?_) (fun _ => ?_)
      · refine g_iinc (M := mX9_lays) (pc := 118) (c := 1) (ls' := [some (aR 3 16), some (aI a1), some (aI a2), some (aI a3), some (aI (a4 + 1)), some (aL r4), none]) 121 dX9_lays_118 rfl ic1 rfl rfl rfl ?_
        refine g_goto (M := mX9_lays) (pc := 121) 65 dX9_lays_121 (by decide) ?_
        exact g_jmp (fun z => v_fgt [true, true, true, true, true, false, false] z)
      · refine g_aload_n (M := mX9_lays) (pc := 99) 100 dX9_lays_99 rfl rfl rfl ?_
        refine g_getR (M := mX9_lays) (pc := 100) 103 dX9_lays_100 rfl fX9_16 oR16_1 ?_
        refine g_getR (M := mX9_lays) (pc := 103) 106 dX9_lays_103 rfl fX9_64 (oR0_0 (by decide)) ?_
        refine g_getR (M := mX9_lays) (pc := 106) 109 dX9_lays_106 rfl fX9_108 (oR1_4 (by decide)) ?_
        refine g_iload (M := mX9_lays) (pc := 109) 111 dX9_lays_109 rfl rfl ?_
        refine g_lload (M := mX9_lays) (pc := 111) 113 dX9_lays_111 rfl rfl ?_
        refine g_l2i (M := mX9_lays) (pc := 113) 114 dX9_lays_113 rfl ?_
        refine g_iast (M := mX9_lays) (pc := 114) 115 dX9_lays_114 rfl (oA6 (by decide)) (fun h5 => ?_)
        refine g_iinc (M := mX9_lays) (pc := 115) (c := 1) (ls' := [some (aR 3 16), some (aI a1), some (aI (a2 + 1)), some (aI a3), some (aI a4), some (aL r4), none]) 118 dX9_lays_115 rfl ic1 rfl rfl rfl ?_
        refine g_iinc (M := mX9_lays) (pc := 118) (c := 1) (ls' := [some (aR 3 16), some (aI a1), some (aI (a2 + 1)), some (aI a3), some (aI (a4 + 1)), some (aL r4), none]) 121 dX9_lays_118 rfl ic1 rfl rfl rfl ?_
        refine g_goto (M := mX9_lays) (pc := 121) 65 dX9_lays_121 (by decide) ?_
        exact g_jmp (fun z => v_fgt [true, true, true, true, true, false, false] z)
set_option maxRecDepth 100000 in
set_option maxHeartbeats 4000000 in
theorem CX9_lays (a1 : Int32) (h : HI) (L : HL) : CG mX9_lays 1 [aR 3 16, aI a1] h L (lfIH L) (FX9_lays a1 h L) := by
  unfold FX9_lays
  refine cg_of [some (aR 3 16), some (aI a1), none, none, none, none, none] rfl (by decide) rfl rfl (fun T => ?_)
  refine g_aload_n (M := mX9_lays) (pc := 0) 1 dX9_lays_0 rfl rfl rfl ?_
  refine g_getR (M := mX9_lays) (pc := 1) 4 dX9_lays_1 rfl fX9_51 oR16_7 ?_
  refine g_iload_n (M := mX9_lays) (pc := 4) 5 dX9_lays_4 rfl rfl rfl ?_
  refine g_cV_I (M := mX9_lays) (pc := 5) (M' := mX6_isSheet) (rest := []) 8 dX9_lays_5 rfl kX9_285 okX6_isSheet (CX6_isSheet a1 h L) oO28 rfl rfl rfl rfl (fun r1 => ?_)
  refine g_if_ne (M := mX9_lays) (pc := 8) 18 11 dX9_lays_8 (by decide) rfl (fun _ => ?_) (fun _ => ?_)
  · refine g_aload_n (M := mX9_lays) (pc := 18) 19 dX9_lays_18 rfl rfl rfl ?_
    refine g_getR (M := mX9_lays) (pc := 19) 22 dX9_lays_19 rfl fX9_51 oR16_7 ?_
    refine g_iload_n (M := mX9_lays) (pc := 22) 23 dX9_lays_22 rfl rfl rfl ?_
    refine g_cV_I (M := mX9_lays) (pc := 23) (M' := mX6_isMissing) (rest := []) 26 dX9_lays_23 rfl kX9_291 okX6_isMissing (CX6_isMissing a1 h L) oO28 rfl rfl rfl rfl (fun r2 => ?_)
    refine g_if_eq (M := mX9_lays) (pc := 26) 37 29 dX9_lays_26 (by decide) rfl (fun _ => ?_) (fun _ => ?_)
    · refine g_iconst (M := mX9_lays) (pc := 37) (v := 0) 38 dX9_lays_37 rfl ic0 ?_
      refine g_istore_n (M := mX9_lays) (pc := 38) (ls' := [some (aR 3 16), some (aI a1), some (aI 0), none, none, none, none]) 39 dX9_lays_38 rfl rfl rfl rfl ?_
      refine g_aload_n (M := mX9_lays) (pc := 39) 40 dX9_lays_39 rfl rfl rfl ?_
      refine g_getR (M := mX9_lays) (pc := 40) 43 dX9_lays_40 rfl fX9_51 oR16_7 ?_
      refine g_getR (M := mX9_lays) (pc := 43) 46 dX9_lays_43 rfl fX9_309 oR28_1 ?_
      refine g_iload_n (M := mX9_lays) (pc := 46) 47 dX9_lays_46 rfl rfl rfl ?_
      refine g_iald (M := mX9_lays) (pc := 47) 48 dX9_lays_47 rfl oA30 ?_
      refine g_aload_n (M := mX9_lays) (pc := 48) 49 dX9_lays_48 rfl rfl rfl ?_
      refine g_getR (M := mX9_lays) (pc := 49) 52 dX9_lays_49 rfl fX9_16 oR16_1 ?_
      refine g_getR (M := mX9_lays) (pc := 52) 55 dX9_lays_52 rfl fX9_64 (oR0_0 (by decide)) ?_
      refine g_getI (M := mX9_lays) (pc := 55) 58 dX9_lays_55 rfl fX9_229 (oF1_6 (by decide)) ?_
      refine g_min (M := mX9_lays) (pc := 58) 61 dX9_lays_58 rfl kX9_311 rfl rfl ?_
      refine g_nmI (fun t3 => ?_)
      refine g_istore_n (M := mX9_lays) (pc := 61) (ls' := [some (aR 3 16), some (aI a1), some (aI 0), some (aI t3), none, none, none]) 62 dX9_lays_61 rfl rfl rfl rfl ?_
      refine g_iconst (M := mX9_lays) (pc := 62) (v := 0) 63 dX9_lays_62 rfl ic0 ?_
      refine g_istore (M := mX9_lays) (pc := 63) (ls' := [some (aR 3 16), some (aI a1), some (aI 0), some (aI t3), some (aI 0), none, none]) 65 dX9_lays_63 rfl rfl rfl ?_
      refine g_loop (fun s => SX9_lays_65_ok a1 t3 L T s.1 s.2.1 s.2.2) ?_ (fun z => v_fgt [true, true, true, true, true, false, false] z)
      rintro ⟨e6, h7⟩
      show VX mX9_lays 1 T _ 124 [none, none, some (aI e6), none, none, none, none] [] h7 L _
      refine g_iload_n (M := mX9_lays) (pc := 124) 125 dX9_lays_124 rfl rfl rfl ?_
      exact g_iret (M := mX9_lays) (pc := 125) dX9_lays_125 rfl rfl (fun z => z)
    · refine g_aload_n (M := mX9_lays) (pc := 29) 30 dX9_lays_29 rfl rfl rfl ?_
      refine g_ldcw (M := mX9_lays) (pc := 30) 33 dX9_lays_30 rfl cX9_294 ?_
      refine g_cV_IH (M := mX9_lays) (pc := 33) (M' := mX9_tell) (rest := []) 36 dX9_lays_33 rfl kX9_60 okX9_tell (CX9_tell (-1000000006) h L) oO16 rfl rfl rfl rfl (fun r8 h9 => ?_)
      exact g_iret (M := mX9_lays) (pc := 36) dX9_lays_36 rfl rfl (fun z => z)
  · refine g_aload_n (M := mX9_lays) (pc := 11) 12 dX9_lays_11 rfl rfl rfl ?_
    refine g_ldc (M := mX9_lays) (pc := 12) 14 dX9_lays_12 rfl cX9_59 ?_
    refine g_cV_IH (M := mX9_lays) (pc := 14) (M' := mX9_tell) (rest := []) 17 dX9_lays_14 rfl kX9_60 okX9_tell (CX9_tell (-1000000001) h L) oO16 rfl rfl rfl rfl (fun r10 h11 => ?_)
    exact g_iret (M := mX9_lays) (pc := 17) dX9_lays_17 rfl rfl (fun z => z)
def FX9_read (a1 : Int32) (h : HI) (L : HL) : Option (Int32 × HI) :=
  Option.bind (FX6_isSheet a1) fun r1 =>
  if r1 = 0 then
    Option.bind (FX9_tell (-1000000001) h) fun (r10, h11) =>
    some (r10, h11)
  else
    Option.bind (FX6_isMissing a1 h) fun r2 =>
    if r2 = 0 then
      Option.bind (FX9_mayGo 40 h) fun r3 =>
      if r3 = 0 then
        Option.bind (FX9_tell (-1000000005) h) fun (r6, h7) =>
        some (r6, h7)
      else
        Option.bind (FX4_firstWrong 0 a1 h L) fun (r4, h5) =>
        some (r4, h5)
    else
      Option.bind (FX9_tell (-1000000006) h) fun (r8, h9) =>
      some (r8, h9)
set_option maxRecDepth 100000 in
set_option maxHeartbeats 4000000 in
theorem CX9_read (a1 : Int32) (h : HI) (L : HL) : CG mX9_read 6 [aR 3 16, aI a1] h L (lfIH L) (FX9_read a1 h L) := by
  unfold FX9_read
  refine cg_of [some (aR 3 16), some (aI a1)] rfl (by decide) rfl rfl (fun T => ?_)
  refine g_aload_n (M := mX9_read) (pc := 0) 1 dX9_read_0 rfl rfl rfl ?_
  refine g_getR (M := mX9_read) (pc := 1) 4 dX9_read_1 rfl fX9_51 oR16_7 ?_
  refine g_iload_n (M := mX9_read) (pc := 4) 5 dX9_read_4 rfl rfl rfl ?_
  refine g_cV_I (M := mX9_read) (pc := 5) (M' := mX6_isSheet) (rest := []) 8 dX9_read_5 rfl kX9_285 okX6_isSheet (CX6_isSheet a1 h L) oO28 rfl rfl rfl rfl (fun r1 => ?_)
  refine g_if_ne (M := mX9_read) (pc := 8) 18 11 dX9_read_8 (by decide) rfl (fun _ => ?_) (fun _ => ?_)
  · refine g_aload_n (M := mX9_read) (pc := 18) 19 dX9_read_18 rfl rfl rfl ?_
    refine g_getR (M := mX9_read) (pc := 19) 22 dX9_read_19 rfl fX9_51 oR16_7 ?_
    refine g_iload_n (M := mX9_read) (pc := 22) 23 dX9_read_22 rfl rfl rfl ?_
    refine g_cV_I (M := mX9_read) (pc := 23) (M' := mX6_isMissing) (rest := []) 26 dX9_read_23 rfl kX9_291 okX6_isMissing (CX6_isMissing a1 h L) oO28 rfl rfl rfl rfl (fun r2 => ?_)
    refine g_if_eq (M := mX9_read) (pc := 26) 37 29 dX9_read_26 (by decide) rfl (fun _ => ?_) (fun _ => ?_)
    · refine g_aload_n (M := mX9_read) (pc := 37) 38 dX9_read_37 rfl rfl rfl ?_
      refine g_bipush (M := mX9_read) (pc := 38) (v := 40) 40 dX9_read_38 rfl bp40 ?_
      refine g_cV_I (M := mX9_read) (pc := 40) (M' := mX9_mayGo) (rest := []) 43 dX9_read_40 rfl kX9_206 okX9_mayGo (CX9_mayGo 40 h L) oO16 rfl rfl rfl rfl (fun r3 => ?_)
      refine g_if_ne (M := mX9_read) (pc := 43) 53 46 dX9_read_43 (by decide) rfl (fun _ => ?_) (fun _ => ?_)
      · refine g_aload_n (M := mX9_read) (pc := 53) 54 dX9_read_53 rfl rfl rfl ?_
        refine g_getR (M := mX9_read) (pc := 54) 57 dX9_read_54 rfl fX9_37 oR16_5 ?_
        refine g_aload_n (M := mX9_read) (pc := 57) 58 dX9_read_57 rfl rfl rfl ?_
        refine g_getR (M := mX9_read) (pc := 58) 61 dX9_read_58 rfl fX9_16 oR16_1 ?_
        refine g_aload_n (M := mX9_read) (pc := 61) 62 dX9_read_61 rfl rfl rfl ?_
        refine g_getR (M := mX9_read) (pc := 62) 65 dX9_read_62 rfl fX9_51 oR16_7 ?_
        refine g_iload_n (M := mX9_read) (pc := 65) 66 dX9_read_65 rfl rfl rfl ?_
        refine g_cV_IH (M := mX9_read) (pc := 66) (M' := mX4_firstWrong) (rest := []) 69 dX9_read_66 rfl kX9_323 okX4_firstWrong (CX4_firstWrong 0 (by decide) a1 h L) oO24 rfl rfl rfl rfl (fun r4 h5 => ?_)
        exact g_iret (M := mX9_read) (pc := 69) dX9_read_69 rfl rfl (fun z => z)
      · refine g_aload_n (M := mX9_read) (pc := 46) 47 dX9_read_46 rfl rfl rfl ?_
        refine g_ldc (M := mX9_read) (pc := 47) 49 dX9_read_47 rfl cX9_209 ?_
        refine g_cV_IH (M := mX9_read) (pc := 49) (M' := mX9_tell) (rest := []) 52 dX9_read_49 rfl kX9_60 okX9_tell (CX9_tell (-1000000005) h L) oO16 rfl rfl rfl rfl (fun r6 h7 => ?_)
        exact g_iret (M := mX9_read) (pc := 52) dX9_read_52 rfl rfl (fun z => z)
    · refine g_aload_n (M := mX9_read) (pc := 29) 30 dX9_read_29 rfl rfl rfl ?_
      refine g_ldcw (M := mX9_read) (pc := 30) 33 dX9_read_30 rfl cX9_294 ?_
      refine g_cV_IH (M := mX9_read) (pc := 33) (M' := mX9_tell) (rest := []) 36 dX9_read_33 rfl kX9_60 okX9_tell (CX9_tell (-1000000006) h L) oO16 rfl rfl rfl rfl (fun r8 h9 => ?_)
      exact g_iret (M := mX9_read) (pc := 36) dX9_read_36 rfl rfl (fun z => z)
  · refine g_aload_n (M := mX9_read) (pc := 11) 12 dX9_read_11 rfl rfl rfl ?_
    refine g_ldc (M := mX9_read) (pc := 12) 14 dX9_read_12 rfl cX9_59 ?_
    refine g_cV_IH (M := mX9_read) (pc := 14) (M' := mX9_tell) (rest := []) 17 dX9_read_14 rfl kX9_60 okX9_tell (CX9_tell (-1000000001) h L) oO16 rfl rfl rfl rfl (fun r10 h11 => ?_)
    exact g_iret (M := mX9_read) (pc := 17) dX9_read_17 rfl rfl (fun z => z)
def FX9_image (h : HI) : Option (Int32 × HI) :=
  Option.bind (FX0_takeFrom 1 0 h) fun h1 =>
  nm (hP1 h1 3 16 3 1) fun h2 =>
  some (1, h2)
set_option maxRecDepth 100000 in
set_option maxHeartbeats 4000000 in
theorem CX9_image (h : HI) (L : HL) : CG mX9_image 3 [aR 3 16] h L (lfIH L) (FX9_image h) := by
  unfold FX9_image
  refine cg_of [some (aR 3 16)] rfl (by decide) rfl rfl (fun T => ?_)
  refine g_aload_n (M := mX9_image) (pc := 0) 1 dX9_image_0 rfl rfl rfl ?_
  refine g_getR (M := mX9_image) (pc := 1) 4 dX9_image_1 rfl fX9_20 oR16_2 ?_
  refine g_aload_n (M := mX9_image) (pc := 4) 5 dX9_image_4 rfl rfl rfl ?_
  refine g_getR (M := mX9_image) (pc := 5) 8 dX9_image_5 rfl fX9_16 oR16_1 ?_
  refine g_cV_VH (M := mX9_image) (pc := 8) (M' := mX0_takeFrom) (rest := []) 11 dX9_image_8 rfl kX9_278 okX0_takeFrom (CX0_takeFrom 1 0 (by decide) (by decide) h L) (oO0 (by decide)) rfl rfl rfl rfl (fun h1 => ?_)
  refine g_aload_n (M := mX9_image) (pc := 11) 12 dX9_image_11 rfl rfl rfl ?_
  refine g_iconst (M := mX9_image) (pc := 12) (v := 1) 13 dX9_image_12 rfl ic1 ?_
  refine g_put (M := mX9_image) (pc := 13) 16 dX9_image_13 rfl pX9_23 oF16_3 nz1 fz1 (fun h2 => ?_)
  refine g_iconst (M := mX9_image) (pc := 16) (v := 1) 17 dX9_image_16 rfl ic1 ?_
  exact g_iret (M := mX9_image) (pc := 17) dX9_image_17 rfl rfl (fun z => z)
def FX9_undo (h : HI) : Option (Int32 × HI) :=
  if (h 3 16 3) = 0 then
    Option.bind (FX9_tell (-1000000004) h) fun (r2, h3) =>
    some (r2, h3)
  else
    Option.bind (FX0_takeFrom 0 1 h) fun h1 =>
    some ((h1 0 1 6), h1)
set_option maxRecDepth 100000 in
set_option maxHeartbeats 4000000 in
theorem CX9_undo (h : HI) (L : HL) : CG mX9_undo 3 [aR 3 16] h L (lfIH L) (FX9_undo h) := by
  unfold FX9_undo
  refine cg_of [some (aR 3 16)] rfl (by decide) rfl rfl (fun T => ?_)
  refine g_aload_n (M := mX9_undo) (pc := 0) 1 dX9_undo_0 rfl rfl rfl ?_
  refine g_getI (M := mX9_undo) (pc := 1) 4 dX9_undo_1 rfl fX9_23 oF16_3 ?_
  refine g_if_ne (M := mX9_undo) (pc := 4) 14 7 dX9_undo_4 (by decide) rfl (fun _ => ?_) (fun _ => ?_)
  · refine g_aload_n (M := mX9_undo) (pc := 14) 15 dX9_undo_14 rfl rfl rfl ?_
    refine g_getR (M := mX9_undo) (pc := 15) 18 dX9_undo_15 rfl fX9_16 oR16_1 ?_
    refine g_aload_n (M := mX9_undo) (pc := 18) 19 dX9_undo_18 rfl rfl rfl ?_
    refine g_getR (M := mX9_undo) (pc := 19) 22 dX9_undo_19 rfl fX9_20 oR16_2 ?_
    refine g_cV_VH (M := mX9_undo) (pc := 22) (M' := mX0_takeFrom) (rest := []) 25 dX9_undo_22 rfl kX9_278 okX0_takeFrom (CX0_takeFrom 0 1 (by decide) (by decide) h L) (oO0 (by decide)) rfl rfl rfl rfl (fun h1 => ?_)
    refine g_aload_n (M := mX9_undo) (pc := 25) 26 dX9_undo_25 rfl rfl rfl ?_
    refine g_getR (M := mX9_undo) (pc := 26) 29 dX9_undo_26 rfl fX9_16 oR16_1 ?_
    refine g_getR (M := mX9_undo) (pc := 29) 32 dX9_undo_29 rfl fX9_64 (oR0_0 (by decide)) ?_
    refine g_getI (M := mX9_undo) (pc := 32) 35 dX9_undo_32 rfl fX9_229 (oF1_6 (by decide)) ?_
    exact g_iret (M := mX9_undo) (pc := 35) dX9_undo_35 rfl rfl (fun z => z)
  · refine g_aload_n (M := mX9_undo) (pc := 7) 8 dX9_undo_7 rfl rfl rfl ?_
    refine g_ldc (M := mX9_undo) (pc := 8) 10 dX9_undo_8 rfl cX9_250 ?_
    refine g_cV_IH (M := mX9_undo) (pc := 10) (M' := mX9_tell) (rest := []) 13 dX9_undo_10 rfl kX9_60 okX9_tell (CX9_tell (-1000000004) h L) oO16 rfl rfl rfl rfl (fun r2 h3 => ?_)
    exact g_iret (M := mX9_undo) (pc := 13) dX9_undo_13 rfl rfl (fun z => z)
def FX9_tear (h : HI) : Option (Int32 × HI) :=
  if (h 3 16 3) = 0 then
    nm (hP1 h 3 16 3 0) fun h1 =>
    some (0, h1)
  else
    nm (hP1 h 3 16 3 0) fun h2 =>
    some (1, h2)
set_option maxRecDepth 100000 in
set_option maxHeartbeats 4000000 in
theorem CX9_tear (h : HI) (L : HL) : CG mX9_tear 0 [aR 3 16] h L (lfIH L) (FX9_tear h) := by
  unfold FX9_tear
  refine cg_of [some (aR 3 16), none] rfl (by decide) rfl rfl (fun T => ?_)
  refine g_aload_n (M := mX9_tear) (pc := 0) 1 dX9_tear_0 rfl rfl rfl ?_
  refine g_getI (M := mX9_tear) (pc := 1) 4 dX9_tear_1 rfl fX9_23 oF16_3 ?_
  refine g_if_eq (M := mX9_tear) (pc := 4) 11 7 dX9_tear_4 (by decide) rfl (fun _ => ?_) (fun _ => ?_)
  · refine g_iconst (M := mX9_tear) (pc := 11) (v := 0) 12 dX9_tear_11 rfl ic0 ?_
    refine g_istore_n (M := mX9_tear) (pc := 12) (ls' := [some (aR 3 16), some (aI 0)]) 13 dX9_tear_12 rfl rfl rfl rfl ?_
    refine g_aload_n (M := mX9_tear) (pc := 13) 14 dX9_tear_13 rfl rfl rfl ?_
    refine g_iconst (M := mX9_tear) (pc := 14) (v := 0) 15 dX9_tear_14 rfl ic0 ?_
    refine g_put (M := mX9_tear) (pc := 15) 18 dX9_tear_15 rfl pX9_23 oF16_3 nz0 fz0 (fun h1 => ?_)
    refine g_iload_n (M := mX9_tear) (pc := 18) 19 dX9_tear_18 rfl rfl rfl ?_
    exact g_iret (M := mX9_tear) (pc := 19) dX9_tear_19 rfl rfl (fun z => z)
  · refine g_iconst (M := mX9_tear) (pc := 7) (v := 1) 8 dX9_tear_7 rfl ic1 ?_
    refine g_goto (M := mX9_tear) (pc := 8) 12 dX9_tear_8 (by decide) ?_
    refine g_istore_n (M := mX9_tear) (pc := 12) (ls' := [some (aR 3 16), some (aI 1)]) 13 dX9_tear_12 rfl rfl rfl rfl ?_
    refine g_aload_n (M := mX9_tear) (pc := 13) 14 dX9_tear_13 rfl rfl rfl ?_
    refine g_iconst (M := mX9_tear) (pc := 14) (v := 0) 15 dX9_tear_14 rfl ic0 ?_
    refine g_put (M := mX9_tear) (pc := 15) 18 dX9_tear_15 rfl pX9_23 oF16_3 nz0 fz0 (fun h2 => ?_)
    refine g_iload_n (M := mX9_tear) (pc := 18) 19 dX9_tear_18 rfl rfl rfl ?_
    exact g_iret (M := mX9_tear) (pc := 19) dX9_tear_19 rfl rfl (fun z => z)
def FX9_count (a1 : Int32) (h : HI) : Option (Int32 × HI) :=
  if a1 = 0 then
    some ((h 0 1 6), h)
  else
  if a1 = 1 then
    some ((h 0 8 5), h)
  else
  if a1 = 2 then
    some ((h 0 14 1), h)
  else
  if a1 = 3 then
    some ((h 5 26 1), h)
  else
  if a1 = 4 then
    Option.bind (FX9_sum 0 6 (h 0 1 6) h) fun r1 =>
    some (r1, h)
  else
  if a1 = 5 then
    Option.bind (FX9_sum 0 7 (h 0 1 6) h) fun r2 =>
    some (r2, h)
  else
  Option.bind (FX9_tell (-1000000001) h) fun (r3, h4) =>
  some (r3, h4)
set_option maxRecDepth 100000 in
set_option maxHeartbeats 4000000 in
theorem CX9_count (a1 : Int32) (h : HI) (L : HL) : CG mX9_count 1 [aR 3 16, aI a1] h L (lfIH L) (FX9_count a1 h) := by
  unfold FX9_count
  refine cg_of [some (aR 3 16), some (aI a1)] rfl (by decide) rfl rfl (fun T => ?_)
  refine g_iload_n (M := mX9_count) (pc := 0) 1 dX9_count_0 rfl rfl rfl ?_
  refine g_tsc (M := mX9_count) (pc := 1) (v := 0) 40 dX9_count_1 (by decide) (by decide) rfl (by decide) (fun _ => ?_) (fun z0 => ?_)
  · refine g_aload_n (M := mX9_count) (pc := 40) 41 dX9_count_40 rfl rfl rfl ?_
    refine g_getR (M := mX9_count) (pc := 41) 44 dX9_count_41 rfl fX9_16 oR16_1 ?_
    refine g_getR (M := mX9_count) (pc := 44) 47 dX9_count_44 rfl fX9_64 (oR0_0 (by decide)) ?_
    refine g_getI (M := mX9_count) (pc := 47) 50 dX9_count_47 rfl fX9_229 (oF1_6 (by decide)) ?_
    exact g_iret (M := mX9_count) (pc := 50) dX9_count_50 rfl rfl (fun z => z)
  refine g_tsc (M := mX9_count) (pc := 1) (v := 1) 51 dX9_count_1 (by decide) (by decide) rfl (by decide) (fun _ => ?_) (fun z1 => ?_)
  · refine g_aload_n (M := mX9_count) (pc := 51) 52 dX9_count_51 rfl rfl rfl ?_
    refine g_getR (M := mX9_count) (pc := 52) 55 dX9_count_52 rfl fX9_16 oR16_1 ?_
    refine g_getR (M := mX9_count) (pc := 55) 58 dX9_count_55 rfl fX9_111 (oR0_1 (by decide)) ?_
    refine g_getI (M := mX9_count) (pc := 58) 61 dX9_count_58 rfl fX9_327 (oF8_5 (by decide)) ?_
    exact g_iret (M := mX9_count) (pc := 61) dX9_count_61 rfl rfl (fun z => z)
  refine g_tsc (M := mX9_count) (pc := 1) (v := 2) 62 dX9_count_1 (by decide) (by decide) rfl (by decide) (fun _ => ?_) (fun z2 => ?_)
  · refine g_aload_n (M := mX9_count) (pc := 62) 63 dX9_count_62 rfl rfl rfl ?_
    refine g_getR (M := mX9_count) (pc := 63) 66 dX9_count_63 rfl fX9_16 oR16_1 ?_
    refine g_getR (M := mX9_count) (pc := 66) 69 dX9_count_66 rfl fX9_173 (oR0_2 (by decide)) ?_
    refine g_getI (M := mX9_count) (pc := 69) 72 dX9_count_69 rfl fX9_186 (oF14_1 (by decide)) ?_
    exact g_iret (M := mX9_count) (pc := 72) dX9_count_72 rfl rfl (fun z => z)
  refine g_tsc (M := mX9_count) (pc := 1) (v := 3) 73 dX9_count_1 (by decide) (by decide) rfl (by decide) (fun _ => ?_) (fun z3 => ?_)
  · refine g_aload_n (M := mX9_count) (pc := 73) 74 dX9_count_73 rfl rfl rfl ?_
    refine g_getR (M := mX9_count) (pc := 74) 77 dX9_count_74 rfl fX9_44 oR16_6 ?_
    refine g_getR (M := mX9_count) (pc := 77) 80 dX9_count_77 rfl fX9_262 oR25_0 ?_
    refine g_getI (M := mX9_count) (pc := 80) 83 dX9_count_80 rfl fX9_272 oF26_1 ?_
    exact g_iret (M := mX9_count) (pc := 83) dX9_count_83 rfl rfl (fun z => z)
  refine g_tsc (M := mX9_count) (pc := 1) (v := 4) 84 dX9_count_1 (by decide) (by decide) rfl (by decide) (fun _ => ?_) (fun z4 => ?_)
  · refine g_aload_n (M := mX9_count) (pc := 84) 85 dX9_count_84 rfl rfl rfl ?_
    refine g_getR (M := mX9_count) (pc := 85) 88 dX9_count_85 rfl fX9_16 oR16_1 ?_
    refine g_getR (M := mX9_count) (pc := 88) 91 dX9_count_88 rfl fX9_64 (oR0_0 (by decide)) ?_
    refine g_getR (M := mX9_count) (pc := 91) 94 dX9_count_91 rfl fX9_108 (oR1_4 (by decide)) ?_
    refine g_aload_n (M := mX9_count) (pc := 94) 95 dX9_count_94 rfl rfl rfl ?_
    refine g_getR (M := mX9_count) (pc := 95) 98 dX9_count_95 rfl fX9_16 oR16_1 ?_
    refine g_getR (M := mX9_count) (pc := 98) 101 dX9_count_98 rfl fX9_64 (oR0_0 (by decide)) ?_
    refine g_getI (M := mX9_count) (pc := 101) 104 dX9_count_101 rfl fX9_229 (oF1_6 (by decide)) ?_
    refine g_cS_I (M := mX9_count) (pc := 104) (M' := mX9_sum) (rest := []) 107 dX9_count_104 rfl kX9_230 okX9_sum (CX9_sum 0 6 (h 0 1 6) h L) rfl rfl rfl rfl (fun r1 => ?_)
    exact g_iret (M := mX9_count) (pc := 107) dX9_count_107 rfl rfl (fun z => z)
  refine g_tsc (M := mX9_count) (pc := 1) (v := 5) 108 dX9_count_1 (by decide) (by decide) rfl (by decide) (fun _ => ?_) (fun z5 => ?_)
  · refine g_aload_n (M := mX9_count) (pc := 108) 109 dX9_count_108 rfl rfl rfl ?_
    refine g_getR (M := mX9_count) (pc := 109) 112 dX9_count_109 rfl fX9_16 oR16_1 ?_
    refine g_getR (M := mX9_count) (pc := 112) 115 dX9_count_112 rfl fX9_64 (oR0_0 (by decide)) ?_
    refine g_getR (M := mX9_count) (pc := 115) 118 dX9_count_115 rfl fX9_328 (oR1_5 (by decide)) ?_
    refine g_aload_n (M := mX9_count) (pc := 118) 119 dX9_count_118 rfl rfl rfl ?_
    refine g_getR (M := mX9_count) (pc := 119) 122 dX9_count_119 rfl fX9_16 oR16_1 ?_
    refine g_getR (M := mX9_count) (pc := 122) 125 dX9_count_122 rfl fX9_64 (oR0_0 (by decide)) ?_
    refine g_getI (M := mX9_count) (pc := 125) 128 dX9_count_125 rfl fX9_229 (oF1_6 (by decide)) ?_
    refine g_cS_I (M := mX9_count) (pc := 128) (M' := mX9_sum) (rest := []) 131 dX9_count_128 rfl kX9_230 okX9_sum (CX9_sum 0 7 (h 0 1 6) h L) rfl rfl rfl rfl (fun r2 => ?_)
    exact g_iret (M := mX9_count) (pc := 131) dX9_count_131 rfl rfl (fun z => z)
  refine g_tsOut (M := mX9_count) (pc := 1) 132 dX9_count_1 (by have y0 := lv_neT z0 (a := 0) rfl; have y1 := lv_neT z1 (a := 1) rfl; have y2 := lv_neT z2 (a := 2) rfl; have y3 := lv_neT z3 (a := 3) rfl; have y4 := lv_neT z4 (a := 4) rfl; have y5 := lv_neT z5 (a := 5) rfl; omega) (by decide) ?_
  refine g_aload_n (M := mX9_count) (pc := 132) 133 dX9_count_132 rfl rfl rfl ?_
  refine g_ldc (M := mX9_count) (pc := 133) 135 dX9_count_133 rfl cX9_59 ?_
  refine g_cV_IH (M := mX9_count) (pc := 135) (M' := mX9_tell) (rest := []) 138 dX9_count_135 rfl kX9_60 okX9_tell (CX9_tell (-1000000001) h L) oO16 rfl rfl rfl rfl (fun r3 h4 => ?_)
  exact g_iret (M := mX9_count) (pc := 138) dX9_count_138 rfl rfl (fun z => z)
def FX9_status (a1 : Int32) (h : HI) : Option (Int32 × HI) :=
  if a1 = (-1) then
    Option.bind (FX9_sum 3 17 7 h) fun r4 =>
    some (r4, h)
  else
    Option.bind (FX9_within a1 0 6) fun r1 =>
    if r1 = 0 then
      Option.bind (FX9_tell (-1000000001) h) fun (r2, h3) =>
      some (r2, h3)
    else
      gd (ixb a1 7) <|
      some ((h 3 17 (nC a1)), h)
set_option maxRecDepth 100000 in
set_option maxHeartbeats 4000000 in
theorem CX9_status (a1 : Int32) (h : HI) (L : HL) : CG mX9_status 1 [aR 3 16, aI a1] h L (lfIH L) (FX9_status a1 h) := by
  unfold FX9_status
  refine cg_of [some (aR 3 16), some (aI a1)] rfl (by decide) rfl rfl (fun T => ?_)
  refine g_iload_n (M := mX9_status) (pc := 0) 1 dX9_status_0 rfl rfl rfl ?_
  refine g_iconst (M := mX9_status) (pc := 1) (v := (-1)) 2 dX9_status_1 rfl icm1 ?_
  refine g_icmp_ne (M := mX9_status) (pc := 2) 15 5 dX9_status_2 (by decide) rfl (fun _ => ?_) (fun _ => ?_)
  · refine g_iload_n (M := mX9_status) (pc := 15) 16 dX9_status_15 rfl rfl rfl ?_
    refine g_iconst (M := mX9_status) (pc := 16) (v := 0) 17 dX9_status_16 rfl ic0 ?_
    refine g_bipush (M := mX9_status) (pc := 17) (v := 6) 19 dX9_status_17 rfl bp6 ?_
    refine g_cS_I (M := mX9_status) (pc := 19) (M' := mX9_within) (rest := []) 22 dX9_status_19 rfl kX9_55 okX9_within (CX9_within a1 0 6 h L) rfl rfl rfl rfl (fun r1 => ?_)
    refine g_if_ne (M := mX9_status) (pc := 22) 32 25 dX9_status_22 (by decide) rfl (fun _ => ?_) (fun _ => ?_)
    · refine g_aload_n (M := mX9_status) (pc := 32) 33 dX9_status_32 rfl rfl rfl ?_
      refine g_getR (M := mX9_status) (pc := 33) 36 dX9_status_33 rfl fX9_9 oR16_0 ?_
      refine g_iload_n (M := mX9_status) (pc := 36) 37 dX9_status_36 rfl rfl rfl ?_
      refine g_iald (M := mX9_status) (pc := 37) 38 dX9_status_37 rfl oA17 ?_
      exact g_iret (M := mX9_status) (pc := 38) dX9_status_38 rfl rfl (fun z => z)
    · refine g_aload_n (M := mX9_status) (pc := 25) 26 dX9_status_25 rfl rfl rfl ?_
      refine g_ldc (M := mX9_status) (pc := 26) 28 dX9_status_26 rfl cX9_59 ?_
      refine g_cV_IH (M := mX9_status) (pc := 28) (M' := mX9_tell) (rest := []) 31 dX9_status_28 rfl kX9_60 okX9_tell (CX9_tell (-1000000001) h L) oO16 rfl rfl rfl rfl (fun r2 h3 => ?_)
      exact g_iret (M := mX9_status) (pc := 31) dX9_status_31 rfl rfl (fun z => z)
  · refine g_aload_n (M := mX9_status) (pc := 5) 6 dX9_status_5 rfl rfl rfl ?_
    refine g_getR (M := mX9_status) (pc := 6) 9 dX9_status_6 rfl fX9_9 oR16_0 ?_
    refine g_bipush (M := mX9_status) (pc := 9) (v := 7) 11 dX9_status_9 rfl bp7 ?_
    refine g_cS_I (M := mX9_status) (pc := 11) (M' := mX9_sum) (rest := []) 14 dX9_status_11 rfl kX9_230 okX9_sum (CX9_sum 3 17 7 h L) rfl rfl rfl rfl (fun r4 => ?_)
    exact g_iret (M := mX9_status) (pc := 14) dX9_status_14 rfl rfl (fun z => z)
def FX10_in (a0 : Int64) (a2 : Int64) (a4 : Int64) : Option (Int32) :=
  if (lg_cmp a0 a2) < 0 then
    some 0
  else
    if 0 < (lg_cmp a0 a4) then
      some 0
    else
      some 1
set_option maxRecDepth 100000 in
set_option maxHeartbeats 4000000 in
theorem CX10_in (a0 : Int64) (a2 : Int64) (a4 : Int64) (h : HI) (L : HL) : CG mX10_in 0 [aL a0, aL a2, aL a4] h L (lfI h L) (FX10_in a0 a2 a4) := by
  unfold FX10_in
  refine cg_of [some (aL a0), none, some (aL a2), none, some (aL a4), none] rfl (by decide) rfl rfl (fun T => ?_)
  refine g_lload_n (M := mX10_in) (pc := 0) 1 dX10_in_0 rfl rfl rfl ?_
  refine g_lload_n (M := mX10_in) (pc := 1) 2 dX10_in_1 rfl rfl rfl ?_
  refine g_lcmp (M := mX10_in) (pc := 2) 3 dX10_in_2 rfl ?_
  refine g_if_lt (M := mX10_in) (pc := 3) 17 6 dX10_in_3 (by decide) rfl (fun _ => ?_) (fun _ => ?_)
  · refine g_iconst (M := mX10_in) (pc := 17) (v := 0) 18 dX10_in_17 rfl ic0 ?_
    exact g_iret (M := mX10_in) (pc := 18) dX10_in_18 rfl nz0 (fun z => z)
  · refine g_lload_n (M := mX10_in) (pc := 6) 7 dX10_in_6 rfl rfl rfl ?_
    refine g_lload (M := mX10_in) (pc := 7) 9 dX10_in_7 rfl rfl ?_
    refine g_lcmp (M := mX10_in) (pc := 9) 10 dX10_in_9 rfl ?_
    refine g_if_gt (M := mX10_in) (pc := 10) 17 13 dX10_in_10 (by decide) rfl (fun _ => ?_) (fun _ => ?_)
    · refine g_iconst (M := mX10_in) (pc := 17) (v := 0) 18 dX10_in_17 rfl ic0 ?_
      exact g_iret (M := mX10_in) (pc := 18) dX10_in_18 rfl nz0 (fun z => z)
    · refine g_iconst (M := mX10_in) (pc := 13) (v := 1) 14 dX10_in_13 rfl ic1 ?_
      refine g_goto (M := mX10_in) (pc := 14) 18 dX10_in_14 (by decide) ?_
      exact g_iret (M := mX10_in) (pc := 18) dX10_in_18 rfl nz1 (fun z => z)
def FX10_finds (a1 : Int32) (h : HI) : Option (Int32 × HI) :=
  gd (ixb ((-1000000001) - a1) 7) <|
  gd (ixb ((-1000000001) - a1) 7) <|
  nm (hP1 h 8 36 (nC ((-1000000001) - a1)) ((h 8 36 (nC ((-1000000001) - a1))) + 1)) fun h1 =>
  some (a1, h1)
set_option maxRecDepth 100000 in
set_option maxHeartbeats 4000000 in
theorem CX10_finds (a1 : Int32) (h : HI) (L : HL) : CG mX10_finds 0 [aR 8 32, aI a1] h L (lfIH L) (FX10_finds a1 h) := by
  unfold FX10_finds
  refine cg_of [some (aR 8 32), some (aI a1)] rfl (by decide) rfl rfl (fun T => ?_)
  refine g_aload_n (M := mX10_finds) (pc := 0) 1 dX10_finds_0 rfl rfl rfl ?_
  refine g_getR (M := mX10_finds) (pc := 1) 4 dX10_finds_1 rfl fX10_19 oR32_3 ?_
  refine g_ldc (M := mX10_finds) (pc := 4) 6 dX10_finds_4 rfl cX10_44 ?_
  refine g_iload_n (M := mX10_finds) (pc := 6) 7 dX10_finds_6 rfl rfl rfl ?_
  refine g_isub (M := mX10_finds) (pc := 7) 8 dX10_finds_7 rfl ?_
  refine g_dup2 (M := mX10_finds) (pc := 8) 9 dX10_finds_8 rfl rfl rfl ?_
  refine g_iald (M := mX10_finds) (pc := 9) 10 dX10_finds_9 rfl oA36 ?_
  refine g_iconst (M := mX10_finds) (pc := 10) (v := 1) 11 dX10_finds_10 rfl ic1 ?_
  refine g_iadd (M := mX10_finds) (pc := 11) 12 dX10_finds_11 rfl ?_
  refine g_iast (M := mX10_finds) (pc := 12) 13 dX10_finds_12 rfl oA36 (fun h1 => ?_)
  refine g_iload_n (M := mX10_finds) (pc := 13) 14 dX10_finds_13 rfl rfl rfl ?_
  exact g_iret (M := mX10_finds) (pc := 14) dX10_finds_14 rfl rfl (fun z => z)
def FX10_has (a0 : Int32) (a1 : Int32) : Option (Int32) :=
  if ((a0 >>> (a1 &&& 31)) &&& 1) = 1 then
    some 1
  else
    some 0
set_option maxRecDepth 100000 in
set_option maxHeartbeats 4000000 in
theorem CX10_has (a0 : Int32) (a1 : Int32) (h : HI) (L : HL) : CG mX10_has 0 [aI a0, aI a1] h L (lfI h L) (FX10_has a0 a1) := by
  unfold FX10_has
  refine cg_of [some (aI a0), some (aI a1)] rfl (by decide) rfl rfl (fun T => ?_)
  refine g_iload_n (M := mX10_has) (pc := 0) 1 dX10_has_0 rfl rfl rfl ?_
  refine g_iload_n (M := mX10_has) (pc := 1) 2 dX10_has_1 rfl rfl rfl ?_
  refine g_ishr (M := mX10_has) (pc := 2) 3 dX10_has_2 rfl ?_
  refine g_iconst (M := mX10_has) (pc := 3) (v := 1) 4 dX10_has_3 rfl ic1 ?_
  refine g_iand (M := mX10_has) (pc := 4) 5 dX10_has_4 rfl ?_
  refine g_iconst (M := mX10_has) (pc := 5) (v := 1) 6 dX10_has_5 rfl ic1 ?_
  refine g_icmp_ne (M := mX10_has) (pc := 6) 13 9 dX10_has_6 (by decide) rfl (fun _ => ?_) (fun _ => ?_)
  · refine g_iconst (M := mX10_has) (pc := 13) (v := 0) 14 dX10_has_13 rfl ic0 ?_
    exact g_iret (M := mX10_has) (pc := 14) dX10_has_14 rfl nz0 (fun z => z)
  · refine g_iconst (M := mX10_has) (pc := 9) (v := 1) 10 dX10_has_9 rfl ic1 ?_
    refine g_goto (M := mX10_has) (pc := 10) 14 dX10_has_10 (by decide) ?_
    exact g_iret (M := mX10_has) (pc := 14) dX10_has_14 rfl nz1 (fun z => z)
def SX10_ones_4 : (Int32 × Int32) → Option ((Int32 × Int32) ⊕ (Int32))
  | (a1, a2) =>
    if a2 = 0 then
      some (Sum.inr a1)
    else
      nm (a2 &&& (a2 - 1)) fun t1 =>
      some (Sum.inl ((a1 + 1), t1))
def FX10_ones (a0 : Int32) : Option (Int32) :=
  Option.bind (loopN (SX10_ones_4) FU (0, a0)) fun e2 =>
    some e2
set_option maxRecDepth 100000 in
set_option maxHeartbeats 4000000 in
theorem SX10_ones_4_ok (h : HI) (L : HL) (T : ZT) (a1 : Int32) (a2 : Int32) : VX mX10_ones 0 T (gS (fun s : Int32 × Int32 => V mX10_ones 0 T 4 [none, some (aI (s.1)), some (aI (s.2))] [] h L) (fun s : Int32 => V mX10_ones 0 T 20 [none, some (aI s), none] [] h L)) 4 [none, some (aI a1), some (aI a2)] [] h L (SX10_ones_4 (a1, a2)) := by
  unfold SX10_ones_4
  refine g_iload_n (M := mX10_ones) (pc := 4) 5 dX10_ones_4 rfl rfl rfl ?_
  refine g_if_eq (M := mX10_ones) (pc := 5) 20 8 dX10_ones_5 (by decide) rfl (fun _ => ?_) (fun _ => ?_)
  · exact g_jmp (fun z => v_fgt [false, true, false] z)
  · refine g_iinc (M := mX10_ones) (pc := 8) (c := 1) (ls' := [none, some (aI (a1 + 1)), some (aI a2)]) 11 dX10_ones_8 rfl ic1 rfl rfl rfl ?_
    refine g_iload_n (M := mX10_ones) (pc := 11) 12 dX10_ones_11 rfl rfl rfl ?_
    refine g_iload_n (M := mX10_ones) (pc := 12) 13 dX10_ones_12 rfl rfl rfl ?_
    refine g_iconst (M := mX10_ones) (pc := 13) (v := 1) 14 dX10_ones_13 rfl ic1 ?_
    refine g_isub (M := mX10_ones) (pc := 14) 15 dX10_ones_14 rfl ?_
    refine g_iand (M := mX10_ones) (pc := 15) 16 dX10_ones_15 rfl ?_
    refine g_nmI (fun t1 => ?_)
    refine g_istore_n (M := mX10_ones) (pc := 16) (ls' := [none, some (aI (a1 + 1)), some (aI t1)]) 17 dX10_ones_16 rfl rfl rfl rfl ?_
    refine g_goto (M := mX10_ones) (pc := 17) 4 dX10_ones_17 (by decide) ?_
    exact g_jmp (fun z => v_fgt [false, true, true] z)
set_option maxRecDepth 100000 in
set_option maxHeartbeats 4000000 in
theorem CX10_ones (a0 : Int32) (h : HI) (L : HL) : CG mX10_ones 0 [aI a0] h L (lfI h L) (FX10_ones a0) := by
  unfold FX10_ones
  refine cg_of [some (aI a0), none, none] rfl (by decide) rfl rfl (fun T => ?_)
  refine g_iconst (M := mX10_ones) (pc := 0) (v := 0) 1 dX10_ones_0 rfl ic0 ?_
  refine g_istore_n (M := mX10_ones) (pc := 1) (ls' := [some (aI a0), some (aI 0), none]) 2 dX10_ones_1 rfl rfl rfl rfl ?_
  refine g_iload_n (M := mX10_ones) (pc := 2) 3 dX10_ones_2 rfl rfl rfl ?_
  refine g_istore_n (M := mX10_ones) (pc := 3) (ls' := [some (aI a0), some (aI 0), some (aI a0)]) 4 dX10_ones_3 rfl rfl rfl rfl ?_
  refine g_loop (fun s => SX10_ones_4_ok h L T s.1 s.2) ?_ (fun z => v_fgt [false, true, true] z)
  intro e2
  show VX mX10_ones 0 T _ 20 [none, some (aI e2), none] [] h L _
  refine g_iload_n (M := mX10_ones) (pc := 20) 21 dX10_ones_20 rfl rfl rfl ?_
  exact g_iret (M := mX10_ones) (pc := 21) dX10_ones_21 rfl rfl (fun z => z)
