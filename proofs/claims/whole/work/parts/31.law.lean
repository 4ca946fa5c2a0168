-- the law's loop, by program
def JL_law_224 (n : Nat) (xs : Nat → Int32) (a3 : Int32) (h : HI) (L : HL) : Option ((Int32 × HI × HL) ⊕ (Int32)) :=
  gd (ixb (a3 + 1) n) <|
  gd (ixb (a3 + 2) n) <|
  gd (ixb (a3 + 3) n) <|
  gd (ixb (a3 + 4) n) <|
  Option.bind (FX9_phrase (xs (nC (a3 + 1))) (xs (nC (a3 + 2))) (xs (nC (a3 + 3))) (xs (nC (a3 + 4))) h) fun (r2, h3) =>
  gd (ixb (a3 + 1) n) <|
  gd (ixb (a3 + 2) n) <|
  gd (ixb (a3 + 3) n) <|
  gd (ixb (a3 + 4) n) <|
  Option.bind (FX10_phrase (xs (nC (a3 + 1))) (xs (nC (a3 + 2))) (xs (nC (a3 + 3))) (xs (nC (a3 + 4))) h3) fun (r4, h5) =>
  if r2 = r4 then
    some (Sum.inl ((a3 + 6), h5, L))
  else
    some (Sum.inr 0)
def JL_law_277 (n : Nat) (xs : Nat → Int32) (a3 : Int32) (h : HI) (L : HL) : Option ((Int32 × HI × HL) ⊕ (Int32)) :=
  gd (ixb (a3 + 1) n) <|
  gd (ixb (a3 + 2) n) <|
  Option.bind (FX9_of (xs (nC (a3 + 1))) (xs (nC (a3 + 2))) h) fun (r6, h7) =>
  gd (ixb (a3 + 1) n) <|
  gd (ixb (a3 + 2) n) <|
  Option.bind (FX10_of (xs (nC (a3 + 1))) (xs (nC (a3 + 2))) h7) fun (r8, h9) =>
  if r6 = r8 then
    some (Sum.inl ((a3 + 6), h9, L))
  else
    some (Sum.inr 0)
def JL_law_310 (n : Nat) (xs : Nat → Int32) (a3 : Int32) (h : HI) (L : HL) : Option ((Int32 × HI × HL) ⊕ (Int32)) :=
  gd (ixb (a3 + 1) n) <|
  gd (ixb (a3 + 2) n) <|
  gd (ixb (a3 + 3) n) <|
  Option.bind (FX9_set (xs (nC (a3 + 1))) (xs (nC (a3 + 2))) (xs (nC (a3 + 3))) h) fun (r10, h11) =>
  gd (ixb (a3 + 1) n) <|
  gd (ixb (a3 + 2) n) <|
  gd (ixb (a3 + 3) n) <|
  Option.bind (FX10_set (xs (nC (a3 + 1))) (xs (nC (a3 + 2))) (xs (nC (a3 + 3))) h11) fun (r12, h13) =>
  if r10 = r12 then
    some (Sum.inl ((a3 + 6), h13, L))
  else
    some (Sum.inr 0)
def JL_law_353 (n : Nat) (xs : Nat → Int32) (a3 : Int32) (h : HI) (L : HL) : Option ((Int32 × HI × HL) ⊕ (Int32)) :=
  gd (ixb (a3 + 1) n) <|
  gd (ixb (a3 + 2) n) <|
  Option.bind (FX9_turn (xs (nC (a3 + 1))) (xs (nC (a3 + 2))) h) fun (r14, h15) =>
  gd (ixb (a3 + 1) n) <|
  gd (ixb (a3 + 2) n) <|
  Option.bind (FX10_turn (xs (nC (a3 + 1))) (xs (nC (a3 + 2))) h15) fun (r16, h17) =>
  if r14 = r16 then
    some (Sum.inl ((a3 + 6), h17, L))
  else
    some (Sum.inr 0)
def JL_law_386 (n : Nat) (xs : Nat → Int32) (a3 : Int32) (h : HI) (L : HL) : Option ((Int32 × HI × HL) ⊕ (Int32)) :=
  gd (ixb (a3 + 1) n) <|
  gd (ixb (a3 + 2) n) <|
  Option.bind (FX9_as (xs (nC (a3 + 1))) (xs (nC (a3 + 2))) h) fun (r18, h19) =>
  gd (ixb (a3 + 1) n) <|
  gd (ixb (a3 + 2) n) <|
  Option.bind (FX10_as (xs (nC (a3 + 1))) (xs (nC (a3 + 2))) h19) fun (r20, h21) =>
  if r18 = r20 then
    some (Sum.inl ((a3 + 6), h21, L))
  else
    some (Sum.inr 0)
def JL_law_419 (n : Nat) (xs : Nat → Int32) (a3 : Int32) (h : HI) (L : HL) : Option ((Int32 × HI × HL) ⊕ (Int32)) :=
  gd (ixb (a3 + 1) n) <|
  gd (ixb (a3 + 2) n) <|
  gd (ixb (a3 + 3) n) <|
  Option.bind (FX9_want (xs (nC (a3 + 1))) (xs (nC (a3 + 2))) (xs (nC (a3 + 3))) h) fun (r22, h23) =>
  gd (ixb (a3 + 1) n) <|
  gd (ixb (a3 + 2) n) <|
  gd (ixb (a3 + 3) n) <|
  Option.bind (FX10_want (xs (nC (a3 + 1))) (xs (nC (a3 + 2))) (xs (nC (a3 + 3))) h23) fun (r24, h25) =>
  if r22 = r24 then
    some (Sum.inl ((a3 + 6), h25, L))
  else
    some (Sum.inr 0)
def JL_law_462 (n : Nat) (xs : Nat → Int32) (a3 : Int32) (h : HI) (L : HL) : Option ((Int32 × HI × HL) ⊕ (Int32)) :=
  gd (ixb (a3 + 1) n) <|
  gd (ixb (a3 + 2) n) <|
  Option.bind (FX9_wantOf (xs (nC (a3 + 1))) (xs (nC (a3 + 2))) h) fun (r26, h27) =>
  gd (ixb (a3 + 1) n) <|
  gd (ixb (a3 + 2) n) <|
  Option.bind (FX10_wantOf (xs (nC (a3 + 1))) (xs (nC (a3 + 2))) h27) fun (r28, h29) =>
  if r26 = r28 then
    some (Sum.inl ((a3 + 6), h29, L))
  else
    some (Sum.inr 0)
def JL_law_495 (n : Nat) (xs : Nat → Int32) (a3 : Int32) (h : HI) (L : HL) : Option ((Int32 × HI × HL) ⊕ (Int32)) :=
  gd (ixb (a3 + 1) n) <|
  gd (ixb (a3 + 2) n) <|
  gd (ixb (a3 + 3) n) <|
  Option.bind (FX9_change (xs (nC (a3 + 1))) (xs (nC (a3 + 2))) (xs (nC (a3 + 3))) h) fun (r30, h31) =>
  gd (ixb (a3 + 1) n) <|
  gd (ixb (a3 + 2) n) <|
  gd (ixb (a3 + 3) n) <|
  Option.bind (FX10_change (xs (nC (a3 + 1))) (xs (nC (a3 + 2))) (xs (nC (a3 + 3))) h31) fun (r32, h33) =>
  if r30 = r32 then
    some (Sum.inl ((a3 + 6), h33, L))
  else
    some (Sum.inr 0)
def JL_law_538 (n : Nat) (xs : Nat → Int32) (a3 : Int32) (h : HI) (L : HL) : Option ((Int32 × HI × HL) ⊕ (Int32)) :=
  gd (ixb (a3 + 1) n) <|
  gd (ixb (a3 + 2) n) <|
  gd (ixb (a3 + 3) n) <|
  Option.bind (FX9_gain (xs (nC (a3 + 1))) (xs (nC (a3 + 2))) (xs (nC (a3 + 3))) h) fun (r34, h35) =>
  gd (ixb (a3 + 1) n) <|
  gd (ixb (a3 + 2) n) <|
  gd (ixb (a3 + 3) n) <|
  Option.bind (FX10_gain (xs (nC (a3 + 1))) (xs (nC (a3 + 2))) (xs (nC (a3 + 3))) h35) fun (r36, h37) =>
  if r34 = r36 then
    some (Sum.inl ((a3 + 6), h37, L))
  else
    some (Sum.inr 0)
def JL_law_581 (n : Nat) (xs : Nat → Int32) (a3 : Int32) (h : HI) (L : HL) : Option ((Int32 × HI × HL) ⊕ (Int32)) :=
  gd (ixb (a3 + 1) n) <|
  gd (ixb (a3 + 2) n) <|
  Option.bind (FX9_met (xs (nC (a3 + 1))) (xs (nC (a3 + 2))) h) fun (r38, h39) =>
  gd (ixb (a3 + 1) n) <|
  gd (ixb (a3 + 2) n) <|
  Option.bind (FX10_met (xs (nC (a3 + 1))) (xs (nC (a3 + 2))) h39) fun (r40, h41) =>
  if r38 = r40 then
    some (Sum.inl ((a3 + 6), h41, L))
  else
    some (Sum.inr 0)
def JL_law_614 (n : Nat) (xs : Nat → Int32) (a3 : Int32) (h : HI) (L : HL) : Option ((Int32 × HI × HL) ⊕ (Int32)) :=
  gd (ixb (a3 + 1) n) <|
  Option.bind (FX9_value (xs (nC (a3 + 1))) h) fun (r42, h43) =>
  gd (ixb (a3 + 1) n) <|
  Option.bind (FX10_value (xs (nC (a3 + 1))) h43) fun (r44, h45) =>
  if r42 = r44 then
    some (Sum.inl ((a3 + 6), h45, L))
  else
    some (Sum.inr 0)
def JL_law_637 (n : Nat) (xs : Nat → Int32) (a3 : Int32) (h : HI) (L : HL) : Option ((Int32 × HI × HL) ⊕ (Int32)) :=
  gd (ixb (a3 + 1) n) <|
  gd (ixb (a3 + 2) n) <|
  Option.bind (FX9_by (xs (nC (a3 + 1))) (xs (nC (a3 + 2))) h) fun (r46, h47) =>
  gd (ixb (a3 + 1) n) <|
  gd (ixb (a3 + 2) n) <|
  Option.bind (FX10_by (xs (nC (a3 + 1))) (xs (nC (a3 + 2))) h47) fun (r48, h49) =>
  if r46 = r48 then
    some (Sum.inl ((a3 + 6), h49, L))
  else
    some (Sum.inr 0)
def JL_law_670 (n : Nat) (xs : Nat → Int32) (a3 : Int32) (h : HI) (L : HL) : Option ((Int32 × HI × HL) ⊕ (Int32)) :=
  gd (ixb (a3 + 1) n) <|
  gd (ixb (a3 + 2) n) <|
  Option.bind (FX9_best (xs (nC (a3 + 1))) (xs (nC (a3 + 2))) h) fun (r50, h51) =>
  gd (ixb (a3 + 1) n) <|
  gd (ixb (a3 + 2) n) <|
  Option.bind (FX10_best (xs (nC (a3 + 1))) (xs (nC (a3 + 2))) h51) fun (r52, h53) =>
  if r50 = r52 then
    some (Sum.inl ((a3 + 6), h53, L))
  else
    some (Sum.inr 0)
def JL_law_703 (n : Nat) (xs : Nat → Int32) (a3 : Int32) (h : HI) (L : HL) : Option ((Int32 × HI × HL) ⊕ (Int32)) :=
  gd (ixb (a3 + 1) n) <|
  gd (ixb (a3 + 2) n) <|
  Option.bind (FX9_greedy (xs (nC (a3 + 1))) (xs (nC (a3 + 2))) h) fun (r54, h55) =>
  gd (ixb (a3 + 1) n) <|
  gd (ixb (a3 + 2) n) <|
  Option.bind (FX10_greedy (xs (nC (a3 + 1))) (xs (nC (a3 + 2))) h55) fun (r56, h57) =>
  if r54 = r56 then
    some (Sum.inl ((a3 + 6), h57, L))
  else
    some (Sum.inr 0)
def JL_law_736 (n : Nat) (xs : Nat → Int32) (a3 : Int32) (h : HI) (L : HL) : Option ((Int32 × HI × HL) ⊕ (Int32)) :=
  gd (ixb (a3 + 1) n) <|
  Option.bind (FX9_next (xs (nC (a3 + 1))) h) fun (r58, h59) =>
  gd (ixb (a3 + 1) n) <|
  Option.bind (FX10_next (xs (nC (a3 + 1))) h59) fun (r60, h61) =>
  if r58 = r60 then
    some (Sum.inl ((a3 + 6), h61, L))
  else
    some (Sum.inr 0)
def JL_law_759 (n : Nat) (xs : Nat → Int32) (a3 : Int32) (h : HI) (L : HL) : Option ((Int32 × HI × HL) ⊕ (Int32)) :=
  gd (ixb (a3 + 1) n) <|
  Option.bind (FX9_spare (xs (nC (a3 + 1))) h) fun (r62, h63) =>
  gd (ixb (a3 + 1) n) <|
  Option.bind (FX10_spare (xs (nC (a3 + 1))) h63) fun (r64, h65) =>
  if r62 = r64 then
    some (Sum.inl ((a3 + 6), h65, L))
  else
    some (Sum.inr 0)
def JL_law_782 (n : Nat) (xs : Nat → Int32) (a3 : Int32) (h : HI) (L : HL) : Option ((Int32 × HI × HL) ⊕ (Int32)) :=
  gd (ixb (a3 + 1) n) <|
  Option.bind (FX9_minutesFor (xs (nC (a3 + 1))) h) fun (r66, h67) =>
  gd (ixb (a3 + 1) n) <|
  Option.bind (FX10_minutesFor (xs (nC (a3 + 1))) h67) fun (r68, h69) =>
  if r66 = r68 then
    some (Sum.inl ((a3 + 6), h69, L))
  else
    some (Sum.inr 0)
def JL_law_805 (n : Nat) (xs : Nat → Int32) (a3 : Int32) (h : HI) (L : HL) : Option ((Int32 × HI × HL) ⊕ (Int32)) :=
  gd (ixb (a3 + 1) n) <|
  Option.bind (FX9_queue (xs (nC (a3 + 1))) h) fun (r70, h71) =>
  gd (ixb (a3 + 1) n) <|
  Option.bind (FX10_queue (xs (nC (a3 + 1))) h71) fun (r72, h73) =>
  if r70 = r72 then
    some (Sum.inl ((a3 + 6), h73, L))
  else
    some (Sum.inr 0)
def JL_law_828 (n : Nat) (xs : Nat → Int32) (a3 : Int32) (h : HI) (L : HL) : Option ((Int32 × HI × HL) ⊕ (Int32)) :=
  gd (ixb (a3 + 1) n) <|
  Option.bind (FX9_skip (xs (nC (a3 + 1))) h) fun (r74, h75) =>
  gd (ixb (a3 + 1) n) <|
  Option.bind (FX10_skip (xs (nC (a3 + 1))) h75) fun (r76, h77) =>
  if r74 = r76 then
    some (Sum.inl ((a3 + 6), h77, L))
  else
    some (Sum.inr 0)
def JL_law_851 (n : Nat) (xs : Nat → Int32) (a3 : Int32) (h : HI) (L : HL) : Option ((Int32 × HI × HL) ⊕ (Int32)) :=
  gd (ixb (a3 + 1) n) <|
  Option.bind (FX9_ith (xs (nC (a3 + 1))) h) fun (r78, h79) =>
  gd (ixb (a3 + 1) n) <|
  Option.bind (FX10_ith (xs (nC (a3 + 1))) h79) fun (r80, h81) =>
  if r78 = r80 then
    some (Sum.inl ((a3 + 6), h81, L))
  else
    some (Sum.inr 0)
def JL_law_874 (n : Nat) (xs : Nat → Int32) (a3 : Int32) (h : HI) (L : HL) : Option ((Int32 × HI × HL) ⊕ (Int32)) :=
  gd (ixb (a3 + 1) n) <|
  gd (ixb (a3 + 2) n) <|
  Option.bind (FX9_learn (xs (nC (a3 + 1))) (xs (nC (a3 + 2))) h) fun (r82, h83) =>
  gd (ixb (a3 + 1) n) <|
  gd (ixb (a3 + 2) n) <|
  Option.bind (FX10_learn (xs (nC (a3 + 1))) (xs (nC (a3 + 2))) h83) fun (r84, h85) =>
  if r82 = r84 then
    some (Sum.inl ((a3 + 6), h85, L))
  else
    some (Sum.inr 0)
def JL_law_907 (n : Nat) (xs : Nat → Int32) (a3 : Int32) (h : HI) (L : HL) : Option ((Int32 × HI × HL) ⊕ (Int32)) :=
  gd (ixb (a3 + 1) n) <|
  Option.bind (FX9_evening (xs (nC (a3 + 1))) h) fun (r86, h87) =>
  gd (ixb (a3 + 1) n) <|
  Option.bind (FX10_evening (xs (nC (a3 + 1))) h87) fun (r88, h89) =>
  if r86 = r88 then
    some (Sum.inl ((a3 + 6), h89, L))
  else
    some (Sum.inr 0)
def JL_law_930 (n : Nat) (xs : Nat → Int32) (a3 : Int32) (h : HI) (L : HL) : Option ((Int32 × HI × HL) ⊕ (Int32)) :=
  gd (ixb (a3 + 1) n) <|
  Option.bind (FX9_line (xs (nC (a3 + 1))) h) fun (r90, h91) =>
  gd (ixb (a3 + 1) n) <|
  Option.bind (FX10_line (xs (nC (a3 + 1))) h91) fun (r92, h93) =>
  if r90 = r92 then
    some (Sum.inl ((a3 + 6), h93, L))
  else
    some (Sum.inr 0)
def JL_law_953 (n : Nat) (xs : Nat → Int32) (a3 : Int32) (h : HI) (L : HL) : Option ((Int32 × HI × HL) ⊕ (Int32)) :=
  Option.bind (FX9_known h) fun r94 =>
  Option.bind (FX10_known h) fun r95 =>
  if r94 = r95 then
    some (Sum.inl ((a3 + 6), h, L))
  else
    some (Sum.inr 0)
def JL_law_966 (n : Nat) (xs : Nat → Int32) (a3 : Int32) (h : HI) (L : HL) : Option ((Int32 × HI × HL) ⊕ (Int32)) :=
  gd (ixb (a3 + 1) n) <|
  Option.bind (FX9_days (xs (nC (a3 + 1))) h) fun (r96, h97) =>
  gd (ixb (a3 + 1) n) <|
  Option.bind (FX10_days (xs (nC (a3 + 1))) h97) fun (r98, h99) =>
  if r96 = r98 then
    some (Sum.inl ((a3 + 6), h99, L))
  else
    some (Sum.inr 0)
def JL_law_989 (n : Nat) (xs : Nat → Int32) (a3 : Int32) (h : HI) (L : HL) : Option ((Int32 × HI × HL) ⊕ (Int32)) :=
  gd (ixb (a3 + 1) n) <|
  Option.bind (FX9_now (xs (nC (a3 + 1))) h) fun (r100, h101) =>
  gd (ixb (a3 + 1) n) <|
  Option.bind (FX10_now (xs (nC (a3 + 1))) h101) fun (r102, h103) =>
  if r100 = r102 then
    some (Sum.inl ((a3 + 6), h103, L))
  else
    some (Sum.inr 0)
def JL_law_1012 (n : Nat) (xs : Nat → Int32) (a3 : Int32) (h : HI) (L : HL) : Option ((Int32 × HI × HL) ⊕ (Int32)) :=
  gd (ixb (a3 + 1) n) <|
  gd (ixb (a3 + 2) n) <|
  Option.bind (FX9_on (xs (nC (a3 + 1))) (xs (nC (a3 + 2))) h) fun (r104, h105) =>
  gd (ixb (a3 + 1) n) <|
  gd (ixb (a3 + 2) n) <|
  Option.bind (FX10_on (xs (nC (a3 + 1))) (xs (nC (a3 + 2))) h105) fun (r106, h107) =>
  if r104 = r106 then
    some (Sum.inl ((a3 + 6), h107, L))
  else
    some (Sum.inr 0)
def JL_law_1045 (n : Nat) (xs : Nat → Int32) (a3 : Int32) (h : HI) (L : HL) : Option ((Int32 × HI × HL) ⊕ (Int32)) :=
  gd (ixb (a3 + 1) n) <|
  Option.bind (FX9_forgot (xs (nC (a3 + 1))) h) fun (r108, h109) =>
  gd (ixb (a3 + 1) n) <|
  Option.bind (FX10_forgot (xs (nC (a3 + 1))) h109) fun (r110, h111) =>
  if r108 = r110 then
    some (Sum.inl ((a3 + 6), h111, L))
  else
    some (Sum.inr 0)
def JL_law_1068 (n : Nat) (xs : Nat → Int32) (a3 : Int32) (h : HI) (L : HL) : Option ((Int32 × HI × HL) ⊕ (Int32)) :=
  gd (ixb (a3 + 1) n) <|
  Option.bind (FX9_useless (xs (nC (a3 + 1))) h) fun (r112, h113) =>
  gd (ixb (a3 + 1) n) <|
  Option.bind (FX10_useless (xs (nC (a3 + 1))) h113) fun (r114, h115) =>
  if r112 = r114 then
    some (Sum.inl ((a3 + 6), h115, L))
  else
    some (Sum.inr 0)
def JL_law_1091 (n : Nat) (xs : Nat → Int32) (a3 : Int32) (h : HI) (L : HL) : Option ((Int32 × HI × HL) ⊕ (Int32)) :=
  gd (ixb (a3 + 1) n) <|
  Option.bind (FX9_tonight (xs (nC (a3 + 1))) h) fun (r116, h117) =>
  gd (ixb (a3 + 1) n) <|
  Option.bind (FX10_tonight (xs (nC (a3 + 1))) h117) fun (r118, h119) =>
  if r116 = r118 then
    some (Sum.inl ((a3 + 6), h119, L))
  else
    some (Sum.inr 0)
def JL_law_1114 (n : Nat) (xs : Nat → Int32) (a3 : Int32) (h : HI) (L : HL) : Option ((Int32 × HI × HL) ⊕ (Int32)) :=
  gd (ixb (a3 + 1) n) <|
  gd (ixb (a3 + 2) n) <|
  gd (ixb (a3 + 3) n) <|
  gd (ixb (a3 + 4) n) <|
  Option.bind (FX9_plan (xs (nC (a3 + 1))) (xs (nC (a3 + 2))) (xs (nC (a3 + 3))) (xs (nC (a3 + 4))) h) fun (r120, h121) =>
  gd (ixb (a3 + 1) n) <|
  gd (ixb (a3 + 2) n) <|
  gd (ixb (a3 + 3) n) <|
  gd (ixb (a3 + 4) n) <|
  Option.bind (FX10_plan (xs (nC (a3 + 1))) (xs (nC (a3 + 2))) (xs (nC (a3 + 3))) (xs (nC (a3 + 4))) h121) fun (r122, h123) =>
  if r120 = r122 then
    some (Sum.inl ((a3 + 6), h123, L))
  else
    some (Sum.inr 0)
def JL_law_1167 (n : Nat) (xs : Nat → Int32) (a3 : Int32) (h : HI) (L : HL) : Option ((Int32 × HI × HL) ⊕ (Int32)) :=
  gd (ixb (a3 + 1) n) <|
  gd (ixb (a3 + 2) n) <|
  Option.bind (FX9_feed (xs (nC (a3 + 1))) (xs (nC (a3 + 2))) h) fun (r124, h125) =>
  gd (ixb (a3 + 1) n) <|
  gd (ixb (a3 + 2) n) <|
  Option.bind (FX10_feed (xs (nC (a3 + 1))) (xs (nC (a3 + 2))) h125) fun (r126, h127) =>
  if r124 = r126 then
    some (Sum.inl ((a3 + 6), h127, L))
  else
    some (Sum.inr 0)
def JL_law_1200 (n : Nat) (xs : Nat → Int32) (a3 : Int32) (h : HI) (L : HL) : Option ((Int32 × HI × HL) ⊕ (Int32)) :=
  Option.bind (FX9_wipe h) fun (r128, h129) =>
  Option.bind (FX10_wipe h129) fun (r130, h131) =>
  if r128 = r130 then
    some (Sum.inl ((a3 + 6), h131, L))
  else
    some (Sum.inr 0)
def JL_law_1213 (n : Nat) (xs : Nat → Int32) (a3 : Int32) (h : HI) (L : HL) : Option ((Int32 × HI × HL) ⊕ (Int32)) :=
  Option.bind (FX9_book h) fun (r132, h133) =>
  Option.bind (FX10_book h133) fun (r134, h135) =>
  if r132 = r134 then
    some (Sum.inl ((a3 + 6), h135, L))
  else
    some (Sum.inr 0)
def JL_law_1226 (n : Nat) (xs : Nat → Int32) (a3 : Int32) (h : HI) (L : HL) : Option ((Int32 × HI × HL) ⊕ (Int32)) :=
  gd (ixb (a3 + 1) n) <|
  gd (ixb (a3 + 2) n) <|
  gd (ixb (a3 + 3) n) <|
  Option.bind (FX9_sheet (xs (nC (a3 + 1))) (xs (nC (a3 + 2))) (xs (nC (a3 + 3))) h L) fun (r136, h137, L138) =>
  gd (ixb (a3 + 1) n) <|
  gd (ixb (a3 + 2) n) <|
  gd (ixb (a3 + 3) n) <|
  Option.bind (FX10_sheet (xs (nC (a3 + 1))) (xs (nC (a3 + 2))) (xs (nC (a3 + 3))) h137 L138) fun (r139, h140, L141) =>
  if r136 = r139 then
    some (Sum.inl ((a3 + 6), h140, L141))
  else
    some (Sum.inr 0)
def JL_law_1269 (n : Nat) (xs : Nat → Int32) (a3 : Int32) (h : HI) (L : HL) : Option ((Int32 × HI × HL) ⊕ (Int32)) :=
  gd (ixb (a3 + 1) n) <|
  gd (ixb (a3 + 2) n) <|
  gd (ixb (a3 + 3) n) <|
  gd (ixb (a3 + 4) n) <|
  Option.bind (FX9_write (xs (nC (a3 + 1))) (xs (nC (a3 + 2))) (((Int32.toInt64 (xs (nC (a3 + 3)))) <<< (Int32.toInt64 32 &&& 63)) ||| ((Int32.toInt64 (xs (nC (a3 + 4)))) &&& 4294967295)) h L) fun (r142, h143, L144) =>
  gd (ixb (a3 + 1) n) <|
  gd (ixb (a3 + 2) n) <|
  gd (ixb (a3 + 3) n) <|
  gd (ixb (a3 + 4) n) <|
  Option.bind (FX10_write (xs (nC (a3 + 1))) (xs (nC (a3 + 2))) (((Int32.toInt64 (xs (nC (a3 + 3)))) <<< (Int32.toInt64 32 &&& 63)) ||| ((Int32.toInt64 (xs (nC (a3 + 4)))) &&& 4294967295)) h143 L144) fun (r145, h146, L147) =>
  if (lg_cmp r142 r145) = 0 then
    some (Sum.inl ((a3 + 6), h146, L147))
  else
    some (Sum.inr 0)
def JL_law_1343 (n : Nat) (xs : Nat → Int32) (a3 : Int32) (h : HI) (L : HL) : Option ((Int32 × HI × HL) ⊕ (Int32)) :=
  gd (ixb (a3 + 1) n) <|
  gd (ixb (a3 + 2) n) <|
  gd (ixb (a3 + 3) n) <|
  gd (ixb (a3 + 4) n) <|
  gd (ixb (a3 + 5) n) <|
  Option.bind (FX9_copy (xs (nC (a3 + 1))) (xs (nC (a3 + 2))) (xs (nC (a3 + 3))) (xs (nC (a3 + 4))) (xs (nC (a3 + 5))) h L) fun (r148, h149, L150) =>
  gd (ixb (a3 + 1) n) <|
  gd (ixb (a3 + 2) n) <|
  gd (ixb (a3 + 3) n) <|
  gd (ixb (a3 + 4) n) <|
  gd (ixb (a3 + 5) n) <|
  Option.bind (FX10_copy (xs (nC (a3 + 1))) (xs (nC (a3 + 2))) (xs (nC (a3 + 3))) (xs (nC (a3 + 4))) (xs (nC (a3 + 5))) h149 L150) fun (r151, h152, L153) =>
  if r148 = r151 then
    some (Sum.inl ((a3 + 6), h152, L153))
  else
    some (Sum.inr 0)
def JL_law_1406 (n : Nat) (xs : Nat → Int32) (a3 : Int32) (h : HI) (L : HL) : Option ((Int32 × HI × HL) ⊕ (Int32)) :=
  gd (ixb (a3 + 1) n) <|
  Option.bind (FX9_lays (xs (nC (a3 + 1))) h L) fun (r154, h155) =>
  gd (ixb (a3 + 1) n) <|
  Option.bind (FX10_lays (xs (nC (a3 + 1))) h155 L) fun (r156, h157) =>
  if r154 = r156 then
    some (Sum.inl ((a3 + 6), h157, L))
  else
    some (Sum.inr 0)
def JL_law_1429 (n : Nat) (xs : Nat → Int32) (a3 : Int32) (h : HI) (L : HL) : Option ((Int32 × HI × HL) ⊕ (Int32)) :=
  gd (ixb (a3 + 1) n) <|
  Option.bind (FX9_read (xs (nC (a3 + 1))) h L) fun (r158, h159) =>
  gd (ixb (a3 + 1) n) <|
  Option.bind (FX10_read (xs (nC (a3 + 1))) h159 L) fun (r160, h161) =>
  if r158 = r160 then
    some (Sum.inl ((a3 + 6), h161, L))
  else
    some (Sum.inr 0)
def JL_law_1452 (n : Nat) (xs : Nat → Int32) (a3 : Int32) (h : HI) (L : HL) : Option ((Int32 × HI × HL) ⊕ (Int32)) :=
  Option.bind (FX9_image h) fun (r162, h163) =>
  Option.bind (FX10_image h163) fun (r164, h165) =>
  if r162 = r164 then
    some (Sum.inl ((a3 + 6), h165, L))
  else
    some (Sum.inr 0)
def JL_law_1465 (n : Nat) (xs : Nat → Int32) (a3 : Int32) (h : HI) (L : HL) : Option ((Int32 × HI × HL) ⊕ (Int32)) :=
  Option.bind (FX9_undo h) fun (r166, h167) =>
  Option.bind (FX10_undo h167) fun (r168, h169) =>
  if r166 = r168 then
    some (Sum.inl ((a3 + 6), h169, L))
  else
    some (Sum.inr 0)
def JL_law_1478 (n : Nat) (xs : Nat → Int32) (a3 : Int32) (h : HI) (L : HL) : Option ((Int32 × HI × HL) ⊕ (Int32)) :=
  Option.bind (FX9_tear h) fun (r170, h171) =>
  Option.bind (FX10_tear h171) fun (r172, h173) =>
  if r170 = r172 then
    some (Sum.inl ((a3 + 6), h173, L))
  else
    some (Sum.inr 0)
def JL_law_1491 (n : Nat) (xs : Nat → Int32) (a3 : Int32) (h : HI) (L : HL) : Option ((Int32 × HI × HL) ⊕ (Int32)) :=
  gd (ixb (a3 + 1) n) <|
  Option.bind (FX9_count (xs (nC (a3 + 1))) h) fun (r174, h175) =>
  gd (ixb (a3 + 1) n) <|
  Option.bind (FX10_count (xs (nC (a3 + 1))) h175) fun (r176, h177) =>
  if r174 = r176 then
    some (Sum.inl ((a3 + 6), h177, L))
  else
    some (Sum.inr 0)
def JL_law_1514 (n : Nat) (xs : Nat → Int32) (a3 : Int32) (h : HI) (L : HL) : Option ((Int32 × HI × HL) ⊕ (Int32)) :=
  gd (ixb (a3 + 1) n) <|
  Option.bind (FX9_status (xs (nC (a3 + 1))) h) fun (r178, h179) =>
  gd (ixb (a3 + 1) n) <|
  Option.bind (FX10_status (xs (nC (a3 + 1))) h179) fun (r180, h181) =>
  if r178 = r180 then
    some (Sum.inl ((a3 + 6), h181, L))
  else
    some (Sum.inr 0)
def SL_law_18 (n : Nat) (xs : Nat → Int32) : (Int32 × HI × HL) → Option ((Int32 × HI × HL) ⊕ (Int32))
  | (a3, h, L) =>
    if ((nI n) - 6) < a3 then
      some (Sum.inr 1)
    else
      gd (ixb a3 n) <|
      nm ((xs (nC a3)) &&& 63) fun t1 =>
      if t1 = 0 then
        JL_law_224 n xs a3 h L
      else
      if t1 = 1 then
        JL_law_277 n xs a3 h L
      else
      if t1 = 2 then
        JL_law_310 n xs a3 h L
      else
      if t1 = 3 then
        JL_law_353 n xs a3 h L
      else
      if t1 = 4 then
        JL_law_386 n xs a3 h L
      else
      if t1 = 5 then
        JL_law_419 n xs a3 h L
      else
      if t1 = 6 then
        JL_law_462 n xs a3 h L
      else
      if t1 = 7 then
        JL_law_495 n xs a3 h L
      else
      if t1 = 8 then
        JL_law_538 n xs a3 h L
      else
      if t1 = 9 then
        JL_law_581 n xs a3 h L
      else
      if t1 = 10 then
        JL_law_614 n xs a3 h L
      else
      if t1 = 11 then
        JL_law_637 n xs a3 h L
      else
      if t1 = 12 then
        JL_law_670 n xs a3 h L
      else
      if t1 = 13 then
        JL_law_703 n xs a3 h L
      else
      if t1 = 14 then
        JL_law_736 n xs a3 h L
      else
      if t1 = 15 then
        JL_law_759 n xs a3 h L
      else
      if t1 = 16 then
        JL_law_782 n xs a3 h L
      else
      if t1 = 17 then
        JL_law_805 n xs a3 h L
      else
      if t1 = 18 then
        JL_law_828 n xs a3 h L
      else
      if t1 = 19 then
        JL_law_851 n xs a3 h L
      else
      if t1 = 20 then
        JL_law_874 n xs a3 h L
      else
      if t1 = 21 then
        JL_law_907 n xs a3 h L
      else
      if t1 = 22 then
        JL_law_930 n xs a3 h L
      else
      if t1 = 23 then
        JL_law_953 n xs a3 h L
      else
      if t1 = 24 then
        JL_law_966 n xs a3 h L
      else
      if t1 = 25 then
        JL_law_989 n xs a3 h L
      else
      if t1 = 26 then
        JL_law_1012 n xs a3 h L
      else
      if t1 = 27 then
        JL_law_1045 n xs a3 h L
      else
      if t1 = 28 then
        JL_law_1068 n xs a3 h L
      else
      if t1 = 29 then
        JL_law_1091 n xs a3 h L
      else
      if t1 = 30 then
        JL_law_1114 n xs a3 h L
      else
      if t1 = 31 then
        JL_law_1167 n xs a3 h L
      else
      if t1 = 32 then
        JL_law_1200 n xs a3 h L
      else
      if t1 = 33 then
        JL_law_1213 n xs a3 h L
      else
      if t1 = 34 then
        JL_law_1226 n xs a3 h L
      else
      if t1 = 35 then
        JL_law_1269 n xs a3 h L
      else
      if t1 = 36 then
        JL_law_1343 n xs a3 h L
      else
      if t1 = 37 then
        JL_law_1406 n xs a3 h L
      else
      if t1 = 38 then
        JL_law_1429 n xs a3 h L
      else
      if t1 = 39 then
        JL_law_1452 n xs a3 h L
      else
      if t1 = 40 then
        JL_law_1465 n xs a3 h L
      else
      if t1 = 41 then
        JL_law_1478 n xs a3 h L
      else
      if t1 = 42 then
        JL_law_1491 n xs a3 h L
      else
      if t1 = 43 then
        JL_law_1514 n xs a3 h L
      else
      some (Sum.inl ((a3 + 6), h, L))
set_option maxRecDepth 100000 in
set_option maxHeartbeats 4000000 in
theorem JL_law_224_ok (n : Nat) (xs : Nat → Int32) (a3 : Int32) (b : Nat) (h : HI) (L : HL) : VX mL_law 12 (ZL b n xs) (gS (fun s : Int32 × HI × HL => V mL_law 12 (ZL b n xs) 18 [some (aR 12 0), some (aR 3 16), some (aR 8 32), some (aI (s.1))] [] (s.2.1) (s.2.2)) (fun r => r = 1)) 224 [some (aR 12 0), some (aR 3 16), some (aR 8 32), some (aI a3)] [] h L (JL_law_224 n xs a3 h L) := by
  unfold JL_law_224
  refine g_aload_n (M := mL_law) (pc := 224) 225 dL_law_224 rfl rfl rfl ?_
  refine g_aload_n (M := mL_law) (pc := 225) 226 dL_law_225 rfl rfl rfl ?_
  refine g_iload_n (M := mL_law) (pc := 226) 227 dL_law_226 rfl rfl rfl ?_
  refine g_iconst (M := mL_law) (pc := 227) (v := 1) 228 dL_law_227 rfl ic1 ?_
  refine g_iadd (M := mL_law) (pc := 228) 229 dL_law_228 rfl ?_
  refine g_scld (M := mL_law) (pc := 229) 230 dL_law_229 rfl ?_
  refine g_aload_n (M := mL_law) (pc := 230) 231 dL_law_230 rfl rfl rfl ?_
  refine g_iload_n (M := mL_law) (pc := 231) 232 dL_law_231 rfl rfl rfl ?_
  refine g_iconst (M := mL_law) (pc := 232) (v := 2) 233 dL_law_232 rfl ic2 ?_
  refine g_iadd (M := mL_law) (pc := 233) 234 dL_law_233 rfl ?_
  refine g_scld (M := mL_law) (pc := 234) 235 dL_law_234 rfl ?_
  refine g_aload_n (M := mL_law) (pc := 235) 236 dL_law_235 rfl rfl rfl ?_
  refine g_iload_n (M := mL_law) (pc := 236) 237 dL_law_236 rfl rfl rfl ?_
  refine g_iconst (M := mL_law) (pc := 237) (v := 3) 238 dL_law_237 rfl ic3 ?_
  refine g_iadd (M := mL_law) (pc := 238) 239 dL_law_238 rfl ?_
  refine g_scld (M := mL_law) (pc := 239) 240 dL_law_239 rfl ?_
  refine g_aload_n (M := mL_law) (pc := 240) 241 dL_law_240 rfl rfl rfl ?_
  refine g_iload_n (M := mL_law) (pc := 241) 242 dL_law_241 rfl rfl rfl ?_
  refine g_iconst (M := mL_law) (pc := 242) (v := 4) 243 dL_law_242 rfl ic4 ?_
  refine g_iadd (M := mL_law) (pc := 243) 244 dL_law_243 rfl ?_
  refine g_scld (M := mL_law) (pc := 244) 245 dL_law_244 rfl ?_
  refine g_cV_IH (M := mL_law) (pc := 245) (M' := mX9_phrase) (rest := []) 248 dL_law_245 rfl kL_13 okX9_phrase (CX9_phrase (xs (nC (a3 + 1))) (xs (nC (a3 + 2))) (xs (nC (a3 + 3))) (xs (nC (a3 + 4))) h L) oO16 rfl rfl rfl rfl (fun r2 h3 => ?_)
  refine g_aload_n (M := mL_law) (pc := 248) 249 dL_law_248 rfl rfl rfl ?_
  refine g_aload_n (M := mL_law) (pc := 249) 250 dL_law_249 rfl rfl rfl ?_
  refine g_iload_n (M := mL_law) (pc := 250) 251 dL_law_250 rfl rfl rfl ?_
  refine g_iconst (M := mL_law) (pc := 251) (v := 1) 252 dL_law_251 rfl ic1 ?_
  refine g_iadd (M := mL_law) (pc := 252) 253 dL_law_252 rfl ?_
  refine g_scld (M := mL_law) (pc := 253) 254 dL_law_253 rfl ?_
  refine g_aload_n (M := mL_law) (pc := 254) 255 dL_law_254 rfl rfl rfl ?_
  refine g_iload_n (M := mL_law) (pc := 255) 256 dL_law_255 rfl rfl rfl ?_
  refine g_iconst (M := mL_law) (pc := 256) (v := 2) 257 dL_law_256 rfl ic2 ?_
  refine g_iadd (M := mL_law) (pc := 257) 258 dL_law_257 rfl ?_
  refine g_scld (M := mL_law) (pc := 258) 259 dL_law_258 rfl ?_
  refine g_aload_n (M := mL_law) (pc := 259) 260 dL_law_259 rfl rfl rfl ?_
  refine g_iload_n (M := mL_law) (pc := 260) 261 dL_law_260 rfl rfl rfl ?_
  refine g_iconst (M := mL_law) (pc := 261) (v := 3) 262 dL_law_261 rfl ic3 ?_
  refine g_iadd (M := mL_law) (pc := 262) 263 dL_law_262 rfl ?_
  refine g_scld (M := mL_law) (pc := 263) 264 dL_law_263 rfl ?_
  refine g_aload_n (M := mL_law) (pc := 264) 265 dL_law_264 rfl rfl rfl ?_
  refine g_iload_n (M := mL_law) (pc := 265) 266 dL_law_265 rfl rfl rfl ?_
  refine g_iconst (M := mL_law) (pc := 266) (v := 4) 267 dL_law_266 rfl ic4 ?_
  refine g_iadd (M := mL_law) (pc := 267) 268 dL_law_267 rfl ?_
  refine g_scld (M := mL_law) (pc := 268) 269 dL_law_268 rfl ?_
  refine g_cV_IH (M := mL_law) (pc := 269) (M' := mX10_phrase) (rest := [aI r2]) 272 dL_law_269 rfl kL_17 okX10_phrase (CX10_phrase (xs (nC (a3 + 1))) (xs (nC (a3 + 2))) (xs (nC (a3 + 3))) (xs (nC (a3 + 4))) h3 L) oO32 rfl rfl rfl rfl (fun r4 h5 => ?_)
  refine g_icmp_eq (M := mL_law) (pc := 272) 1537 275 dL_law_272 (by decide) rfl (fun _ => ?_) (fun _ => ?_)
  · refine g_iinc (M := mL_law) (pc := 1537) (c := 6) (ls' := [some (aR 12 0), some (aR 3 16), some (aR 8 32), some (aI (a3 + 6))]) 1540 dL_law_1537 rfl ic6 rfl rfl rfl ?_
    refine g_goto (M := mL_law) (pc := 1540) 18 dL_law_1540 (by decide) ?_
    exact g_jmp (fun z => v_fgt [true, true, true, true] z)
  · refine g_iconst (M := mL_law) (pc := 275) (v := 0) 276 dL_law_275 rfl ic0 ?_
    exact g_lawret (pc := 276) dL_law_276 (fun z => z)
set_option maxRecDepth 100000 in
set_option maxHeartbeats 4000000 in
theorem JL_law_277_ok (n : Nat) (xs : Nat → Int32) (a3 : Int32) (b : Nat) (h : HI) (L : HL) : VX mL_law 12 (ZL b n xs) (gS (fun s : Int32 × HI × HL => V mL_law 12 (ZL b n xs) 18 [some (aR 12 0), some (aR 3 16), some (aR 8 32), some (aI (s.1))] [] (s.2.1) (s.2.2)) (fun r => r = 1)) 277 [some (aR 12 0), some (aR 3 16), some (aR 8 32), some (aI a3)] [] h L (JL_law_277 n xs a3 h L) := by
  unfold JL_law_277
  refine g_aload_n (M := mL_law) (pc := 277) 278 dL_law_277 rfl rfl rfl ?_
  refine g_aload_n (M := mL_law) (pc := 278) 279 dL_law_278 rfl rfl rfl ?_
  refine g_iload_n (M := mL_law) (pc := 279) 280 dL_law_279 rfl rfl rfl ?_
  refine g_iconst (M := mL_law) (pc := 280) (v := 1) 281 dL_law_280 rfl ic1 ?_
  refine g_iadd (M := mL_law) (pc := 281) 282 dL_law_281 rfl ?_
  refine g_scld (M := mL_law) (pc := 282) 283 dL_law_282 rfl ?_
  refine g_aload_n (M := mL_law) (pc := 283) 284 dL_law_283 rfl rfl rfl ?_
  refine g_iload_n (M := mL_law) (pc := 284) 285 dL_law_284 rfl rfl rfl ?_
  refine g_iconst (M := mL_law) (pc := 285) (v := 2) 286 dL_law_285 rfl ic2 ?_
  refine g_iadd (M := mL_law) (pc := 286) 287 dL_law_286 rfl ?_
  refine g_scld (M := mL_law) (pc := 287) 288 dL_law_287 rfl ?_
  refine g_cV_IH (M := mL_law) (pc := 288) (M' := mX9_of) (rest := []) 291 dL_law_288 rfl kL_18 okX9_of (CX9_of (xs (nC (a3 + 1))) (xs (nC (a3 + 2))) h L) oO16 rfl rfl rfl rfl (fun r6 h7 => ?_)
  refine g_aload_n (M := mL_law) (pc := 291) 292 dL_law_291 rfl rfl rfl ?_
  refine g_aload_n (M := mL_law) (pc := 292) 293 dL_law_292 rfl rfl rfl ?_
  refine g_iload_n (M := mL_law) (pc := 293) 294 dL_law_293 rfl rfl rfl ?_
  refine g_iconst (M := mL_law) (pc := 294) (v := 1) 295 dL_law_294 rfl ic1 ?_
  refine g_iadd (M := mL_law) (pc := 295) 296 dL_law_295 rfl ?_
  refine g_scld (M := mL_law) (pc := 296) 297 dL_law_296 rfl ?_
  refine g_aload_n (M := mL_law) (pc := 297) 298 dL_law_297 rfl rfl rfl ?_
  refine g_iload_n (M := mL_law) (pc := 298) 299 dL_law_298 rfl rfl rfl ?_
  refine g_iconst (M := mL_law) (pc := 299) (v := 2) 300 dL_law_299 rfl ic2 ?_
  refine g_iadd (M := mL_law) (pc := 300) 301 dL_law_300 rfl ?_
  refine g_scld (M := mL_law) (pc := 301) 302 dL_law_301 rfl ?_
  refine g_cV_IH (M := mL_law) (pc := 302) (M' := mX10_of) (rest := [aI r6]) 305 dL_law_302 rfl kL_22 okX10_of (CX10_of (xs (nC (a3 + 1))) (xs (nC (a3 + 2))) h7 L) oO32 rfl rfl rfl rfl (fun r8 h9 => ?_)
  refine g_icmp_eq (M := mL_law) (pc := 305) 1537 308 dL_law_305 (by decide) rfl (fun _ => ?_) (fun _ => ?_)
  · refine g_iinc (M := mL_law) (pc := 1537) (c := 6) (ls' := [some (aR 12 0), some (aR 3 16), some (aR 8 32), some (aI (a3 + 6))]) 1540 dL_law_1537 rfl ic6 rfl rfl rfl ?_
    refine g_goto (M := mL_law) (pc := 1540) 18 dL_law_1540 (by decide) ?_
    exact g_jmp (fun z => v_fgt [true, true, true, true] z)
  · refine g_iconst (M := mL_law) (pc := 308) (v := 0) 309 dL_law_308 rfl ic0 ?_
    exact g_lawret (pc := 309) dL_law_309 (fun z => z)
set_option maxRecDepth 100000 in
set_option maxHeartbeats 4000000 in
theorem JL_law_310_ok (n : Nat) (xs : Nat → Int32) (a3 : Int32) (b : Nat) (h : HI) (L : HL) : VX mL_law 12 (ZL b n xs) (gS (fun s : Int32 × HI × HL => V mL_law 12 (ZL b n xs) 18 [some (aR 12 0), some (aR 3 16), some (aR 8 32), some (aI (s.1))] [] (s.2.1) (s.2.2)) (fun r => r = 1)) 310 [some (aR 12 0), some (aR 3 16), some (aR 8 32), some (aI a3)] [] h L (JL_law_310 n xs a3 h L) := by
  unfold JL_law_310
  refine g_aload_n (M := mL_law) (pc := 310) 311 dL_law_310 rfl rfl rfl ?_
  refine g_aload_n (M := mL_law) (pc := 311) 312 dL_law_311 rfl rfl rfl ?_
  refine g_iload_n (M := mL_law) (pc := 312) 313 dL_law_312 rfl rfl rfl ?_
  refine g_iconst (M := mL_law) (pc := 313) (v := 1) 314 dL_law_313 rfl ic1 ?_
  refine g_iadd (M := mL_law) (pc := 314) 315 dL_law_314 rfl ?_
  refine g_scld (M := mL_law) (pc := 315) 316 dL_law_315 rfl ?_
  refine g_aload_n (M := mL_law) (pc := 316) 317 dL_law_316 rfl rfl rfl ?_
  refine g_iload_n (M := mL_law) (pc := 317) 318 dL_law_317 rfl rfl rfl ?_
  refine g_iconst (M := mL_law) (pc := 318) (v := 2) 319 dL_law_318 rfl ic2 ?_
  refine g_iadd (M := mL_law) (pc := 319) 320 dL_law_319 rfl ?_
  refine g_scld (M := mL_law) (pc := 320) 321 dL_law_320 rfl ?_
  refine g_aload_n (M := mL_law) (pc := 321) 322 dL_law_321 rfl rfl rfl ?_
  refine g_iload_n (M := mL_law) (pc := 322) 323 dL_law_322 rfl rfl rfl ?_
  refine g_iconst (M := mL_law) (pc := 323) (v := 3) 324 dL_law_323 rfl ic3 ?_
  refine g_iadd (M := mL_law) (pc := 324) 325 dL_law_324 rfl ?_
  refine g_scld (M := mL_law) (pc := 325) 326 dL_law_325 rfl ?_
  refine g_cV_IH (M := mL_law) (pc := 326) (M' := mX9_set) (rest := []) 329 dL_law_326 rfl kL_23 okX9_set (CX9_set (xs (nC (a3 + 1))) (xs (nC (a3 + 2))) (xs (nC (a3 + 3))) h L) oO16 rfl rfl rfl rfl (fun r10 h11 => ?_)
  refine g_aload_n (M := mL_law) (pc := 329) 330 dL_law_329 rfl rfl rfl ?_
  refine g_aload_n (M := mL_law) (pc := 330) 331 dL_law_330 rfl rfl rfl ?_
  refine g_iload_n (M := mL_law) (pc := 331) 332 dL_law_331 rfl rfl rfl ?_
  refine g_iconst (M := mL_law) (pc := 332) (v := 1) 333 dL_law_332 rfl ic1 ?_
  refine g_iadd (M := mL_law) (pc := 333) 334 dL_law_333 rfl ?_
  refine g_scld (M := mL_law) (pc := 334) 335 dL_law_334 rfl ?_
  refine g_aload_n (M := mL_law) (pc := 335) 336 dL_law_335 rfl rfl rfl ?_
  refine g_iload_n (M := mL_law) (pc := 336) 337 dL_law_336 rfl rfl rfl ?_
  refine g_iconst (M := mL_law) (pc := 337) (v := 2) 338 dL_law_337 rfl ic2 ?_
  refine g_iadd (M := mL_law) (pc := 338) 339 dL_law_338 rfl ?_
  refine g_scld (M := mL_law) (pc := 339) 340 dL_law_339 rfl ?_
  refine g_aload_n (M := mL_law) (pc := 340) 341 dL_law_340 rfl rfl rfl ?_
  refine g_iload_n (M := mL_law) (pc := 341) 342 dL_law_341 rfl rfl rfl ?_
  refine g_iconst (M := mL_law) (pc := 342) (v := 3) 343 dL_law_342 rfl ic3 ?_
  refine g_iadd (M := mL_law) (pc := 343) 344 dL_law_343 rfl ?_
  refine g_scld (M := mL_law) (pc := 344) 345 dL_law_344 rfl ?_
  refine g_cV_IH (M := mL_law) (pc := 345) (M' := mX10_set) (rest := [aI r10]) 348 dL_law_345 rfl kL_27 okX10_set (CX10_set (xs (nC (a3 + 1))) (xs (nC (a3 + 2))) (xs (nC (a3 + 3))) h11 L) oO32 rfl rfl rfl rfl (fun r12 h13 => ?_)
  refine g_icmp_eq (M := mL_law) (pc := 348) 1537 351 dL_law_348 (by decide) rfl (fun _ => ?_) (fun _ => ?_)
  · refine g_iinc (M := mL_law) (pc := 1537) (c := 6) (ls' := [some (aR 12 0), some (aR 3 16), some (aR 8 32), some (aI (a3 + 6))]) 1540 dL_law_1537 rfl ic6 rfl rfl rfl ?_
    refine g_goto (M := mL_law) (pc := 1540) 18 dL_law_1540 (by decide) ?_
    exact g_jmp (fun z => v_fgt [true, true, true, true] z)
  · refine g_iconst (M := mL_law) (pc := 351) (v := 0) 352 dL_law_351 rfl ic0 ?_
    exact g_lawret (pc := 352) dL_law_352 (fun z => z)
set_option maxRecDepth 100000 in
set_option maxHeartbeats 4000000 in
theorem JL_law_353_ok (n : Nat) (xs : Nat → Int32) (a3 : Int32) (b : Nat) (h : HI) (L : HL) : VX mL_law 12 (ZL b n xs) (gS (fun s : Int32 × HI × HL => V mL_law 12 (ZL b n xs) 18 [some (aR 12 0), some (aR 3 16), some (aR 8 32), some (aI (s.1))] [] (s.2.1) (s.2.2)) (fun r => r = 1)) 353 [some (aR 12 0), some (aR 3 16), some (aR 8 32), some (aI a3)] [] h L (JL_law_353 n xs a3 h L) := by
  unfold JL_law_353
  refine g_aload_n (M := mL_law) (pc := 353) 354 dL_law_353 rfl rfl rfl ?_
  refine g_aload_n (M := mL_law) (pc := 354) 355 dL_law_354 rfl rfl rfl ?_
  refine g_iload_n (M := mL_law) (pc := 355) 356 dL_law_355 rfl rfl rfl ?_
  refine g_iconst (M := mL_law) (pc := 356) (v := 1) 357 dL_law_356 rfl ic1 ?_
  refine g_iadd (M := mL_law) (pc := 357) 358 dL_law_357 rfl ?_
  refine g_scld (M := mL_law) (pc := 358) 359 dL_law_358 rfl ?_
  refine g_aload_n (M := mL_law) (pc := 359) 360 dL_law_359 rfl rfl rfl ?_
  refine g_iload_n (M := mL_law) (pc := 360) 361 dL_law_360 rfl rfl rfl ?_
  refine g_iconst (M := mL_law) (pc := 361) (v := 2) 362 dL_law_361 rfl ic2 ?_
  refine g_iadd (M := mL_law) (pc := 362) 363 dL_law_362 rfl ?_
  refine g_scld (M := mL_law) (pc := 363) 364 dL_law_363 rfl ?_
  refine g_cV_IH (M := mL_law) (pc := 364) (M' := mX9_turn) (rest := []) 367 dL_law_364 rfl kL_28 okX9_turn (CX9_turn (xs (nC (a3 + 1))) (xs (nC (a3 + 2))) h L) oO16 rfl rfl rfl rfl (fun r14 h15 => ?_)
  refine g_aload_n (M := mL_law) (pc := 367) 368 dL_law_367 rfl rfl rfl ?_
  refine g_aload_n (M := mL_law) (pc := 368) 369 dL_law_368 rfl rfl rfl ?_
  refine g_iload_n (M := mL_law) (pc := 369) 370 dL_law_369 rfl rfl rfl ?_
  refine g_iconst (M := mL_law) (pc := 370) (v := 1) 371 dL_law_370 rfl ic1 ?_
  refine g_iadd (M := mL_law) (pc := 371) 372 dL_law_371 rfl ?_
  refine g_scld (M := mL_law) (pc := 372) 373 dL_law_372 rfl ?_
  refine g_aload_n (M := mL_law) (pc := 373) 374 dL_law_373 rfl rfl rfl ?_
  refine g_iload_n (M := mL_law) (pc := 374) 375 dL_law_374 rfl rfl rfl ?_
  refine g_iconst (M := mL_law) (pc := 375) (v := 2) 376 dL_law_375 rfl ic2 ?_
  refine g_iadd (M := mL_law) (pc := 376) 377 dL_law_376 rfl ?_
  refine g_scld (M := mL_law) (pc := 377) 378 dL_law_377 rfl ?_
  refine g_cV_IH (M := mL_law) (pc := 378) (M' := mX10_turn) (rest := [aI r14]) 381 dL_law_378 rfl kL_31 okX10_turn (CX10_turn (xs (nC (a3 + 1))) (xs (nC (a3 + 2))) h15 L) oO32 rfl rfl rfl rfl (fun r16 h17 => ?_)
  refine g_icmp_eq (M := mL_law) (pc := 381) 1537 384 dL_law_381 (by decide) rfl (fun _ => ?_) (fun _ => ?_)
  · refine g_iinc (M := mL_law) (pc := 1537) (c := 6) (ls' := [some (aR 12 0), some (aR 3 16), some (aR 8 32), some (aI (a3 + 6))]) 1540 dL_law_1537 rfl ic6 rfl rfl rfl ?_
    refine g_goto (M := mL_law) (pc := 1540) 18 dL_law_1540 (by decide) ?_
    exact g_jmp (fun z => v_fgt [true, true, true, true] z)
  · refine g_iconst (M := mL_law) (pc := 384) (v := 0) 385 dL_law_384 rfl ic0 ?_
    exact g_lawret (pc := 385) dL_law_385 (fun z => z)
set_option maxRecDepth 100000 in
set_option maxHeartbeats 4000000 in
theorem JL_law_386_ok (n : Nat) (xs : Nat → Int32) (a3 : Int32) (b : Nat) (h : HI) (L : HL) : VX mL_law 12 (ZL b n xs) (gS (fun s : Int32 × HI × HL => V mL_law 12 (ZL b n xs) 18 [some (aR 12 0), some (aR 3 16), some (aR 8 32), some (aI (s.1))] [] (s.2.1) (s.2.2)) (fun r => r = 1)) 386 [some (aR 12 0), some (aR 3 16), some (aR 8 32), some (aI a3)] [] h L (JL_law_386 n xs a3 h L) := by
  unfold JL_law_386
  refine g_aload_n (M := mL_law) (pc := 386) 387 dL_law_386 rfl rfl rfl ?_
  refine g_aload_n (M := mL_law) (pc := 387) 388 dL_law_387 rfl rfl rfl ?_
  refine g_iload_n (M := mL_law) (pc := 388) 389 dL_law_388 rfl rfl rfl ?_
  refine g_iconst (M := mL_law) (pc := 389) (v := 1) 390 dL_law_389 rfl ic1 ?_
  refine g_iadd (M := mL_law) (pc := 390) 391 dL_law_390 rfl ?_
  refine g_scld (M := mL_law) (pc := 391) 392 dL_law_391 rfl ?_
  refine g_aload_n (M := mL_law) (pc := 392) 393 dL_law_392 rfl rfl rfl ?_
  refine g_iload_n (M := mL_law) (pc := 393) 394 dL_law_393 rfl rfl rfl ?_
  refine g_iconst (M := mL_law) (pc := 394) (v := 2) 395 dL_law_394 rfl ic2 ?_
  refine g_iadd (M := mL_law) (pc := 395) 396 dL_law_395 rfl ?_
  refine g_scld (M := mL_law) (pc := 396) 397 dL_law_396 rfl ?_
  refine g_cV_IH (M := mL_law) (pc := 397) (M' := mX9_as) (rest := []) 400 dL_law_397 rfl kL_32 okX9_as (CX9_as (xs (nC (a3 + 1))) (xs (nC (a3 + 2))) h L) oO16 rfl rfl rfl rfl (fun r18 h19 => ?_)
  refine g_aload_n (M := mL_law) (pc := 400) 401 dL_law_400 rfl rfl rfl ?_
  refine g_aload_n (M := mL_law) (pc := 401) 402 dL_law_401 rfl rfl rfl ?_
  refine g_iload_n (M := mL_law) (pc := 402) 403 dL_law_402 rfl rfl rfl ?_
  refine g_iconst (M := mL_law) (pc := 403) (v := 1) 404 dL_law_403 rfl ic1 ?_
  refine g_iadd (M := mL_law) (pc := 404) 405 dL_law_404 rfl ?_
  refine g_scld (M := mL_law) (pc := 405) 406 dL_law_405 rfl ?_
  refine g_aload_n (M := mL_law) (pc := 406) 407 dL_law_406 rfl rfl rfl ?_
  refine g_iload_n (M := mL_law) (pc := 407) 408 dL_law_407 rfl rfl rfl ?_
  refine g_iconst (M := mL_law) (pc := 408) (v := 2) 409 dL_law_408 rfl ic2 ?_
  refine g_iadd (M := mL_law) (pc := 409) 410 dL_law_409 rfl ?_
  refine g_scld (M := mL_law) (pc := 410) 411 dL_law_410 rfl ?_
  refine g_cV_IH (M := mL_law) (pc := 411) (M' := mX10_as) (rest := [aI r18]) 414 dL_law_411 rfl kL_35 okX10_as (CX10_as (xs (nC (a3 + 1))) (xs (nC (a3 + 2))) h19 L) oO32 rfl rfl rfl rfl (fun r20 h21 => ?_)
  refine g_icmp_eq (M := mL_law) (pc := 414) 1537 417 dL_law_414 (by decide) rfl (fun _ => ?_) (fun _ => ?_)
  · refine g_iinc (M := mL_law) (pc := 1537) (c := 6) (ls' := [some (aR 12 0), some (aR 3 16), some (aR 8 32), some (aI (a3 + 6))]) 1540 dL_law_1537 rfl ic6 rfl rfl rfl ?_
    refine g_goto (M := mL_law) (pc := 1540) 18 dL_law_1540 (by decide) ?_
    exact g_jmp (fun z => v_fgt [true, true, true, true] z)
  · refine g_iconst (M := mL_law) (pc := 417) (v := 0) 418 dL_law_417 rfl ic0 ?_
    exact g_lawret (pc := 418) dL_law_418 (fun z => z)
set_option maxRecDepth 100000 in
set_option maxHeartbeats 4000000 in
theorem JL_law_419_ok (n : Nat) (xs : Nat → Int32) (a3 : Int32) (b : Nat) (h : HI) (L : HL) : VX mL_law 12 (ZL b n xs) (gS (fun s : Int32 × HI × HL => V mL_law 12 (ZL b n xs) 18 [some (aR 12 0), some (aR 3 16), some (aR 8 32), some (aI (s.1))] [] (s.2.1) (s.2.2)) (fun r => r = 1)) 419 [some (aR 12 0), some (aR 3 16), some (aR 8 32), some (aI a3)] [] h L (JL_law_419 n xs a3 h L) := by
  unfold JL_law_419
  refine g_aload_n (M := mL_law) (pc := 419) 420 dL_law_419 rfl rfl rfl ?_
  refine g_aload_n (M := mL_law) (pc := 420) 421 dL_law_420 rfl rfl rfl ?_
  refine g_iload_n (M := mL_law) (pc := 421) 422 dL_law_421 rfl rfl rfl ?_
  refine g_iconst (M := mL_law) (pc := 422) (v := 1) 423 dL_law_422 rfl ic1 ?_
  refine g_iadd (M := mL_law) (pc := 423) 424 dL_law_423 rfl ?_
  refine g_scld (M := mL_law) (pc := 424) 425 dL_law_424 rfl ?_
  refine g_aload_n (M := mL_law) (pc := 425) 426 dL_law_425 rfl rfl rfl ?_
  refine g_iload_n (M := mL_law) (pc := 426) 427 dL_law_426 rfl rfl rfl ?_
  refine g_iconst (M := mL_law) (pc := 427) (v := 2) 428 dL_law_427 rfl ic2 ?_
  refine g_iadd (M := mL_law) (pc := 428) 429 dL_law_428 rfl ?_
  refine g_scld (M := mL_law) (pc := 429) 430 dL_law_429 rfl ?_
  refine g_aload_n (M := mL_law) (pc := 430) 431 dL_law_430 rfl rfl rfl ?_
  refine g_iload_n (M := mL_law) (pc := 431) 432 dL_law_431 rfl rfl rfl ?_
  refine g_iconst (M := mL_law) (pc := 432) (v := 3) 433 dL_law_432 rfl ic3 ?_
  refine g_iadd (M := mL_law) (pc := 433) 434 dL_law_433 rfl ?_
  refine g_scld (M := mL_law) (pc := 434) 435 dL_law_434 rfl ?_
  refine g_cV_IH (M := mL_law) (pc := 435) (M' := mX9_want) (rest := []) 438 dL_law_435 rfl kL_36 okX9_want (CX9_want (xs (nC (a3 + 1))) (xs (nC (a3 + 2))) (xs (nC (a3 + 3))) h L) oO16 rfl rfl rfl rfl (fun r22 h23 => ?_)
  refine g_aload_n (M := mL_law) (pc := 438) 439 dL_law_438 rfl rfl rfl ?_
  refine g_aload_n (M := mL_law) (pc := 439) 440 dL_law_439 rfl rfl rfl ?_
  refine g_iload_n (M := mL_law) (pc := 440) 441 dL_law_440 rfl rfl rfl ?_
  refine g_iconst (M := mL_law) (pc := 441) (v := 1) 442 dL_law_441 rfl ic1 ?_
  refine g_iadd (M := mL_law) (pc := 442) 443 dL_law_442 rfl ?_
  refine g_scld (M := mL_law) (pc := 443) 444 dL_law_443 rfl ?_
  refine g_aload_n (M := mL_law) (pc := 444) 445 dL_law_444 rfl rfl rfl ?_
  refine g_iload_n (M := mL_law) (pc := 445) 446 dL_law_445 rfl rfl rfl ?_
  refine g_iconst (M := mL_law) (pc := 446) (v := 2) 447 dL_law_446 rfl ic2 ?_
  refine g_iadd (M := mL_law) (pc := 447) 448 dL_law_447 rfl ?_
  refine g_scld (M := mL_law) (pc := 448) 449 dL_law_448 rfl ?_
  refine g_aload_n (M := mL_law) (pc := 449) 450 dL_law_449 rfl rfl rfl ?_
  refine g_iload_n (M := mL_law) (pc := 450) 451 dL_law_450 rfl rfl rfl ?_
  refine g_iconst (M := mL_law) (pc := 451) (v := 3) 452 dL_law_451 rfl ic3 ?_
  refine g_iadd (M := mL_law) (pc := 452) 453 dL_law_452 rfl ?_
  refine g_scld (M := mL_law) (pc := 453) 454 dL_law_453 rfl ?_
  refine g_cV_IH (M := mL_law) (pc := 454) (M' := mX10_want) (rest := [aI r22]) 457 dL_law_454 rfl kL_39 okX10_want (CX10_want (xs (nC (a3 + 1))) (xs (nC (a3 + 2))) (xs (nC (a3 + 3))) h23 L) oO32 rfl rfl rfl rfl (fun r24 h25 => ?_)
  refine g_icmp_eq (M := mL_law) (pc := 457) 1537 460 dL_law_457 (by decide) rfl (fun _ => ?_) (fun _ => ?_)
  · refine g_iinc (M := mL_law) (pc := 1537) (c := 6) (ls' := [some (aR 12 0), some (aR 3 16), some (aR 8 32), some (aI (a3 + 6))]) 1540 dL_law_1537 rfl ic6 rfl rfl rfl ?_
    refine g_goto (M := mL_law) (pc := 1540) 18 dL_law_1540 (by decide) ?_
    exact g_jmp (fun z => v_fgt [true, true, true, true] z)
  · refine g_iconst (M := mL_law) (pc := 460) (v := 0) 461 dL_law_460 rfl ic0 ?_
    exact g_lawret (pc := 461) dL_law_461 (fun z => z)
set_option maxRecDepth 100000 in
set_option maxHeartbeats 4000000 in
theorem JL_law_462_ok (n : Nat) (xs : Nat → Int32) (a3 : Int32) (b : Nat) (h : HI) (L : HL) : VX mL_law 12 (ZL b n xs) (gS (fun s : Int32 × HI × HL => V mL_law 12 (ZL b n xs) 18 [some (aR 12 0), some (aR 3 16), some (aR 8 32), some (aI (s.1))] [] (s.2.1) (s.2.2)) (fun r => r = 1)) 462 [some (aR 12 0), some (aR 3 16), some (aR 8 32), some (aI a3)] [] h L (JL_law_462 n xs a3 h L) := by
  unfold JL_law_462
  refine g_aload_n (M := mL_law) (pc := 462) 463 dL_law_462 rfl rfl rfl ?_
  refine g_aload_n (M := mL_law) (pc := 463) 464 dL_law_463 rfl rfl rfl ?_
  refine g_iload_n (M := mL_law) (pc := 464) 465 dL_law_464 rfl rfl rfl ?_
  refine g_iconst (M := mL_law) (pc := 465) (v := 1) 466 dL_law_465 rfl ic1 ?_
  refine g_iadd (M := mL_law) (pc := 466) 467 dL_law_466 rfl ?_
  refine g_scld (M := mL_law) (pc := 467) 468 dL_law_467 rfl ?_
  refine g_aload_n (M := mL_law) (pc := 468) 469 dL_law_468 rfl rfl rfl ?_
  refine g_iload_n (M := mL_law) (pc := 469) 470 dL_law_469 rfl rfl rfl ?_
  refine g_iconst (M := mL_law) (pc := 470) (v := 2) 471 dL_law_470 rfl ic2 ?_
  refine g_iadd (M := mL_law) (pc := 471) 472 dL_law_471 rfl ?_
  refine g_scld (M := mL_law) (pc := 472) 473 dL_law_472 rfl ?_
  refine g_cV_IH (M := mL_law) (pc := 473) (M' := mX9_wantOf) (rest := []) 476 dL_law_473 rfl kL_40 okX9_wantOf (CX9_wantOf (xs (nC (a3 + 1))) (xs (nC (a3 + 2))) h L) oO16 rfl rfl rfl rfl (fun r26 h27 => ?_)
  refine g_aload_n (M := mL_law) (pc := 476) 477 dL_law_476 rfl rfl rfl ?_
  refine g_aload_n (M := mL_law) (pc := 477) 478 dL_law_477 rfl rfl rfl ?_
  refine g_iload_n (M := mL_law) (pc := 478) 479 dL_law_478 rfl rfl rfl ?_
  refine g_iconst (M := mL_law) (pc := 479) (v := 1) 480 dL_law_479 rfl ic1 ?_
  refine g_iadd (M := mL_law) (pc := 480) 481 dL_law_480 rfl ?_
  refine g_scld (M := mL_law) (pc := 481) 482 dL_law_481 rfl ?_
  refine g_aload_n (M := mL_law) (pc := 482) 483 dL_law_482 rfl rfl rfl ?_
  refine g_iload_n (M := mL_law) (pc := 483) 484 dL_law_483 rfl rfl rfl ?_
  refine g_iconst (M := mL_law) (pc := 484) (v := 2) 485 dL_law_484 rfl ic2 ?_
  refine g_iadd (M := mL_law) (pc := 485) 486 dL_law_485 rfl ?_
  refine g_scld (M := mL_law) (pc := 486) 487 dL_law_486 rfl ?_
  refine g_cV_IH (M := mL_law) (pc := 487) (M' := mX10_wantOf) (rest := [aI r26]) 490 dL_law_487 rfl kL_43 okX10_wantOf (CX10_wantOf (xs (nC (a3 + 1))) (xs (nC (a3 + 2))) h27 L) oO32 rfl rfl rfl rfl (fun r28 h29 => ?_)
  refine g_icmp_eq (M := mL_law) (pc := 490) 1537 493 dL_law_490 (by decide) rfl (fun _ => ?_) (fun _ => ?_)
  · refine g_iinc (M := mL_law) (pc := 1537) (c := 6) (ls' := [some (aR 12 0), some (aR 3 16), some (aR 8 32), some (aI (a3 + 6))]) 1540 dL_law_1537 rfl ic6 rfl rfl rfl ?_
    refine g_goto (M := mL_law) (pc := 1540) 18 dL_law_1540 (by decide) ?_
    exact g_jmp (fun z => v_fgt [true, true, true, true] z)
  · refine g_iconst (M := mL_law) (pc := 493) (v := 0) 494 dL_law_493 rfl ic0 ?_
    exact g_lawret (pc := 494) dL_law_494 (fun z => z)
set_option maxRecDepth 100000 in
set_option maxHeartbeats 4000000 in
theorem JL_law_495_ok (n : Nat) (xs : Nat → Int32) (a3 : Int32) (b : Nat) (h : HI) (L : HL) : VX mL_law 12 (ZL b n xs) (gS (fun s : Int32 × HI × HL => V mL_law 12 (ZL b n xs) 18 [some (aR 12 0), some (aR 3 16), some (aR 8 32), some (aI (s.1))] [] (s.2.1) (s.2.2)) (fun r => r = 1)) 495 [some (aR 12 0), some (aR 3 16), some (aR 8 32), some (aI a3)] [] h L (JL_law_495 n xs a3 h L) := by
  unfold JL_law_495
  refine g_aload_n (M := mL_law) (pc := 495) 496 dL_law_495 rfl rfl rfl ?_
  refine g_aload_n (M := mL_law) (pc := 496) 497 dL_law_496 rfl rfl rfl ?_
  refine g_iload_n (M := mL_law) (pc := 497) 498 dL_law_497 rfl rfl rfl ?_
  refine g_iconst (M := mL_law) (pc := 498) (v := 1) 499 dL_law_498 rfl ic1 ?_
  refine g_iadd (M := mL_law) (pc := 499) 500 dL_law_499 rfl ?_
  refine g_scld (M := mL_law) (pc := 500) 501 dL_law_500 rfl ?_
  refine g_aload_n (M := mL_law) (pc := 501) 502 dL_law_501 rfl rfl rfl ?_
  refine g_iload_n (M := mL_law) (pc := 502) 503 dL_law_502 rfl rfl rfl ?_
  refine g_iconst (M := mL_law) (pc := 503) (v := 2) 504 dL_law_503 rfl ic2 ?_
  refine g_iadd (M := mL_law) (pc := 504) 505 dL_law_504 rfl ?_
  refine g_scld (M := mL_law) (pc := 505) 506 dL_law_505 rfl ?_
  refine g_aload_n (M := mL_law) (pc := 506) 507 dL_law_506 rfl rfl rfl ?_
  refine g_iload_n (M := mL_law) (pc := 507) 508 dL_law_507 rfl rfl rfl ?_
  refine g_iconst (M := mL_law) (pc := 508) (v := 3) 509 dL_law_508 rfl ic3 ?_
  refine g_iadd (M := mL_law) (pc := 509) 510 dL_law_509 rfl ?_
  refine g_scld (M := mL_law) (pc := 510) 511 dL_law_510 rfl ?_
  refine g_cV_IH (M := mL_law) (pc := 511) (M' := mX9_change) (rest := []) 514 dL_law_511 rfl kL_44 okX9_change (CX9_change (xs (nC (a3 + 1))) (xs (nC (a3 + 2))) (xs (nC (a3 + 3))) h L) oO16 rfl rfl rfl rfl (fun r30 h31 => ?_)
  refine g_aload_n (M := mL_law) (pc := 514) 515 dL_law_514 rfl rfl rfl ?_
  refine g_aload_n (M := mL_law) (pc := 515) 516 dL_law_515 rfl rfl rfl ?_
  refine g_iload_n (M := mL_law) (pc := 516) 517 dL_law_516 rfl rfl rfl ?_
  refine g_iconst (M := mL_law) (pc := 517) (v := 1) 518 dL_law_517 rfl ic1 ?_
  refine g_iadd (M := mL_law) (pc := 518) 519 dL_law_518 rfl ?_
  refine g_scld (M := mL_law) (pc := 519) 520 dL_law_519 rfl ?_
  refine g_aload_n (M := mL_law) (pc := 520) 521 dL_law_520 rfl rfl rfl ?_
  refine g_iload_n (M := mL_law) (pc := 521) 522 dL_law_521 rfl rfl rfl ?_
  refine g_iconst (M := mL_law) (pc := 522) (v := 2) 523 dL_law_522 rfl ic2 ?_
  refine g_iadd (M := mL_law) (pc := 523) 524 dL_law_523 rfl ?_
  refine g_scld (M := mL_law) (pc := 524) 525 dL_law_524 rfl ?_
  refine g_aload_n (M := mL_law) (pc := 525) 526 dL_law_525 rfl rfl rfl ?_
  refine g_iload_n (M := mL_law) (pc := 526) 527 dL_law_526 rfl rfl rfl ?_
  refine g_iconst (M := mL_law) (pc := 527) (v := 3) 528 dL_law_527 rfl ic3 ?_
  refine g_iadd (M := mL_law) (pc := 528) 529 dL_law_528 rfl ?_
  refine g_scld (M := mL_law) (pc := 529) 530 dL_law_529 rfl ?_
  refine g_cV_IH (M := mL_law) (pc := 530) (M' := mX10_change) (rest := [aI r30]) 533 dL_law_530 rfl kL_47 okX10_change (CX10_change (xs (nC (a3 + 1))) (xs (nC (a3 + 2))) (xs (nC (a3 + 3))) h31 L) oO32 rfl rfl rfl rfl (fun r32 h33 => ?_)
  refine g_icmp_eq (M := mL_law) (pc := 533) 1537 536 dL_law_533 (by decide) rfl (fun _ => ?_) (fun _ => ?_)
  · refine g_iinc (M := mL_law) (pc := 1537) (c := 6) (ls' := [some (aR 12 0), some (aR 3 16), some (aR 8 32), some (aI (a3 + 6))]) 1540 dL_law_1537 rfl ic6 rfl rfl rfl ?_
    refine g_goto (M := mL_law) (pc := 1540) 18 dL_law_1540 (by decide) ?_
    exact g_jmp (fun z => v_fgt [true, true, true, true] z)
  · refine g_iconst (M := mL_law) (pc := 536) (v := 0) 537 dL_law_536 rfl ic0 ?_
    exact g_lawret (pc := 537) dL_law_537 (fun z => z)
set_option maxRecDepth 100000 in
set_option maxHeartbeats 4000000 in
theorem JL_law_538_ok (n : Nat) (xs : Nat → Int32) (a3 : Int32) (b : Nat) (h : HI) (L : HL) : VX mL_law 12 (ZL b n xs) (gS (fun s : Int32 × HI × HL => V mL_law 12 (ZL b n xs) 18 [some (aR 12 0), some (aR 3 16), some (aR 8 32), some (aI (s.1))] [] (s.2.1) (s.2.2)) (fun r => r = 1)) 538 [some (aR 12 0), some (aR 3 16), some (aR 8 32), some (aI a3)] [] h L (JL_law_538 n xs a3 h L) := by
  unfold JL_law_538
  refine g_aload_n (M := mL_law) (pc := 538) 539 dL_law_538 rfl rfl rfl ?_
  refine g_aload_n (M := mL_law) (pc := 539) 540 dL_law_539 rfl rfl rfl ?_
  refine g_iload_n (M := mL_law) (pc := 540) 541 dL_law_540 rfl rfl rfl ?_
  refine g_iconst (M := mL_law) (pc := 541) (v := 1) 542 dL_law_541 rfl ic1 ?_
  refine g_iadd (M := mL_law) (pc := 542) 543 dL_law_542 rfl ?_
  refine g_scld (M := mL_law) (pc := 543) 544 dL_law_543 rfl ?_
  refine g_aload_n (M := mL_law) (pc := 544) 545 dL_law_544 rfl rfl rfl ?_
  refine g_iload_n (M := mL_law) (pc := 545) 546 dL_law_545 rfl rfl rfl ?_
  refine g_iconst (M := mL_law) (pc := 546) (v := 2) 547 dL_law_546 rfl ic2 ?_
  refine g_iadd (M := mL_law) (pc := 547) 548 dL_law_547 rfl ?_
  refine g_scld (M := mL_law) (pc := 548) 549 dL_law_548 rfl ?_
  refine g_aload_n (M := mL_law) (pc := 549) 550 dL_law_549 rfl rfl rfl ?_
  refine g_iload_n (M := mL_law) (pc := 550) 551 dL_law_550 rfl rfl rfl ?_
  refine g_iconst (M := mL_law) (pc := 551) (v := 3) 552 dL_law_551 rfl ic3 ?_
  refine g_iadd (M := mL_law) (pc := 552) 553 dL_law_552 rfl ?_
  refine g_scld (M := mL_law) (pc := 553) 554 dL_law_553 rfl ?_
  refine g_cV_IH (M := mL_law) (pc := 554) (M' := mX9_gain) (rest := []) 557 dL_law_554 rfl kL_48 okX9_gain (CX9_gain (xs (nC (a3 + 1))) (xs (nC (a3 + 2))) (xs (nC (a3 + 3))) h L) oO16 rfl rfl rfl rfl (fun r34 h35 => ?_)
  refine g_aload_n (M := mL_law) (pc := 557) 558 dL_law_557 rfl rfl rfl ?_
  refine g_aload_n (M := mL_law) (pc := 558) 559 dL_law_558 rfl rfl rfl ?_
  refine g_iload_n (M := mL_law) (pc := 559) 560 dL_law_559 rfl rfl rfl ?_
  refine g_iconst (M := mL_law) (pc := 560) (v := 1) 561 dL_law_560 rfl ic1 ?_
  refine g_iadd (M := mL_law) (pc := 561) 562 dL_law_561 rfl ?_
  refine g_scld (M := mL_law) (pc := 562) 563 dL_law_562 rfl ?_
  refine g_aload_n (M := mL_law) (pc := 563) 564 dL_law_563 rfl rfl rfl ?_
  refine g_iload_n (M := mL_law) (pc := 564) 565 dL_law_564 rfl rfl rfl ?_
  refine g_iconst (M := mL_law) (pc := 565) (v := 2) 566 dL_law_565 rfl ic2 ?_
  refine g_iadd (M := mL_law) (pc := 566) 567 dL_law_566 rfl ?_
  refine g_scld (M := mL_law) (pc := 567) 568 dL_law_567 rfl ?_
  refine g_aload_n (M := mL_law) (pc := 568) 569 dL_law_568 rfl rfl rfl ?_
  refine g_iload_n (M := mL_law) (pc := 569) 570 dL_law_569 rfl rfl rfl ?_
  refine g_iconst (M := mL_law) (pc := 570) (v := 3) 571 dL_law_570 rfl ic3 ?_
  refine g_iadd (M := mL_law) (pc := 571) 572 dL_law_571 rfl ?_
  refine g_scld (M := mL_law) (pc := 572) 573 dL_law_572 rfl ?_
  refine g_cV_IH (M := mL_law) (pc := 573) (M' := mX10_gain) (rest := [aI r34]) 576 dL_law_573 rfl kL_51 okX10_gain (CX10_gain (xs (nC (a3 + 1))) (xs (nC (a3 + 2))) (xs (nC (a3 + 3))) h35 L) oO32 rfl rfl rfl rfl (fun r36 h37 => ?_)
  refine g_icmp_eq (M := mL_law) (pc := 576) 1537 579 dL_law_576 (by decide) rfl (fun _ => ?_) (fun _ => ?_)
  · refine g_iinc (M := mL_law) (pc := 1537) (c := 6) (ls' := [some (aR 12 0), some (aR 3 16), some (aR 8 32), some (aI (a3 + 6))]) 1540 dL_law_1537 rfl ic6 rfl rfl rfl ?_
    refine g_goto (M := mL_law) (pc := 1540) 18 dL_law_1540 (by decide) ?_
    exact g_jmp (fun z => v_fgt [true, true, true, true] z)
  · refine g_iconst (M := mL_law) (pc := 579) (v := 0) 580 dL_law_579 rfl ic0 ?_
    exact g_lawret (pc := 580) dL_law_580 (fun z => z)
set_option maxRecDepth 100000 in
set_option maxHeartbeats 4000000 in
theorem JL_law_581_ok (n : Nat) (xs : Nat → Int32) (a3 : Int32) (b : Nat) (h : HI) (L : HL) : VX mL_law 12 (ZL b n xs) (gS (fun s : Int32 × HI × HL => V mL_law 12 (ZL b n xs) 18 [some (aR 12 0), some (aR 3 16), some (aR 8 32), some (aI (s.1))] [] (s.2.1) (s.2.2)) (fun r => r = 1)) 581 [some (aR 12 0), some (aR 3 16), some (aR 8 32), some (aI a3)] [] h L (JL_law_581 n xs a3 h L) := by
  unfold JL_law_581
  refine g_aload_n (M := mL_law) (pc := 581) 582 dL_law_581 rfl rfl rfl ?_
  refine g_aload_n (M := mL_law) (pc := 582) 583 dL_law_582 rfl rfl rfl ?_
  refine g_iload_n (M := mL_law) (pc := 583) 584 dL_law_583 rfl rfl rfl ?_
  refine g_iconst (M := mL_law) (pc := 584) (v := 1) 585 dL_law_584 rfl ic1 ?_
  refine g_iadd (M := mL_law) (pc := 585) 586 dL_law_585 rfl ?_
  refine g_scld (M := mL_law) (pc := 586) 587 dL_law_586 rfl ?_
  refine g_aload_n (M := mL_law) (pc := 587) 588 dL_law_587 rfl rfl rfl ?_
  refine g_iload_n (M := mL_law) (pc := 588) 589 dL_law_588 rfl rfl rfl ?_
  refine g_iconst (M := mL_law) (pc := 589) (v := 2) 590 dL_law_589 rfl ic2 ?_
  refine g_iadd (M := mL_law) (pc := 590) 591 dL_law_590 rfl ?_
  refine g_scld (M := mL_law) (pc := 591) 592 dL_law_591 rfl ?_
  refine g_cV_IH (M := mL_law) (pc := 592) (M' := mX9_met) (rest := []) 595 dL_law_592 rfl kL_52 okX9_met (CX9_met (xs (nC (a3 + 1))) (xs (nC (a3 + 2))) h L) oO16 rfl rfl rfl rfl (fun r38 h39 => ?_)
  refine g_aload_n (M := mL_law) (pc := 595) 596 dL_law_595 rfl rfl rfl ?_
  refine g_aload_n (M := mL_law) (pc := 596) 597 dL_law_596 rfl rfl rfl ?_
  refine g_iload_n (M := mL_law) (pc := 597) 598 dL_law_597 rfl rfl rfl ?_
  refine g_iconst (M := mL_law) (pc := 598) (v := 1) 599 dL_law_598 rfl ic1 ?_
  refine g_iadd (M := mL_law) (pc := 599) 600 dL_law_599 rfl ?_
  refine g_scld (M := mL_law) (pc := 600) 601 dL_law_600 rfl ?_
  refine g_aload_n (M := mL_law) (pc := 601) 602 dL_law_601 rfl rfl rfl ?_
  refine g_iload_n (M := mL_law) (pc := 602) 603 dL_law_602 rfl rfl rfl ?_
  refine g_iconst (M := mL_law) (pc := 603) (v := 2) 604 dL_law_603 rfl ic2 ?_
  refine g_iadd (M := mL_law) (pc := 604) 605 dL_law_604 rfl ?_
  refine g_scld (M := mL_law) (pc := 605) 606 dL_law_605 rfl ?_
  refine g_cV_IH (M := mL_law) (pc := 606) (M' := mX10_met) (rest := [aI r38]) 609 dL_law_606 rfl kL_55 okX10_met (CX10_met (xs (nC (a3 + 1))) (xs (nC (a3 + 2))) h39 L) oO32 rfl rfl rfl rfl (fun r40 h41 => ?_)
  refine g_icmp_eq (M := mL_law) (pc := 609) 1537 612 dL_law_609 (by decide) rfl (fun _ => ?_) (fun _ => ?_)
  · refine g_iinc (M := mL_law) (pc := 1537) (c := 6) (ls' := [some (aR 12 0), some (aR 3 16), some (aR 8 32), some (aI (a3 + 6))]) 1540 dL_law_1537 rfl ic6 rfl rfl rfl ?_
    refine g_goto (M := mL_law) (pc := 1540) 18 dL_law_1540 (by decide) ?_
    exact g_jmp (fun z => v_fgt [true, true, true, true] z)
  · refine g_iconst (M := mL_law) (pc := 612) (v := 0) 613 dL_law_612 rfl ic0 ?_
    exact g_lawret (pc := 613) dL_law_613 (fun z => z)
set_option maxRecDepth 100000 in
set_option maxHeartbeats 4000000 in
theorem JL_law_614_ok (n : Nat) (xs : Nat → Int32) (a3 : Int32) (b : Nat) (h : HI) (L : HL) : VX mL_law 12 (ZL b n xs) (gS (fun s : Int32 × HI × HL => V mL_law 12 (ZL b n xs) 18 [some (aR 12 0), some (aR 3 16), some (aR 8 32), some (aI (s.1))] [] (s.2.1) (s.2.2)) (fun r => r = 1)) 614 [some (aR 12 0), some (aR 3 16), some (aR 8 32), some (aI a3)] [] h L (JL_law_614 n xs a3 h L) := by
  unfold JL_law_614
  refine g_aload_n (M := mL_law) (pc := 614) 615 dL_law_614 rfl rfl rfl ?_
  refine g_aload_n (M := mL_law) (pc := 615) 616 dL_law_615 rfl rfl rfl ?_
  refine g_iload_n (M := mL_law) (pc := 616) 617 dL_law_616 rfl rfl rfl ?_
  refine g_iconst (M := mL_law) (pc := 617) (v := 1) 618 dL_law_617 rfl ic1 ?_
  refine g_iadd (M := mL_law) (pc := 618) 619 dL_law_618 rfl ?_
  refine g_scld (M := mL_law) (pc := 619) 620 dL_law_619 rfl ?_
  refine g_cV_IH (M := mL_law) (pc := 620) (M' := mX9_value) (rest := []) 623 dL_law_620 rfl kL_56 okX9_value (CX9_value (xs (nC (a3 + 1))) h L) oO16 rfl rfl rfl rfl (fun r42 h43 => ?_)
  refine g_aload_n (M := mL_law) (pc := 623) 624 dL_law_623 rfl rfl rfl ?_
  refine g_aload_n (M := mL_law) (pc := 624) 625 dL_law_624 rfl rfl rfl ?_
  refine g_iload_n (M := mL_law) (pc := 625) 626 dL_law_625 rfl rfl rfl ?_
  refine g_iconst (M := mL_law) (pc := 626) (v := 1) 627 dL_law_626 rfl ic1 ?_
  refine g_iadd (M := mL_law) (pc := 627) 628 dL_law_627 rfl ?_
  refine g_scld (M := mL_law) (pc := 628) 629 dL_law_628 rfl ?_
  refine g_cV_IH (M := mL_law) (pc := 629) (M' := mX10_value) (rest := [aI r42]) 632 dL_law_629 rfl kL_60 okX10_value (CX10_value (xs (nC (a3 + 1))) h43 L) oO32 rfl rfl rfl rfl (fun r44 h45 => ?_)
  refine g_icmp_eq (M := mL_law) (pc := 632) 1537 635 dL_law_632 (by decide) rfl (fun _ => ?_) (fun _ => ?_)
  · refine g_iinc (M := mL_law) (pc := 1537) (c := 6) (ls' := [some (aR 12 0), some (aR 3 16), some (aR 8 32), some (aI (a3 + 6))]) 1540 dL_law_1537 rfl ic6 rfl rfl rfl ?_
    refine g_goto (M := mL_law) (pc := 1540) 18 dL_law_1540 (by decide) ?_
    exact g_jmp (fun z => v_fgt [true, true, true, true] z)
  · refine g_iconst (M := mL_law) (pc := 635) (v := 0) 636 dL_law_635 rfl ic0 ?_
    exact g_lawret (pc := 636) dL_law_636 (fun z => z)
set_option maxRecDepth 100000 in
set_option maxHeartbeats 4000000 in
theorem JL_law_637_ok (n : Nat) (xs : Nat → Int32) (a3 : Int32) (b : Nat) (h : HI) (L : HL) : VX mL_law 12 (ZL b n xs) (gS (fun s : Int32 × HI × HL => V mL_law 12 (ZL b n xs) 18 [some (aR 12 0), some (aR 3 16), some (aR 8 32), some (aI (s.1))] [] (s.2.1) (s.2.2)) (fun r => r = 1)) 637 [some (aR 12 0), some (aR 3 16), some (aR 8 32), some (aI a3)] [] h L (JL_law_637 n xs a3 h L) := by
  unfold JL_law_637
  refine g_aload_n (M := mL_law) (pc := 637) 638 dL_law_637 rfl rfl rfl ?_
  refine g_aload_n (M := mL_law) (pc := 638) 639 dL_law_638 rfl rfl rfl ?_
  refine g_iload_n (M := mL_law) (pc := 639) 640 dL_law_639 rfl rfl rfl ?_
  refine g_iconst (M := mL_law) (pc := 640) (v := 1) 641 dL_law_640 rfl ic1 ?_
  refine g_iadd (M := mL_law) (pc := 641) 642 dL_law_641 rfl ?_
  refine g_scld (M := mL_law) (pc := 642) 643 dL_law_642 rfl ?_
  refine g_aload_n (M := mL_law) (pc := 643) 644 dL_law_643 rfl rfl rfl ?_
  refine g_iload_n (M := mL_law) (pc := 644) 645 dL_law_644 rfl rfl rfl ?_
  refine g_iconst (M := mL_law) (pc := 645) (v := 2) 646 dL_law_645 rfl ic2 ?_
  refine g_iadd (M := mL_law) (pc := 646) 647 dL_law_646 rfl ?_
  refine g_scld (M := mL_law) (pc := 647) 648 dL_law_647 rfl ?_
  refine g_cV_IH (M := mL_law) (pc := 648) (M' := mX9_by) (rest := []) 651 dL_law_648 rfl kL_61 okX9_by (CX9_by (xs (nC (a3 + 1))) (xs (nC (a3 + 2))) h L) oO16 rfl rfl rfl rfl (fun r46 h47 => ?_)
  refine g_aload_n (M := mL_law) (pc := 651) 652 dL_law_651 rfl rfl rfl ?_
  refine g_aload_n (M := mL_law) (pc := 652) 653 dL_law_652 rfl rfl rfl ?_
  refine g_iload_n (M := mL_law) (pc := 653) 654 dL_law_653 rfl rfl rfl ?_
  refine g_iconst (M := mL_law) (pc := 654) (v := 1) 655 dL_law_654 rfl ic1 ?_
  refine g_iadd (M := mL_law) (pc := 655) 656 dL_law_655 rfl ?_
  refine g_scld (M := mL_law) (pc := 656) 657 dL_law_656 rfl ?_
  refine g_aload_n (M := mL_law) (pc := 657) 658 dL_law_657 rfl rfl rfl ?_
  refine g_iload_n (M := mL_law) (pc := 658) 659 dL_law_658 rfl rfl rfl ?_
  refine g_iconst (M := mL_law) (pc := 659) (v := 2) 660 dL_law_659 rfl ic2 ?_
  refine g_iadd (M := mL_law) (pc := 660) 661 dL_law_660 rfl ?_
  refine g_scld (M := mL_law) (pc := 661) 662 dL_law_661 rfl ?_
  refine g_cV_IH (M := mL_law) (pc := 662) (M' := mX10_by) (rest := [aI r46]) 665 dL_law_662 rfl kL_64 okX10_by (CX10_by (xs (nC (a3 + 1))) (xs (nC (a3 + 2))) h47 L) oO32 rfl rfl rfl rfl (fun r48 h49 => ?_)
  refine g_icmp_eq (M := mL_law) (pc := 665) 1537 668 dL_law_665 (by decide) rfl (fun _ => ?_) (fun _ => ?_)
  · refine g_iinc (M := mL_law) (pc := 1537) (c := 6) (ls' := [some (aR 12 0), some (aR 3 16), some (aR 8 32), some (aI (a3 + 6))]) 1540 dL_law_1537 rfl ic6 rfl rfl rfl ?_
    refine g_goto (M := mL_law) (pc := 1540) 18 dL_law_1540 (by decide) ?_
    exact g_jmp (fun z => v_fgt [true, true, true, true] z)
  · refine g_iconst (M := mL_law) (pc := 668) (v := 0) 669 dL_law_668 rfl ic0 ?_
    exact g_lawret (pc := 669) dL_law_669 (fun z => z)
set_option maxRecDepth 100000 in
set_option maxHeartbeats 4000000 in
theorem JL_law_670_ok (n : Nat) (xs : Nat → Int32) (a3 : Int32) (b : Nat) (h : HI) (L : HL) : VX mL_law 12 (ZL b n xs) (gS (fun s : Int32 × HI × HL => V mL_law 12 (ZL b n xs) 18 [some (aR 12 0), some (aR 3 16), some (aR 8 32), some (aI (s.1))] [] (s.2.1) (s.2.2)) (fun r => r = 1)) 670 [some (aR 12 0), some (aR 3 16), some (aR 8 32), some (aI a3)] [] h L (JL_law_670 n xs a3 h L) := by
  unfold JL_law_670
  refine g_aload_n (M := mL_law) (pc := 670) 671 dL_law_670 rfl rfl rfl ?_
  refine g_aload_n (M := mL_law) (pc := 671) 672 dL_law_671 rfl rfl rfl ?_
  refine g_iload_n (M := mL_law) (pc := 672) 673 dL_law_672 rfl rfl rfl ?_
  refine g_iconst (M := mL_law) (pc := 673) (v := 1) 674 dL_law_673 rfl ic1 ?_
  refine g_iadd (M := mL_law) (pc := 674) 675 dL_law_674 rfl ?_
  refine g_scld (M := mL_law) (pc := 675) 676 dL_law_675 rfl ?_
  refine g_aload_n (M := mL_law) (pc := 676) 677 dL_law_676 rfl rfl rfl ?_
  refine g_iload_n (M := mL_law) (pc := 677) 678 dL_law_677 rfl rfl rfl ?_
  refine g_iconst (M := mL_law) (pc := 678) (v := 2) 679 dL_law_678 rfl ic2 ?_
  refine g_iadd (M := mL_law) (pc := 679) 680 dL_law_679 rfl ?_
  refine g_scld (M := mL_law) (pc := 680) 681 dL_law_680 rfl ?_
  refine g_cV_IH (M := mL_law) (pc := 681) (M' := mX9_best) (rest := []) 684 dL_law_681 rfl kL_65 okX9_best (CX9_best (xs (nC (a3 + 1))) (xs (nC (a3 + 2))) h L) oO16 rfl rfl rfl rfl (fun r50 h51 => ?_)
  refine g_aload_n (M := mL_law) (pc := 684) 685 dL_law_684 rfl rfl rfl ?_
  refine g_aload_n (M := mL_law) (pc := 685) 686 dL_law_685 rfl rfl rfl ?_
  refine g_iload_n (M := mL_law) (pc := 686) 687 dL_law_686 rfl rfl rfl ?_
  refine g_iconst (M := mL_law) (pc := 687) (v := 1) 688 dL_law_687 rfl ic1 ?_
  refine g_iadd (M := mL_law) (pc := 688) 689 dL_law_688 rfl ?_
  refine g_scld (M := mL_law) (pc := 689) 690 dL_law_689 rfl ?_
  refine g_aload_n (M := mL_law) (pc := 690) 691 dL_law_690 rfl rfl rfl ?_
  refine g_iload_n (M := mL_law) (pc := 691) 692 dL_law_691 rfl rfl rfl ?_
  refine g_iconst (M := mL_law) (pc := 692) (v := 2) 693 dL_law_692 rfl ic2 ?_
  refine g_iadd (M := mL_law) (pc := 693) 694 dL_law_693 rfl ?_
  refine g_scld (M := mL_law) (pc := 694) 695 dL_law_694 rfl ?_
  refine g_cV_IH (M := mL_law) (pc := 695) (M' := mX10_best) (rest := [aI r50]) 698 dL_law_695 rfl kL_68 okX10_best (CX10_best (xs (nC (a3 + 1))) (xs (nC (a3 + 2))) h51 L) oO32 rfl rfl rfl rfl (fun r52 h53 => ?_)
  refine g_icmp_eq (M := mL_law) (pc := 698) 1537 701 dL_law_698 (by decide) rfl (fun _ => ?_) (fun _ => ?_)
  · refine g_iinc (M := mL_law) (pc := 1537) (c := 6) (ls' := [some (aR 12 0), some (aR 3 16), some (aR 8 32), some (aI (a3 + 6))]) 1540 dL_law_1537 rfl ic6 rfl rfl rfl ?_
    refine g_goto (M := mL_law) (pc := 1540) 18 dL_law_1540 (by decide) ?_
    exact g_jmp (fun z => v_fgt [true, true, true, true] z)
  · refine g_iconst (M := mL_law) (pc := 701) (v := 0) 702 dL_law_701 rfl ic0 ?_
    exact g_lawret (pc := 702) dL_law_702 (fun z => z)
set_option maxRecDepth 100000 in
set_option maxHeartbeats 4000000 in
theorem JL_law_703_ok (n : Nat) (xs : Nat → Int32) (a3 : Int32) (b : Nat) (h : HI) (L : HL) : VX mL_law 12 (ZL b n xs) (gS (fun s : Int32 × HI × HL => V mL_law 12 (ZL b n xs) 18 [some (aR 12 0), some (aR 3 16), some (aR 8 32), some (aI (s.1))] [] (s.2.1) (s.2.2)) (fun r => r = 1)) 703 [some (aR 12 0), some (aR 3 16), some (aR 8 32), some (aI a3)] [] h L (JL_law_703 n xs a3 h L) := by
  unfold JL_law_703
  refine g_aload_n (M := mL_law) (pc := 703) 704 dL_law_703 rfl rfl rfl ?_
  refine g_aload_n (M := mL_law) (pc := 704) 705 dL_law_704 rfl rfl rfl ?_
  refine g_iload_n (M := mL_law) (pc := 705) 706 dL_law_705 rfl rfl rfl ?_
  refine g_iconst (M := mL_law) (pc := 706) (v := 1) 707 dL_law_706 rfl ic1 ?_
  refine g_iadd (M := mL_law) (pc := 707) 708 dL_law_707 rfl ?_
  refine g_scld (M := mL_law) (pc := 708) 709 dL_law_708 rfl ?_
  refine g_aload_n (M := mL_law) (pc := 709) 710 dL_law_709 rfl rfl rfl ?_
  refine g_iload_n (M := mL_law) (pc := 710) 711 dL_law_710 rfl rfl rfl ?_
  refine g_iconst (M := mL_law) (pc := 711) (v := 2) 712 dL_law_711 rfl ic2 ?_
  refine g_iadd (M := mL_law) (pc := 712) 713 dL_law_712 rfl ?_
  refine g_scld (M := mL_law) (pc := 713) 714 dL_law_713 rfl ?_
  refine g_cV_IH (M := mL_law) (pc := 714) (M' := mX9_greedy) (rest := []) 717 dL_law_714 rfl kL_69 okX9_greedy (CX9_greedy (xs (nC (a3 + 1))) (xs (nC (a3 + 2))) h L) oO16 rfl rfl rfl rfl (fun r54 h55 => ?_)
  refine g_aload_n (M := mL_law) (pc := 717) 718 dL_law_717 rfl rfl rfl ?_
  refine g_aload_n (M := mL_law) (pc := 718) 719 dL_law_718 rfl rfl rfl ?_
  refine g_iload_n (M := mL_law) (pc := 719) 720 dL_law_719 rfl rfl rfl ?_
  refine g_iconst (M := mL_law) (pc := 720) (v := 1) 721 dL_law_720 rfl ic1 ?_
  refine g_iadd (M := mL_law) (pc := 721) 722 dL_law_721 rfl ?_
  refine g_scld (M := mL_law) (pc := 722) 723 dL_law_722 rfl ?_
  refine g_aload_n (M := mL_law) (pc := 723) 724 dL_law_723 rfl rfl rfl ?_
  refine g_iload_n (M := mL_law) (pc := 724) 725 dL_law_724 rfl rfl rfl ?_
  refine g_iconst (M := mL_law) (pc := 725) (v := 2) 726 dL_law_725 rfl ic2 ?_
  refine g_iadd (M := mL_law) (pc := 726) 727 dL_law_726 rfl ?_
  refine g_scld (M := mL_law) (pc := 727) 728 dL_law_727 rfl ?_
  refine g_cV_IH (M := mL_law) (pc := 728) (M' := mX10_greedy) (rest := [aI r54]) 731 dL_law_728 rfl kL_72 okX10_greedy (CX10_greedy (xs (nC (a3 + 1))) (xs (nC (a3 + 2))) h55 L) oO32 rfl rfl rfl rfl (fun r56 h57 => ?_)
  refine g_icmp_eq (M := mL_law) (pc := 731) 1537 734 dL_law_731 (by decide) rfl (fun _ => ?_) (fun _ => ?_)
  · refine g_iinc (M := mL_law) (pc := 1537) (c := 6) (ls' := [some (aR 12 0), some (aR 3 16), some (aR 8 32), some (aI (a3 + 6))]) 1540 dL_law_1537 rfl ic6 rfl rfl rfl ?_
    refine g_goto (M := mL_law) (pc := 1540) 18 dL_law_1540 (by decide) ?_
    exact g_jmp (fun z => v_fgt [true, true, true, true] z)
  · refine g_iconst (M := mL_law) (pc := 734) (v := 0) 735 dL_law_734 rfl ic0 ?_
    exact g_lawret (pc := 735) dL_law_735 (fun z => z)
set_option maxRecDepth 100000 in
set_option maxHeartbeats 4000000 in
theorem JL_law_736_ok (n : Nat) (xs : Nat → Int32) (a3 : Int32) (b : Nat) (h : HI) (L : HL) : VX mL_law 12 (ZL b n xs) (gS (fun s : Int32 × HI × HL => V mL_law 12 (ZL b n xs) 18 [some (aR 12 0), some (aR 3 16), some (aR 8 32), some (aI (s.1))] [] (s.2.1) (s.2.2)) (fun r => r = 1)) 736 [some (aR 12 0), some (aR 3 16), some (aR 8 32), some (aI a3)] [] h L (JL_law_736 n xs a3 h L) := by
  unfold JL_law_736
  refine g_aload_n (M := mL_law) (pc := 736) 737 dL_law_736 rfl rfl rfl ?_
  refine g_aload_n (M := mL_law) (pc := 737) 738 dL_law_737 rfl rfl rfl ?_
  refine g_iload_n (M := mL_law) (pc := 738) 739 dL_law_738 rfl rfl rfl ?_
  refine g_iconst (M := mL_law) (pc := 739) (v := 1) 740 dL_law_739 rfl ic1 ?_
  refine g_iadd (M := mL_law) (pc := 740) 741 dL_law_740 rfl ?_
  refine g_scld (M := mL_law) (pc := 741) 742 dL_law_741 rfl ?_
  refine g_cV_IH (M := mL_law) (pc := 742) (M' := mX9_next) (rest := []) 745 dL_law_742 rfl kL_73 okX9_next (CX9_next (xs (nC (a3 + 1))) h L) oO16 rfl rfl rfl rfl (fun r58 h59 => ?_)
  refine g_aload_n (M := mL_law) (pc := 745) 746 dL_law_745 rfl rfl rfl ?_
  refine g_aload_n (M := mL_law) (pc := 746) 747 dL_law_746 rfl rfl rfl ?_
  refine g_iload_n (M := mL_law) (pc := 747) 748 dL_law_747 rfl rfl rfl ?_
  refine g_iconst (M := mL_law) (pc := 748) (v := 1) 749 dL_law_748 rfl ic1 ?_
  refine g_iadd (M := mL_law) (pc := 749) 750 dL_law_749 rfl ?_
  refine g_scld (M := mL_law) (pc := 750) 751 dL_law_750 rfl ?_
  refine g_cV_IH (M := mL_law) (pc := 751) (M' := mX10_next) (rest := [aI r58]) 754 dL_law_751 rfl kL_76 okX10_next (CX10_next (xs (nC (a3 + 1))) h59 L) oO32 rfl rfl rfl rfl (fun r60 h61 => ?_)
  refine g_icmp_eq (M := mL_law) (pc := 754) 1537 757 dL_law_754 (by decide) rfl (fun _ => ?_) (fun _ => ?_)
  · refine g_iinc (M := mL_law) (pc := 1537) (c := 6) (ls' := [some (aR 12 0), some (aR 3 16), some (aR 8 32), some (aI (a3 + 6))]) 1540 dL_law_1537 rfl ic6 rfl rfl rfl ?_
    refine g_goto (M := mL_law) (pc := 1540) 18 dL_law_1540 (by decide) ?_
    exact g_jmp (fun z => v_fgt [true, true, true, true] z)
  · refine g_iconst (M := mL_law) (pc := 757) (v := 0) 758 dL_law_757 rfl ic0 ?_
    exact g_lawret (pc := 758) dL_law_758 (fun z => z)
set_option maxRecDepth 100000 in
set_option maxHeartbeats 4000000 in
theorem JL_law_759_ok (n : Nat) (xs : Nat → Int32) (a3 : Int32) (b : Nat) (h : HI) (L : HL) : VX mL_law 12 (ZL b n xs) (gS (fun s : Int32 × HI × HL => V mL_law 12 (ZL b n xs) 18 [some (aR 12 0), some (aR 3 16), some (aR 8 32), some (aI (s.1))] [] (s.2.1) (s.2.2)) (fun r => r = 1)) 759 [some (aR 12 0), some (aR 3 16), some (aR 8 32), some (aI a3)] [] h L (JL_law_759 n xs a3 h L) := by
  unfold JL_law_759
  refine g_aload_n (M := mL_law) (pc := 759) 760 dL_law_759 rfl rfl rfl ?_
  refine g_aload_n (M := mL_law) (pc := 760) 761 dL_law_760 rfl rfl rfl ?_
  refine g_iload_n (M := mL_law) (pc := 761) 762 dL_law_761 rfl rfl rfl ?_
  refine g_iconst (M := mL_law) (pc := 762) (v := 1) 763 dL_law_762 rfl ic1 ?_
  refine g_iadd (M := mL_law) (pc := 763) 764 dL_law_763 rfl ?_
  refine g_scld (M := mL_law) (pc := 764) 765 dL_law_764 rfl ?_
  refine g_cV_IH (M := mL_law) (pc := 765) (M' := mX9_spare) (rest := []) 768 dL_law_765 rfl kL_77 okX9_spare (CX9_spare (xs (nC (a3 + 1))) h L) oO16 rfl rfl rfl rfl (fun r62 h63 => ?_)
  refine g_aload_n (M := mL_law) (pc := 768) 769 dL_law_768 rfl rfl rfl ?_
  refine g_aload_n (M := mL_law) (pc := 769) 770 dL_law_769 rfl rfl rfl ?_
  refine g_iload_n (M := mL_law) (pc := 770) 771 dL_law_770 rfl rfl rfl ?_
  refine g_iconst (M := mL_law) (pc := 771) (v := 1) 772 dL_law_771 rfl ic1 ?_
  refine g_iadd (M := mL_law) (pc := 772) 773 dL_law_772 rfl ?_
  refine g_scld (M := mL_law) (pc := 773) 774 dL_law_773 rfl ?_
  refine g_cV_IH (M := mL_law) (pc := 774) (M' := mX10_spare) (rest := [aI r62]) 777 dL_law_774 rfl kL_80 okX10_spare (CX10_spare (xs (nC (a3 + 1))) h63 L) oO32 rfl rfl rfl rfl (fun r64 h65 => ?_)
  refine g_icmp_eq (M := mL_law) (pc := 777) 1537 780 dL_law_777 (by decide) rfl (fun _ => ?_) (fun _ => ?_)
  · refine g_iinc (M := mL_law) (pc := 1537) (c := 6) (ls' := [some (aR 12 0), some (aR 3 16), some (aR 8 32), some (aI (a3 + 6))]) 1540 dL_law_1537 rfl ic6 rfl rfl rfl ?_
    refine g_goto (M := mL_law) (pc := 1540) 18 dL_law_1540 (by decide) ?_
    exact g_jmp (fun z => v_fgt [true, true, true, true] z)
  · refine g_iconst (M := mL_law) (pc := 780) (v := 0) 781 dL_law_780 rfl ic0 ?_
    exact g_lawret (pc := 781) dL_law_781 (fun z => z)
set_option maxRecDepth 100000 in
set_option maxHeartbeats 4000000 in
theorem JL_law_782_ok (n : Nat) (xs : Nat → Int32) (a3 : Int32) (b : Nat) (h : HI) (L : HL) : VX mL_law 12 (ZL b n xs) (gS (fun s : Int32 × HI × HL => V mL_law 12 (ZL b n xs) 18 [some (aR 12 0), some (aR 3 16), some (aR 8 32), some (aI (s.1))] [] (s.2.1) (s.2.2)) (fun r => r = 1)) 782 [some (aR 12 0), some (aR 3 16), some (aR 8 32), some (aI a3)] [] h L (JL_law_782 n xs a3 h L) := by
  unfold JL_law_782
  refine g_aload_n (M := mL_law) (pc := 782) 783 dL_law_782 rfl rfl rfl ?_
  refine g_aload_n (M := mL_law) (pc := 783) 784 dL_law_783 rfl rfl rfl ?_
  refine g_iload_n (M := mL_law) (pc := 784) 785 dL_law_784 rfl rfl rfl ?_
  refine g_iconst (M := mL_law) (pc := 785) (v := 1) 786 dL_law_785 rfl ic1 ?_
  refine g_iadd (M := mL_law) (pc := 786) 787 dL_law_786 rfl ?_
  refine g_scld (M := mL_law) (pc := 787) 788 dL_law_787 rfl ?_
  refine g_cV_IH (M := mL_law) (pc := 788) (M' := mX9_minutesFor) (rest := []) 791 dL_law_788 rfl kL_81 okX9_minutesFor (CX9_minutesFor (xs (nC (a3 + 1))) h L) oO16 rfl rfl rfl rfl (fun r66 h67 => ?_)
  refine g_aload_n (M := mL_law) (pc := 791) 792 dL_law_791 rfl rfl rfl ?_
  refine g_aload_n (M := mL_law) (pc := 792) 793 dL_law_792 rfl rfl rfl ?_
  refine g_iload_n (M := mL_law) (pc := 793) 794 dL_law_793 rfl rfl rfl ?_
  refine g_iconst (M := mL_law) (pc := 794) (v := 1) 795 dL_law_794 rfl ic1 ?_
  refine g_iadd (M := mL_law) (pc := 795) 796 dL_law_795 rfl ?_
  refine g_scld (M := mL_law) (pc := 796) 797 dL_law_796 rfl ?_
  refine g_cV_IH (M := mL_law) (pc := 797) (M' := mX10_minutesFor) (rest := [aI r66]) 800 dL_law_797 rfl kL_84 okX10_minutesFor (CX10_minutesFor (xs (nC (a3 + 1))) h67 L) oO32 rfl rfl rfl rfl (fun r68 h69 => ?_)
  refine g_icmp_eq (M := mL_law) (pc := 800) 1537 803 dL_law_800 (by decide) rfl (fun _ => ?_) (fun _ => ?_)
  · refine g_iinc (M := mL_law) (pc := 1537) (c := 6) (ls' := [some (aR 12 0), some (aR 3 16), some (aR 8 32), some (aI (a3 + 6))]) 1540 dL_law_1537 rfl ic6 rfl rfl rfl ?_
    refine g_goto (M := mL_law) (pc := 1540) 18 dL_law_1540 (by decide) ?_
    exact g_jmp (fun z => v_fgt [true, true, true, true] z)
  · refine g_iconst (M := mL_law) (pc := 803) (v := 0) 804 dL_law_803 rfl ic0 ?_
    exact g_lawret (pc := 804) dL_law_804 (fun z => z)
set_option maxRecDepth 100000 in
set_option maxHeartbeats 4000000 in
theorem JL_law_805_ok (n : Nat) (xs : Nat → Int32) (a3 : Int32) (b : Nat) (h : HI) (L : HL) : VX mL_law 12 (ZL b n xs) (gS (fun s : Int32 × HI × HL => V mL_law 12 (ZL b n xs) 18 [some (aR 12 0), some (aR 3 16), some (aR 8 32), some (aI (s.1))] [] (s.2.1) (s.2.2)) (fun r => r = 1)) 805 [some (aR 12 0), some (aR 3 16), some (aR 8 32), some (aI a3)] [] h L (JL_law_805 n xs a3 h L) := by
  unfold JL_law_805
  refine g_aload_n (M := mL_law) (pc := 805) 806 dL_law_805 rfl rfl rfl ?_
  refine g_aload_n (M := mL_law) (pc := 806) 807 dL_law_806 rfl rfl rfl ?_
  refine g_iload_n (M := mL_law) (pc := 807) 808 dL_law_807 rfl rfl rfl ?_
  refine g_iconst (M := mL_law) (pc := 808) (v := 1) 809 dL_law_808 rfl ic1 ?_
  refine g_iadd (M := mL_law) (pc := 809) 810 dL_law_809 rfl ?_
  refine g_scld (M := mL_law) (pc := 810) 811 dL_law_810 rfl ?_
  refine g_cV_IH (M := mL_law) (pc := 811) (M' := mX9_queue) (rest := []) 814 dL_law_811 rfl kL_85 okX9_queue (CX9_queue (xs (nC (a3 + 1))) h L) oO16 rfl rfl rfl rfl (fun r70 h71 => ?_)
  refine g_aload_n (M := mL_law) (pc := 814) 815 dL_law_814 rfl rfl rfl ?_
  refine g_aload_n (M := mL_law) (pc := 815) 816 dL_law_815 rfl rfl rfl ?_
  refine g_iload_n (M := mL_law) (pc := 816) 817 dL_law_816 rfl rfl rfl ?_
  refine g_iconst (M := mL_law) (pc := 817) (v := 1) 818 dL_law_817 rfl ic1 ?_
  refine g_iadd (M := mL_law) (pc := 818) 819 dL_law_818 rfl ?_
  refine g_scld (M := mL_law) (pc := 819) 820 dL_law_819 rfl ?_
  refine g_cV_IH (M := mL_law) (pc := 820) (M' := mX10_queue) (rest := [aI r70]) 823 dL_law_820 rfl kL_88 okX10_queue (CX10_queue (xs (nC (a3 + 1))) h71 L) oO32 rfl rfl rfl rfl (fun r72 h73 => ?_)
  refine g_icmp_eq (M := mL_law) (pc := 823) 1537 826 dL_law_823 (by decide) rfl (fun _ => ?_) (fun _ => ?_)
  · refine g_iinc (M := mL_law) (pc := 1537) (c := 6) (ls' := [some (aR 12 0), some (aR 3 16), some (aR 8 32), some (aI (a3 + 6))]) 1540 dL_law_1537 rfl ic6 rfl rfl rfl ?_
    refine g_goto (M := mL_law) (pc := 1540) 18 dL_law_1540 (by decide) ?_
    exact g_jmp (fun z => v_fgt [true, true, true, true] z)
  · refine g_iconst (M := mL_law) (pc := 826) (v := 0) 827 dL_law_826 rfl ic0 ?_
    exact g_lawret (pc := 827) dL_law_827 (fun z => z)
set_option maxRecDepth 100000 in
set_option maxHeartbeats 4000000 in
theorem JL_law_828_ok (n : Nat) (xs : Nat → Int32) (a3 : Int32) (b : Nat) (h : HI) (L : HL) : VX mL_law 12 (ZL b n xs) (gS (fun s : Int32 × HI × HL => V mL_law 12 (ZL b n xs) 18 [some (aR 12 0), some (aR 3 16), some (aR 8 32), some (aI (s.1))] [] (s.2.1) (s.2.2)) (fun r => r = 1)) 828 [some (aR 12 0), some (aR 3 16), some (aR 8 32), some (aI a3)] [] h L (JL_law_828 n xs a3 h L) := by
  unfold JL_law_828
  refine g_aload_n (M := mL_law) (pc := 828) 829 dL_law_828 rfl rfl rfl ?_
  refine g_aload_n (M := mL_law) (pc := 829) 830 dL_law_829 rfl rfl rfl ?_
  refine g_iload_n (M := mL_law) (pc := 830) 831 dL_law_830 rfl rfl rfl ?_
  refine g_iconst (M := mL_law) (pc := 831) (v := 1) 832 dL_law_831 rfl ic1 ?_
  refine g_iadd (M := mL_law) (pc := 832) 833 dL_law_832 rfl ?_
  refine g_scld (M := mL_law) (pc := 833) 834 dL_law_833 rfl ?_
  refine g_cV_IH (M := mL_law) (pc := 834) (M' := mX9_skip) (rest := []) 837 dL_law_834 rfl kL_89 okX9_skip (CX9_skip (xs (nC (a3 + 1))) h L) oO16 rfl rfl rfl rfl (fun r74 h75 => ?_)
  refine g_aload_n (M := mL_law) (pc := 837) 838 dL_law_837 rfl rfl rfl ?_
  refine g_aload_n (M := mL_law) (pc := 838) 839 dL_law_838 rfl rfl rfl ?_
  refine g_iload_n (M := mL_law) (pc := 839) 840 dL_law_839 rfl rfl rfl ?_
  refine g_iconst (M := mL_law) (pc := 840) (v := 1) 841 dL_law_840 rfl ic1 ?_
  refine g_iadd (M := mL_law) (pc := 841) 842 dL_law_841 rfl ?_
  refine g_scld (M := mL_law) (pc := 842) 843 dL_law_842 rfl ?_
  refine g_cV_IH (M := mL_law) (pc := 843) (M' := mX10_skip) (rest := [aI r74]) 846 dL_law_843 rfl kL_92 okX10_skip (CX10_skip (xs (nC (a3 + 1))) h75 L) oO32 rfl rfl rfl rfl (fun r76 h77 => ?_)
  refine g_icmp_eq (M := mL_law) (pc := 846) 1537 849 dL_law_846 (by decide) rfl (fun _ => ?_) (fun _ => ?_)
  · refine g_iinc (M := mL_law) (pc := 1537) (c := 6) (ls' := [some (aR 12 0), some (aR 3 16), some (aR 8 32), some (aI (a3 + 6))]) 1540 dL_law_1537 rfl ic6 rfl rfl rfl ?_
    refine g_goto (M := mL_law) (pc := 1540) 18 dL_law_1540 (by decide) ?_
    exact g_jmp (fun z => v_fgt [true, true, true, true] z)
  · refine g_iconst (M := mL_law) (pc := 849) (v := 0) 850 dL_law_849 rfl ic0 ?_
    exact g_lawret (pc := 850) dL_law_850 (fun z => z)
set_option maxRecDepth 100000 in
set_option maxHeartbeats 4000000 in
theorem JL_law_851_ok (n : Nat) (xs : Nat → Int32) (a3 : Int32) (b : Nat) (h : HI) (L : HL) : VX mL_law 12 (ZL b n xs) (gS (fun s : Int32 × HI × HL => V mL_law 12 (ZL b n xs) 18 [some (aR 12 0), some (aR 3 16), some (aR 8 32), some (aI (s.1))] [] (s.2.1) (s.2.2)) (fun r => r = 1)) 851 [some (aR 12 0), some (aR 3 16), some (aR 8 32), some (aI a3)] [] h L (JL_law_851 n xs a3 h L) := by
  unfold JL_law_851
  refine g_aload_n (M := mL_law) (pc := 851) 852 dL_law_851 rfl rfl rfl ?_
  refine g_aload_n (M := mL_law) (pc := 852) 853 dL_law_852 rfl rfl rfl ?_
  refine g_iload_n (M := mL_law) (pc := 853) 854 dL_law_853 rfl rfl rfl ?_
  refine g_iconst (M := mL_law) (pc := 854) (v := 1) 855 dL_law_854 rfl ic1 ?_
  refine g_iadd (M := mL_law) (pc := 855) 856 dL_law_855 rfl ?_
  refine g_scld (M := mL_law) (pc := 856) 857 dL_law_856 rfl ?_
  refine g_cV_IH (M := mL_law) (pc := 857) (M' := mX9_ith) (rest := []) 860 dL_law_857 rfl kL_93 okX9_ith (CX9_ith (xs (nC (a3 + 1))) h L) oO16 rfl rfl rfl rfl (fun r78 h79 => ?_)
  refine g_aload_n (M := mL_law) (pc := 860) 861 dL_law_860 rfl rfl rfl ?_
  refine g_aload_n (M := mL_law) (pc := 861) 862 dL_law_861 rfl rfl rfl ?_
  refine g_iload_n (M := mL_law) (pc := 862) 863 dL_law_862 rfl rfl rfl ?_
  refine g_iconst (M := mL_law) (pc := 863) (v := 1) 864 dL_law_863 rfl ic1 ?_
  refine g_iadd (M := mL_law) (pc := 864) 865 dL_law_864 rfl ?_
  refine g_scld (M := mL_law) (pc := 865) 866 dL_law_865 rfl ?_
  refine g_cV_IH (M := mL_law) (pc := 866) (M' := mX10_ith) (rest := [aI r78]) 869 dL_law_866 rfl kL_96 okX10_ith (CX10_ith (xs (nC (a3 + 1))) h79 L) oO32 rfl rfl rfl rfl (fun r80 h81 => ?_)
  refine g_icmp_eq (M := mL_law) (pc := 869) 1537 872 dL_law_869 (by decide) rfl (fun _ => ?_) (fun _ => ?_)
  · refine g_iinc (M := mL_law) (pc := 1537) (c := 6) (ls' := [some (aR 12 0), some (aR 3 16), some (aR 8 32), some (aI (a3 + 6))]) 1540 dL_law_1537 rfl ic6 rfl rfl rfl ?_
    refine g_goto (M := mL_law) (pc := 1540) 18 dL_law_1540 (by decide) ?_
    exact g_jmp (fun z => v_fgt [true, true, true, true] z)
  · refine g_iconst (M := mL_law) (pc := 872) (v := 0) 873 dL_law_872 rfl ic0 ?_
    exact g_lawret (pc := 873) dL_law_873 (fun z => z)
set_option maxRecDepth 100000 in
set_option maxHeartbeats 4000000 in
theorem JL_law_874_ok (n : Nat) (xs : Nat → Int32) (a3 : Int32) (b : Nat) (h : HI) (L : HL) : VX mL_law 12 (ZL b n xs) (gS (fun s : Int32 × HI × HL => V mL_law 12 (ZL b n xs) 18 [some (aR 12 0), some (aR 3 16), some (aR 8 32), some (aI (s.1))] [] (s.2.1) (s.2.2)) (fun r => r = 1)) 874 [some (aR 12 0), some (aR 3 16), some (aR 8 32), some (aI a3)] [] h L (JL_law_874 n xs a3 h L) := by
  unfold JL_law_874
  refine g_aload_n (M := mL_law) (pc := 874) 875 dL_law_874 rfl rfl rfl ?_
  refine g_aload_n (M := mL_law) (pc := 875) 876 dL_law_875 rfl rfl rfl ?_
  refine g_iload_n (M := mL_law) (pc := 876) 877 dL_law_876 rfl rfl rfl ?_
  refine g_iconst (M := mL_law) (pc := 877) (v := 1) 878 dL_law_877 rfl ic1 ?_
  refine g_iadd (M := mL_law) (pc := 878) 879 dL_law_878 rfl ?_
  refine g_scld (M := mL_law) (pc := 879) 880 dL_law_879 rfl ?_
  refine g_aload_n (M := mL_law) (pc := 880) 881 dL_law_880 rfl rfl rfl ?_
  refine g_iload_n (M := mL_law) (pc := 881) 882 dL_law_881 rfl rfl rfl ?_
  refine g_iconst (M := mL_law) (pc := 882) (v := 2) 883 dL_law_882 rfl ic2 ?_
  refine g_iadd (M := mL_law) (pc := 883) 884 dL_law_883 rfl ?_
  refine g_scld (M := mL_law) (pc := 884) 885 dL_law_884 rfl ?_
  refine g_cV_IH (M := mL_law) (pc := 885) (M' := mX9_learn) (rest := []) 888 dL_law_885 rfl kL_97 okX9_learn (CX9_learn (xs (nC (a3 + 1))) (xs (nC (a3 + 2))) h L) oO16 rfl rfl rfl rfl (fun r82 h83 => ?_)
  refine g_aload_n (M := mL_law) (pc := 888) 889 dL_law_888 rfl rfl rfl ?_
  refine g_aload_n (M := mL_law) (pc := 889) 890 dL_law_889 rfl rfl rfl ?_
  refine g_iload_n (M := mL_law) (pc := 890) 891 dL_law_890 rfl rfl rfl ?_
  refine g_iconst (M := mL_law) (pc := 891) (v := 1) 892 dL_law_891 rfl ic1 ?_
  refine g_iadd (M := mL_law) (pc := 892) 893 dL_law_892 rfl ?_
  refine g_scld (M := mL_law) (pc := 893) 894 dL_law_893 rfl ?_
  refine g_aload_n (M := mL_law) (pc := 894) 895 dL_law_894 rfl rfl rfl ?_
  refine g_iload_n (M := mL_law) (pc := 895) 896 dL_law_895 rfl rfl rfl ?_
  refine g_iconst (M := mL_law) (pc := 896) (v := 2) 897 dL_law_896 rfl ic2 ?_
  refine g_iadd (M := mL_law) (pc := 897) 898 dL_law_897 rfl ?_
  refine g_scld (M := mL_law) (pc := 898) 899 dL_law_898 rfl ?_
  refine g_cV_IH (M := mL_law) (pc := 899) (M' := mX10_learn) (rest := [aI r82]) 902 dL_law_899 rfl kL_100 okX10_learn (CX10_learn (xs (nC (a3 + 1))) (xs (nC (a3 + 2))) h83 L) oO32 rfl rfl rfl rfl (fun r84 h85 => ?_)
  refine g_icmp_eq (M := mL_law) (pc := 902) 1537 905 dL_law_902 (by decide) rfl (fun _ => ?_) (fun _ => ?_)
  · refine g_iinc (M := mL_law) (pc := 1537) (c := 6) (ls' := [some (aR 12 0), some (aR 3 16), some (aR 8 32), some (aI (a3 + 6))]) 1540 dL_law_1537 rfl ic6 rfl rfl rfl ?_
    refine g_goto (M := mL_law) (pc := 1540) 18 dL_law_1540 (by decide) ?_
    exact g_jmp (fun z => v_fgt [true, true, true, true] z)
  · refine g_iconst (M := mL_law) (pc := 905) (v := 0) 906 dL_law_905 rfl ic0 ?_
    exact g_lawret (pc := 906) dL_law_906 (fun z => z)
set_option maxRecDepth 100000 in
set_option maxHeartbeats 4000000 in
theorem JL_law_907_ok (n : Nat) (xs : Nat → Int32) (a3 : Int32) (b : Nat) (h : HI) (L : HL) : VX mL_law 12 (ZL b n xs) (gS (fun s : Int32 × HI × HL => V mL_law 12 (ZL b n xs) 18 [some (aR 12 0), some (aR 3 16), some (aR 8 32), some (aI (s.1))] [] (s.2.1) (s.2.2)) (fun r => r = 1)) 907 [some (aR 12 0), some (aR 3 16), some (aR 8 32), some (aI a3)] [] h L (JL_law_907 n xs a3 h L) := by
  unfold JL_law_907
  refine g_aload_n (M := mL_law) (pc := 907) 908 dL_law_907 rfl rfl rfl ?_
  refine g_aload_n (M := mL_law) (pc := 908) 909 dL_law_908 rfl rfl rfl ?_
  refine g_iload_n (M := mL_law) (pc := 909) 910 dL_law_909 rfl rfl rfl ?_
  refine g_iconst (M := mL_law) (pc := 910) (v := 1) 911 dL_law_910 rfl ic1 ?_
  refine g_iadd (M := mL_law) (pc := 911) 912 dL_law_911 rfl ?_
  refine g_scld (M := mL_law) (pc := 912) 913 dL_law_912 rfl ?_
  refine g_cV_IH (M := mL_law) (pc := 913) (M' := mX9_evening) (rest := []) 916 dL_law_913 rfl kL_101 okX9_evening (CX9_evening (xs (nC (a3 + 1))) h L) oO16 rfl rfl rfl rfl (fun r86 h87 => ?_)
  refine g_aload_n (M := mL_law) (pc := 916) 917 dL_law_916 rfl rfl rfl ?_
  refine g_aload_n (M := mL_law) (pc := 917) 918 dL_law_917 rfl rfl rfl ?_
  refine g_iload_n (M := mL_law) (pc := 918) 919 dL_law_918 rfl rfl rfl ?_
  refine g_iconst (M := mL_law) (pc := 919) (v := 1) 920 dL_law_919 rfl ic1 ?_
  refine g_iadd (M := mL_law) (pc := 920) 921 dL_law_920 rfl ?_
  refine g_scld (M := mL_law) (pc := 921) 922 dL_law_921 rfl ?_
  refine g_cV_IH (M := mL_law) (pc := 922) (M' := mX10_evening) (rest := [aI r86]) 925 dL_law_922 rfl kL_104 okX10_evening (CX10_evening (xs (nC (a3 + 1))) h87 L) oO32 rfl rfl rfl rfl (fun r88 h89 => ?_)
  refine g_icmp_eq (M := mL_law) (pc := 925) 1537 928 dL_law_925 (by decide) rfl (fun _ => ?_) (fun _ => ?_)
  · refine g_iinc (M := mL_law) (pc := 1537) (c := 6) (ls' := [some (aR 12 0), some (aR 3 16), some (aR 8 32), some (aI (a3 + 6))]) 1540 dL_law_1537 rfl ic6 rfl rfl rfl ?_
    refine g_goto (M := mL_law) (pc := 1540) 18 dL_law_1540 (by decide) ?_
    exact g_jmp (fun z => v_fgt [true, true, true, true] z)
  · refine g_iconst (M := mL_law) (pc := 928) (v := 0) 929 dL_law_928 rfl ic0 ?_
    exact g_lawret (pc := 929) dL_law_929 (fun z => z)
set_option maxRecDepth 100000 in
set_option maxHeartbeats 4000000 in
theorem JL_law_930_ok (n : Nat) (xs : Nat → Int32) (a3 : Int32) (b : Nat) (h : HI) (L : HL) : VX mL_law 12 (ZL b n xs) (gS (fun s : Int32 × HI × HL => V mL_law 12 (ZL b n xs) 18 [some (aR 12 0), some (aR 3 16), some (aR 8 32), some (aI (s.1))] [] (s.2.1) (s.2.2)) (fun r => r = 1)) 930 [some (aR 12 0), some (aR 3 16), some (aR 8 32), some (aI a3)] [] h L (JL_law_930 n xs a3 h L) := by
  unfold JL_law_930
  refine g_aload_n (M := mL_law) (pc := 930) 931 dL_law_930 rfl rfl rfl ?_
  refine g_aload_n (M := mL_law) (pc := 931) 932 dL_law_931 rfl rfl rfl ?_
  refine g_iload_n (M := mL_law) (pc := 932) 933 dL_law_932 rfl rfl rfl ?_
  refine g_iconst (M := mL_law) (pc := 933) (v := 1) 934 dL_law_933 rfl ic1 ?_
  refine g_iadd (M := mL_law) (pc := 934) 935 dL_law_934 rfl ?_
  refine g_scld (M := mL_law) (pc := 935) 936 dL_law_935 rfl ?_
  refine g_cV_IH (M := mL_law) (pc := 936) (M' := mX9_line) (rest := []) 939 dL_law_936 rfl kL_105 okX9_line (CX9_line (xs (nC (a3 + 1))) h L) oO16 rfl rfl rfl rfl (fun r90 h91 => ?_)
  refine g_aload_n (M := mL_law) (pc := 939) 940 dL_law_939 rfl rfl rfl ?_
  refine g_aload_n (M := mL_law) (pc := 940) 941 dL_law_940 rfl rfl rfl ?_
  refine g_iload_n (M := mL_law) (pc := 941) 942 dL_law_941 rfl rfl rfl ?_
  refine g_iconst (M := mL_law) (pc := 942) (v := 1) 943 dL_law_942 rfl ic1 ?_
  refine g_iadd (M := mL_law) (pc := 943) 944 dL_law_943 rfl ?_
  refine g_scld (M := mL_law) (pc := 944) 945 dL_law_944 rfl ?_
  refine g_cV_IH (M := mL_law) (pc := 945) (M' := mX10_line) (rest := [aI r90]) 948 dL_law_945 rfl kL_108 okX10_line (CX10_line (xs (nC (a3 + 1))) h91 L) oO32 rfl rfl rfl rfl (fun r92 h93 => ?_)
  refine g_icmp_eq (M := mL_law) (pc := 948) 1537 951 dL_law_948 (by decide) rfl (fun _ => ?_) (fun _ => ?_)
  · refine g_iinc (M := mL_law) (pc := 1537) (c := 6) (ls' := [some (aR 12 0), some (aR 3 16), some (aR 8 32), some (aI (a3 + 6))]) 1540 dL_law_1537 rfl ic6 rfl rfl rfl ?_
    refine g_goto (M := mL_law) (pc := 1540) 18 dL_law_1540 (by decide) ?_
    exact g_jmp (fun z => v_fgt [true, true, true, true] z)
  · refine g_iconst (M := mL_law) (pc := 951) (v := 0) 952 dL_law_951 rfl ic0 ?_
    exact g_lawret (pc := 952) dL_law_952 (fun z => z)
set_option maxRecDepth 100000 in
set_option maxHeartbeats 4000000 in
theorem JL_law_953_ok (n : Nat) (xs : Nat → Int32) (a3 : Int32) (b : Nat) (h : HI) (L : HL) : VX mL_law 12 (ZL b n xs) (gS (fun s : Int32 × HI × HL => V mL_law 12 (ZL b n xs) 18 [some (aR 12 0), some (aR 3 16), some (aR 8 32), some (aI (s.1))] [] (s.2.1) (s.2.2)) (fun r => r = 1)) 953 [some (aR 12 0), some (aR 3 16), some (aR 8 32), some (aI a3)] [] h L (JL_law_953 n xs a3 h L) := by
  unfold JL_law_953
  refine g_aload_n (M := mL_law) (pc := 953) 954 dL_law_953 rfl rfl rfl ?_
  refine g_cV_I (M := mL_law) (pc := 954) (M' := mX9_known) (rest := []) 957 dL_law_954 rfl kL_109 okX9_known (CX9_known h L) oO16 rfl rfl rfl rfl (fun r94 => ?_)
  refine g_aload_n (M := mL_law) (pc := 957) 958 dL_law_957 rfl rfl rfl ?_
  refine g_cV_I (M := mL_law) (pc := 958) (M' := mX10_known) (rest := [aI r94]) 961 dL_law_958 rfl kL_113 okX10_known (CX10_known h L) oO32 rfl rfl rfl rfl (fun r95 => ?_)
  refine g_icmp_eq (M := mL_law) (pc := 961) 1537 964 dL_law_961 (by decide) rfl (fun _ => ?_) (fun _ => ?_)
  · refine g_iinc (M := mL_law) (pc := 1537) (c := 6) (ls' := [some (aR 12 0), some (aR 3 16), some (aR 8 32), some (aI (a3 + 6))]) 1540 dL_law_1537 rfl ic6 rfl rfl rfl ?_
    refine g_goto (M := mL_law) (pc := 1540) 18 dL_law_1540 (by decide) ?_
    exact g_jmp (fun z => v_fgt [true, true, true, true] z)
  · refine g_iconst (M := mL_law) (pc := 964) (v := 0) 965 dL_law_964 rfl ic0 ?_
    exact g_lawret (pc := 965) dL_law_965 (fun z => z)
set_option maxRecDepth 100000 in
set_option maxHeartbeats 4000000 in
theorem JL_law_966_ok (n : Nat) (xs : Nat → Int32) (a3 : Int32) (b : Nat) (h : HI) (L : HL) : VX mL_law 12 (ZL b n xs) (gS (fun s : Int32 × HI × HL => V mL_law 12 (ZL b n xs) 18 [some (aR 12 0), some (aR 3 16), some (aR 8 32), some (aI (s.1))] [] (s.2.1) (s.2.2)) (fun r => r = 1)) 966 [some (aR 12 0), some (aR 3 16), some (aR 8 32), some (aI a3)] [] h L (JL_law_966 n xs a3 h L) := by
  unfold JL_law_966
  refine g_aload_n (M := mL_law) (pc := 966) 967 dL_law_966 rfl rfl rfl ?_
  refine g_aload_n (M := mL_law) (pc := 967) 968 dL_law_967 rfl rfl rfl ?_
  refine g_iload_n (M := mL_law) (pc := 968) 969 dL_law_968 rfl rfl rfl ?_
  refine g_iconst (M := mL_law) (pc := 969) (v := 1) 970 dL_law_969 rfl ic1 ?_
  refine g_iadd (M := mL_law) (pc := 970) 971 dL_law_970 rfl ?_
  refine g_scld (M := mL_law) (pc := 971) 972 dL_law_971 rfl ?_
  refine g_cV_IH (M := mL_law) (pc := 972) (M' := mX9_days) (rest := []) 975 dL_law_972 rfl kL_114 okX9_days (CX9_days (xs (nC (a3 + 1))) h L) oO16 rfl rfl rfl rfl (fun r96 h97 => ?_)
  refine g_aload_n (M := mL_law) (pc := 975) 976 dL_law_975 rfl rfl rfl ?_
  refine g_aload_n (M := mL_law) (pc := 976) 977 dL_law_976 rfl rfl rfl ?_
  refine g_iload_n (M := mL_law) (pc := 977) 978 dL_law_977 rfl rfl rfl ?_
  refine g_iconst (M := mL_law) (pc := 978) (v := 1) 979 dL_law_978 rfl ic1 ?_
  refine g_iadd (M := mL_law) (pc := 979) 980 dL_law_979 rfl ?_
  refine g_scld (M := mL_law) (pc := 980) 981 dL_law_980 rfl ?_
  refine g_cV_IH (M := mL_law) (pc := 981) (M' := mX10_days) (rest := [aI r96]) 984 dL_law_981 rfl kL_117 okX10_days (CX10_days (xs (nC (a3 + 1))) h97 L) oO32 rfl rfl rfl rfl (fun r98 h99 => ?_)
  refine g_icmp_eq (M := mL_law) (pc := 984) 1537 987 dL_law_984 (by decide) rfl (fun _ => ?_) (fun _ => ?_)
  · refine g_iinc (M := mL_law) (pc := 1537) (c := 6) (ls' := [some (aR 12 0), some (aR 3 16), some (aR 8 32), some (aI (a3 + 6))]) 1540 dL_law_1537 rfl ic6 rfl rfl rfl ?_
    refine g_goto (M := mL_law) (pc := 1540) 18 dL_law_1540 (by decide) ?_
    exact g_jmp (fun z => v_fgt [true, true, true, true] z)
  · refine g_iconst (M := mL_law) (pc := 987) (v := 0) 988 dL_law_987 rfl ic0 ?_
    exact g_lawret (pc := 988) dL_law_988 (fun z => z)
set_option maxRecDepth 100000 in
set_option maxHeartbeats 4000000 in
theorem JL_law_989_ok (n : Nat) (xs : Nat → Int32) (a3 : Int32) (b : Nat) (h : HI) (L : HL) : VX mL_law 12 (ZL b n xs) (gS (fun s : Int32 × HI × HL => V mL_law 12 (ZL b n xs) 18 [some (aR 12 0), some (aR 3 16), some (aR 8 32), some (aI (s.1))] [] (s.2.1) (s.2.2)) (fun r => r = 1)) 989 [some (aR 12 0), some (aR 3 16), some (aR 8 32), some (aI a3)] [] h L (JL_law_989 n xs a3 h L) := by
  unfold JL_law_989
  refine g_aload_n (M := mL_law) (pc := 989) 990 dL_law_989 rfl rfl rfl ?_
  refine g_aload_n (M := mL_law) (pc := 990) 991 dL_law_990 rfl rfl rfl ?_
  refine g_iload_n (M := mL_law) (pc := 991) 992 dL_law_991 rfl rfl rfl ?_
  refine g_iconst (M := mL_law) (pc := 992) (v := 1) 993 dL_law_992 rfl ic1 ?_
  refine g_iadd (M := mL_law) (pc := 993) 994 dL_law_993 rfl ?_
  refine g_scld (M := mL_law) (pc := 994) 995 dL_law_994 rfl ?_
  refine g_cV_IH (M := mL_law) (pc := 995) (M' := mX9_now) (rest := []) 998 dL_law_995 rfl kL_118 okX9_now (CX9_now (xs (nC (a3 + 1))) h L) oO16 rfl rfl rfl rfl (fun r100 h101 => ?_)
  refine g_aload_n (M := mL_law) (pc := 998) 999 dL_law_998 rfl rfl rfl ?_
  refine g_aload_n (M := mL_law) (pc := 999) 1000 dL_law_999 rfl rfl rfl ?_
  refine g_iload_n (M := mL_law) (pc := 1000) 1001 dL_law_1000 rfl rfl rfl ?_
  refine g_iconst (M := mL_law) (pc := 1001) (v := 1) 1002 dL_law_1001 rfl ic1 ?_
  refine g_iadd (M := mL_law) (pc := 1002) 1003 dL_law_1002 rfl ?_
  refine g_scld (M := mL_law) (pc := 1003) 1004 dL_law_1003 rfl ?_
  refine g_cV_IH (M := mL_law) (pc := 1004) (M' := mX10_now) (rest := [aI r100]) 1007 dL_law_1004 rfl kL_121 okX10_now (CX10_now (xs (nC (a3 + 1))) h101 L) oO32 rfl rfl rfl rfl (fun r102 h103 => ?_)
  refine g_icmp_eq (M := mL_law) (pc := 1007) 1537 1010 dL_law_1007 (by decide) rfl (fun _ => ?_) (fun _ => ?_)
  · refine g_iinc (M := mL_law) (pc := 1537) (c := 6) (ls' := [some (aR 12 0), some (aR 3 16), some (aR 8 32), some (aI (a3 + 6))]) 1540 dL_law_1537 rfl ic6 rfl rfl rfl ?_
    refine g_goto (M := mL_law) (pc := 1540) 18 dL_law_1540 (by decide) ?_
    exact g_jmp (fun z => v_fgt [true, true, true, true] z)
  · refine g_iconst (M := mL_law) (pc := 1010) (v := 0) 1011 dL_law_1010 rfl ic0 ?_
    exact g_lawret (pc := 1011) dL_law_1011 (fun z => z)
set_option maxRecDepth 100000 in
set_option maxHeartbeats 4000000 in
theorem JL_law_1012_ok (n : Nat) (xs : Nat → Int32) (a3 : Int32) (b : Nat) (h : HI) (L : HL) : VX mL_law 12 (ZL b n xs) (gS (fun s : Int32 × HI × HL => V mL_law 12 (ZL b n xs) 18 [some (aR 12 0), some (aR 3 16), some (aR 8 32), some (aI (s.1))] [] (s.2.1) (s.2.2)) (fun r => r = 1)) 1012 [some (aR 12 0), some (aR 3 16), some (aR 8 32), some (aI a3)] [] h L (JL_law_1012 n xs a3 h L) := by
  unfold JL_law_1012
  refine g_aload_n (M := mL_law) (pc := 1012) 1013 dL_law_1012 rfl rfl rfl ?_
  refine g_aload_n (M := mL_law) (pc := 1013) 1014 dL_law_1013 rfl rfl rfl ?_
  refine g_iload_n (M := mL_law) (pc := 1014) 1015 dL_law_1014 rfl rfl rfl ?_
  refine g_iconst (M := mL_law) (pc := 1015) (v := 1) 1016 dL_law_1015 rfl ic1 ?_
  refine g_iadd (M := mL_law) (pc := 1016) 1017 dL_law_1016 rfl ?_
  refine g_scld (M := mL_law) (pc := 1017) 1018 dL_law_1017 rfl ?_
  refine g_aload_n (M := mL_law) (pc := 1018) 1019 dL_law_1018 rfl rfl rfl ?_
  refine g_iload_n (M := mL_law) (pc := 1019) 1020 dL_law_1019 rfl rfl rfl ?_
  refine g_iconst (M := mL_law) (pc := 1020) (v := 2) 1021 dL_law_1020 rfl ic2 ?_
  refine g_iadd (M := mL_law) (pc := 1021) 1022 dL_law_1021 rfl ?_
  refine g_scld (M := mL_law) (pc := 1022) 1023 dL_law_1022 rfl ?_
  refine g_cV_IH (M := mL_law) (pc := 1023) (M' := mX9_on) (rest := []) 1026 dL_law_1023 rfl kL_122 okX9_on (CX9_on (xs (nC (a3 + 1))) (xs (nC (a3 + 2))) h L) oO16 rfl rfl rfl rfl (fun r104 h105 => ?_)
  refine g_aload_n (M := mL_law) (pc := 1026) 1027 dL_law_1026 rfl rfl rfl ?_
  refine g_aload_n (M := mL_law) (pc := 1027) 1028 dL_law_1027 rfl rfl rfl ?_
  refine g_iload_n (M := mL_law) (pc := 1028) 1029 dL_law_1028 rfl rfl rfl ?_
  refine g_iconst (M := mL_law) (pc := 1029) (v := 1) 1030 dL_law_1029 rfl ic1 ?_
  refine g_iadd (M := mL_law) (pc := 1030) 1031 dL_law_1030 rfl ?_
  refine g_scld (M := mL_law) (pc := 1031) 1032 dL_law_1031 rfl ?_
  refine g_aload_n (M := mL_law) (pc := 1032) 1033 dL_law_1032 rfl rfl rfl ?_
  refine g_iload_n (M := mL_law) (pc := 1033) 1034 dL_law_1033 rfl rfl rfl ?_
  refine g_iconst (M := mL_law) (pc := 1034) (v := 2) 1035 dL_law_1034 rfl ic2 ?_
  refine g_iadd (M := mL_law) (pc := 1035) 1036 dL_law_1035 rfl ?_
  refine g_scld (M := mL_law) (pc := 1036) 1037 dL_law_1036 rfl ?_
  refine g_cV_IH (M := mL_law) (pc := 1037) (M' := mX10_on) (rest := [aI r104]) 1040 dL_law_1037 rfl kL_125 okX10_on (CX10_on (xs (nC (a3 + 1))) (xs (nC (a3 + 2))) h105 L) oO32 rfl rfl rfl rfl (fun r106 h107 => ?_)
  refine g_icmp_eq (M := mL_law) (pc := 1040) 1537 1043 dL_law_1040 (by decide) rfl (fun _ => ?_) (fun _ => ?_)
  · refine g_iinc (M := mL_law) (pc := 1537) (c := 6) (ls' := [some (aR 12 0), some (aR 3 16), some (aR 8 32), some (aI (a3 + 6))]) 1540 dL_law_1537 rfl ic6 rfl rfl rfl ?_
    refine g_goto (M := mL_law) (pc := 1540) 18 dL_law_1540 (by decide) ?_
    exact g_jmp (fun z => v_fgt [true, true, true, true] z)
  · refine g_iconst (M := mL_law) (pc := 1043) (v := 0) 1044 dL_law_1043 rfl ic0 ?_
    exact g_lawret (pc := 1044) dL_law_1044 (fun z => z)
set_option maxRecDepth 100000 in
set_option maxHeartbeats 4000000 in
theorem JL_law_1045_ok (n : Nat) (xs : Nat → Int32) (a3 : Int32) (b : Nat) (h : HI) (L : HL) : VX mL_law 12 (ZL b n xs) (gS (fun s : Int32 × HI × HL => V mL_law 12 (ZL b n xs) 18 [some (aR 12 0), some (aR 3 16), some (aR 8 32), some (aI (s.1))] [] (s.2.1) (s.2.2)) (fun r => r = 1)) 1045 [some (aR 12 0), some (aR 3 16), some (aR 8 32), some (aI a3)] [] h L (JL_law_1045 n xs a3 h L) := by
  unfold JL_law_1045
  refine g_aload_n (M := mL_law) (pc := 1045) 1046 dL_law_1045 rfl rfl rfl ?_
  refine g_aload_n (M := mL_law) (pc := 1046) 1047 dL_law_1046 rfl rfl rfl ?_
  refine g_iload_n (M := mL_law) (pc := 1047) 1048 dL_law_1047 rfl rfl rfl ?_
  refine g_iconst (M := mL_law) (pc := 1048) (v := 1) 1049 dL_law_1048 rfl ic1 ?_
  refine g_iadd (M := mL_law) (pc := 1049) 1050 dL_law_1049 rfl ?_
  refine g_scld (M := mL_law) (pc := 1050) 1051 dL_law_1050 rfl ?_
  refine g_cV_IH (M := mL_law) (pc := 1051) (M' := mX9_forgot) (rest := []) 1054 dL_law_1051 rfl kL_126 okX9_forgot (CX9_forgot (xs (nC (a3 + 1))) h L) oO16 rfl rfl rfl rfl (fun r108 h109 => ?_)
  refine g_aload_n (M := mL_law) (pc := 1054) 1055 dL_law_1054 rfl rfl rfl ?_
  refine g_aload_n (M := mL_law) (pc := 1055) 1056 dL_law_1055 rfl rfl rfl ?_
  refine g_iload_n (M := mL_law) (pc := 1056) 1057 dL_law_1056 rfl rfl rfl ?_
  refine g_iconst (M := mL_law) (pc := 1057) (v := 1) 1058 dL_law_1057 rfl ic1 ?_
  refine g_iadd (M := mL_law) (pc := 1058) 1059 dL_law_1058 rfl ?_
  refine g_scld (M := mL_law) (pc := 1059) 1060 dL_law_1059 rfl ?_
  refine g_cV_IH (M := mL_law) (pc := 1060) (M' := mX10_forgot) (rest := [aI r108]) 1063 dL_law_1060 rfl kL_129 okX10_forgot (CX10_forgot (xs (nC (a3 + 1))) h109 L) oO32 rfl rfl rfl rfl (fun r110 h111 => ?_)
  refine g_icmp_eq (M := mL_law) (pc := 1063) 1537 1066 dL_law_1063 (by decide) rfl (fun _ => ?_) (fun _ => ?_)
  · refine g_iinc (M := mL_law) (pc := 1537) (c := 6) (ls' := [some (aR 12 0), some (aR 3 16), some (aR 8 32), some (aI (a3 + 6))]) 1540 dL_law_1537 rfl ic6 rfl rfl rfl ?_
    refine g_goto (M := mL_law) (pc := 1540) 18 dL_law_1540 (by decide) ?_
    exact g_jmp (fun z => v_fgt [true, true, true, true] z)
  · refine g_iconst (M := mL_law) (pc := 1066) (v := 0) 1067 dL_law_1066 rfl ic0 ?_
    exact g_lawret (pc := 1067) dL_law_1067 (fun z => z)
set_option maxRecDepth 100000 in
set_option maxHeartbeats 4000000 in
theorem JL_law_1068_ok (n : Nat) (xs : Nat → Int32) (a3 : Int32) (b : Nat) (h : HI) (L : HL) : VX mL_law 12 (ZL b n xs) (gS (fun s : Int32 × HI × HL => V mL_law 12 (ZL b n xs) 18 [some (aR 12 0), some (aR 3 16), some (aR 8 32), some (aI (s.1))] [] (s.2.1) (s.2.2)) (fun r => r = 1)) 1068 [some (aR 12 0), some (aR 3 16), some (aR 8 32), some (aI a3)] [] h L (JL_law_1068 n xs a3 h L) := by
  unfold JL_law_1068
  refine g_aload_n (M := mL_law) (pc := 1068) 1069 dL_law_1068 rfl rfl rfl ?_
  refine g_aload_n (M := mL_law) (pc := 1069) 1070 dL_law_1069 rfl rfl rfl ?_
  refine g_iload_n (M := mL_law) (pc := 1070) 1071 dL_law_1070 rfl rfl rfl ?_
  refine g_iconst (M := mL_law) (pc := 1071) (v := 1) 1072 dL_law_1071 rfl ic1 ?_
  refine g_iadd (M := mL_law) (pc := 1072) 1073 dL_law_1072 rfl ?_
  refine g_scld (M := mL_law) (pc := 1073) 1074 dL_law_1073 rfl ?_
  refine g_cV_IH (M := mL_law) (pc := 1074) (M' := mX9_useless) (rest := []) 1077 dL_law_1074 rfl kL_130 okX9_useless (CX9_useless (xs (nC (a3 + 1))) h L) oO16 rfl rfl rfl rfl (fun r112 h113 => ?_)
  refine g_aload_n (M := mL_law) (pc := 1077) 1078 dL_law_1077 rfl rfl rfl ?_
  refine g_aload_n (M := mL_law) (pc := 1078) 1079 dL_law_1078 rfl rfl rfl ?_
  refine g_iload_n (M := mL_law) (pc := 1079) 1080 dL_law_1079 rfl rfl rfl ?_
  refine g_iconst (M := mL_law) (pc := 1080) (v := 1) 1081 dL_law_1080 rfl ic1 ?_
  refine g_iadd (M := mL_law) (pc := 1081) 1082 dL_law_1081 rfl ?_
  refine g_scld (M := mL_law) (pc := 1082) 1083 dL_law_1082 rfl ?_
  refine g_cV_IH (M := mL_law) (pc := 1083) (M' := mX10_useless) (rest := [aI r112]) 1086 dL_law_1083 rfl kL_133 okX10_useless (CX10_useless (xs (nC (a3 + 1))) h113 L) oO32 rfl rfl rfl rfl (fun r114 h115 => ?_)
  refine g_icmp_eq (M := mL_law) (pc := 1086) 1537 1089 dL_law_1086 (by decide) rfl (fun _ => ?_) (fun _ => ?_)
  · refine g_iinc (M := mL_law) (pc := 1537) (c := 6) (ls' := [some (aR 12 0), some (aR 3 16), some (aR 8 32), some (aI (a3 + 6))]) 1540 dL_law_1537 rfl ic6 rfl rfl rfl ?_
    refine g_goto (M := mL_law) (pc := 1540) 18 dL_law_1540 (by decide) ?_
    exact g_jmp (fun z => v_fgt [true, true, true, true] z)
  · refine g_iconst (M := mL_law) (pc := 1089) (v := 0) 1090 dL_law_1089 rfl ic0 ?_
    exact g_lawret (pc := 1090) dL_law_1090 (fun z => z)
set_option maxRecDepth 100000 in
set_option maxHeartbeats 4000000 in
theorem JL_law_1091_ok (n : Nat) (xs : Nat → Int32) (a3 : Int32) (b : Nat) (h : HI) (L : HL) : VX mL_law 12 (ZL b n xs) (gS (fun s : Int32 × HI × HL => V mL_law 12 (ZL b n xs) 18 [some (aR 12 0), some (aR 3 16), some (aR 8 32), some (aI (s.1))] [] (s.2.1) (s.2.2)) (fun r => r = 1)) 1091 [some (aR 12 0), some (aR 3 16), some (aR 8 32), some (aI a3)] [] h L (JL_law_1091 n xs a3 h L) := by
  unfold JL_law_1091
  refine g_aload_n (M := mL_law) (pc := 1091) 1092 dL_law_1091 rfl rfl rfl ?_
  refine g_aload_n (M := mL_law) (pc := 1092) 1093 dL_law_1092 rfl rfl rfl ?_
  refine g_iload_n (M := mL_law) (pc := 1093) 1094 dL_law_1093 rfl rfl rfl ?_
  refine g_iconst (M := mL_law) (pc := 1094) (v := 1) 1095 dL_law_1094 rfl ic1 ?_
  refine g_iadd (M := mL_law) (pc := 1095) 1096 dL_law_1095 rfl ?_
  refine g_scld (M := mL_law) (pc := 1096) 1097 dL_law_1096 rfl ?_
  refine g_cV_IH (M := mL_law) (pc := 1097) (M' := mX9_tonight) (rest := []) 1100 dL_law_1097 rfl kL_134 okX9_tonight (CX9_tonight (xs (nC (a3 + 1))) h L) oO16 rfl rfl rfl rfl (fun r116 h117 => ?_)
  refine g_aload_n (M := mL_law) (pc := 1100) 1101 dL_law_1100 rfl rfl rfl ?_
  refine g_aload_n (M := mL_law) (pc := 1101) 1102 dL_law_1101 rfl rfl rfl ?_
  refine g_iload_n (M := mL_law) (pc := 1102) 1103 dL_law_1102 rfl rfl rfl ?_
  refine g_iconst (M := mL_law) (pc := 1103) (v := 1) 1104 dL_law_1103 rfl ic1 ?_
  refine g_iadd (M := mL_law) (pc := 1104) 1105 dL_law_1104 rfl ?_
  refine g_scld (M := mL_law) (pc := 1105) 1106 dL_law_1105 rfl ?_
  refine g_cV_IH (M := mL_law) (pc := 1106) (M' := mX10_tonight) (rest := [aI r116]) 1109 dL_law_1106 rfl kL_137 okX10_tonight (CX10_tonight (xs (nC (a3 + 1))) h117 L) oO32 rfl rfl rfl rfl (fun r118 h119 => ?_)
  refine g_icmp_eq (M := mL_law) (pc := 1109) 1537 1112 dL_law_1109 (by decide) rfl (fun _ => ?_) (fun _ => ?_)
  · refine g_iinc (M := mL_law) (pc := 1537) (c := 6) (ls' := [some (aR 12 0), some (aR 3 16), some (aR 8 32), some (aI (a3 + 6))]) 1540 dL_law_1537 rfl ic6 rfl rfl rfl ?_
    refine g_goto (M := mL_law) (pc := 1540) 18 dL_law_1540 (by decide) ?_
    exact g_jmp (fun z => v_fgt [true, true, true, true] z)
  · refine g_iconst (M := mL_law) (pc := 1112) (v := 0) 1113 dL_law_1112 rfl ic0 ?_
    exact g_lawret (pc := 1113) dL_law_1113 (fun z => z)
set_option maxRecDepth 100000 in
set_option maxHeartbeats 4000000 in
theorem JL_law_1114_ok (n : Nat) (xs : Nat → Int32) (a3 : Int32) (b : Nat) (h : HI) (L : HL) : VX mL_law 12 (ZL b n xs) (gS (fun s : Int32 × HI × HL => V mL_law 12 (ZL b n xs) 18 [some (aR 12 0), some (aR 3 16), some (aR 8 32), some (aI (s.1))] [] (s.2.1) (s.2.2)) (fun r => r = 1)) 1114 [some (aR 12 0), some (aR 3 16), some (aR 8 32), some (aI a3)] [] h L (JL_law_1114 n xs a3 h L) := by
  unfold JL_law_1114
  refine g_aload_n (M := mL_law) (pc := 1114) 1115 dL_law_1114 rfl rfl rfl ?_
  refine g_aload_n (M := mL_law) (pc := 1115) 1116 dL_law_1115 rfl rfl rfl ?_
  refine g_iload_n (M := mL_law) (pc := 1116) 1117 dL_law_1116 rfl rfl rfl ?_
  refine g_iconst (M := mL_law) (pc := 1117) (v := 1) 1118 dL_law_1117 rfl ic1 ?_
  refine g_iadd (M := mL_law) (pc := 1118) 1119 dL_law_1118 rfl ?_
  refine g_scld (M := mL_law) (pc := 1119) 1120 dL_law_1119 rfl ?_
  refine g_aload_n (M := mL_law) (pc := 1120) 1121 dL_law_1120 rfl rfl rfl ?_
  refine g_iload_n (M := mL_law) (pc := 1121) 1122 dL_law_1121 rfl rfl rfl ?_
  refine g_iconst (M := mL_law) (pc := 1122) (v := 2) 1123 dL_law_1122 rfl ic2 ?_
  refine g_iadd (M := mL_law) (pc := 1123) 1124 dL_law_1123 rfl ?_
  refine g_scld (M := mL_law) (pc := 1124) 1125 dL_law_1124 rfl ?_
  refine g_aload_n (M := mL_law) (pc := 1125) 1126 dL_law_1125 rfl rfl rfl ?_
  refine g_iload_n (M := mL_law) (pc := 1126) 1127 dL_law_1126 rfl rfl rfl ?_
  refine g_iconst (M := mL_law) (pc := 1127) (v := 3) 1128 dL_law_1127 rfl ic3 ?_
  refine g_iadd (M := mL_law) (pc := 1128) 1129 dL_law_1128 rfl ?_
  refine g_scld (M := mL_law) (pc := 1129) 1130 dL_law_1129 rfl ?_
  refine g_aload_n (M := mL_law) (pc := 1130) 1131 dL_law_1130 rfl rfl rfl ?_
  refine g_iload_n (M := mL_law) (pc := 1131) 1132 dL_law_1131 rfl rfl rfl ?_
  refine g_iconst (M := mL_law) (pc := 1132) (v := 4) 1133 dL_law_1132 rfl ic4 ?_
  refine g_iadd (M := mL_law) (pc := 1133) 1134 dL_law_1133 rfl ?_
  refine g_scld (M := mL_law) (pc := 1134) 1135 dL_law_1134 rfl ?_
  refine g_cV_IH (M := mL_law) (pc := 1135) (M' := mX9_plan) (rest := []) 1138 dL_law_1135 rfl kL_138 okX9_plan (CX9_plan (xs (nC (a3 + 1))) (xs (nC (a3 + 2))) (xs (nC (a3 + 3))) (xs (nC (a3 + 4))) h L) oO16 rfl rfl rfl rfl (fun r120 h121 => ?_)
  refine g_aload_n (M := mL_law) (pc := 1138) 1139 dL_law_1138 rfl rfl rfl ?_
  refine g_aload_n (M := mL_law) (pc := 1139) 1140 dL_law_1139 rfl rfl rfl ?_
  refine g_iload_n (M := mL_law) (pc := 1140) 1141 dL_law_1140 rfl rfl rfl ?_
  refine g_iconst (M := mL_law) (pc := 1141) (v := 1) 1142 dL_law_1141 rfl ic1 ?_
  refine g_iadd (M := mL_law) (pc := 1142) 1143 dL_law_1142 rfl ?_
  refine g_scld (M := mL_law) (pc := 1143) 1144 dL_law_1143 rfl ?_
  refine g_aload_n (M := mL_law) (pc := 1144) 1145 dL_law_1144 rfl rfl rfl ?_
  refine g_iload_n (M := mL_law) (pc := 1145) 1146 dL_law_1145 rfl rfl rfl ?_
  refine g_iconst (M := mL_law) (pc := 1146) (v := 2) 1147 dL_law_1146 rfl ic2 ?_
  refine g_iadd (M := mL_law) (pc := 1147) 1148 dL_law_1147 rfl ?_
  refine g_scld (M := mL_law) (pc := 1148) 1149 dL_law_1148 rfl ?_
  refine g_aload_n (M := mL_law) (pc := 1149) 1150 dL_law_1149 rfl rfl rfl ?_
  refine g_iload_n (M := mL_law) (pc := 1150) 1151 dL_law_1150 rfl rfl rfl ?_
  refine g_iconst (M := mL_law) (pc := 1151) (v := 3) 1152 dL_law_1151 rfl ic3 ?_
  refine g_iadd (M := mL_law) (pc := 1152) 1153 dL_law_1152 rfl ?_
  refine g_scld (M := mL_law) (pc := 1153) 1154 dL_law_1153 rfl ?_
  refine g_aload_n (M := mL_law) (pc := 1154) 1155 dL_law_1154 rfl rfl rfl ?_
  refine g_iload_n (M := mL_law) (pc := 1155) 1156 dL_law_1155 rfl rfl rfl ?_
  refine g_iconst (M := mL_law) (pc := 1156) (v := 4) 1157 dL_law_1156 rfl ic4 ?_
  refine g_iadd (M := mL_law) (pc := 1157) 1158 dL_law_1157 rfl ?_
  refine g_scld (M := mL_law) (pc := 1158) 1159 dL_law_1158 rfl ?_
  refine g_cV_IH (M := mL_law) (pc := 1159) (M' := mX10_plan) (rest := [aI r120]) 1162 dL_law_1159 rfl kL_141 okX10_plan (CX10_plan (xs (nC (a3 + 1))) (xs (nC (a3 + 2))) (xs (nC (a3 + 3))) (xs (nC (a3 + 4))) h121 L) oO32 rfl rfl rfl rfl (fun r122 h123 => ?_)
  refine g_icmp_eq (M := mL_law) (pc := 1162) 1537 1165 dL_law_1162 (by decide) rfl (fun _ => ?_) (fun _ => ?_)
  · refine g_iinc (M := mL_law) (pc := 1537) (c := 6) (ls' := [some (aR 12 0), some (aR 3 16), some (aR 8 32), some (aI (a3 + 6))]) 1540 dL_law_1537 rfl ic6 rfl rfl rfl ?_
    refine g_goto (M := mL_law) (pc := 1540) 18 dL_law_1540 (by decide) ?_
    exact g_jmp (fun z => v_fgt [true, true, true, true] z)
  · refine g_iconst (M := mL_law) (pc := 1165) (v := 0) 1166 dL_law_1165 rfl ic0 ?_
    exact g_lawret (pc := 1166) dL_law_1166 (fun z => z)
set_option maxRecDepth 100000 in
set_option maxHeartbeats 4000000 in
theorem JL_law_1167_ok (n : Nat) (xs : Nat → Int32) (a3 : Int32) (b : Nat) (h : HI) (L : HL) : VX mL_law 12 (ZL b n xs) (gS (fun s : Int32 × HI × HL => V mL_law 12 (ZL b n xs) 18 [some (aR 12 0), some (aR 3 16), some (aR 8 32), some (aI (s.1))] [] (s.2.1) (s.2.2)) (fun r => r = 1)) 1167 [some (aR 12 0), some (aR 3 16), some (aR 8 32), some (aI a3)] [] h L (JL_law_1167 n xs a3 h L) := by
  unfold JL_law_1167
  refine g_aload_n (M := mL_law) (pc := 1167) 1168 dL_law_1167 rfl rfl rfl ?_
  refine g_aload_n (M := mL_law) (pc := 1168) 1169 dL_law_1168 rfl rfl rfl ?_
  refine g_iload_n (M := mL_law) (pc := 1169) 1170 dL_law_1169 rfl rfl rfl ?_
  refine g_iconst (M := mL_law) (pc := 1170) (v := 1) 1171 dL_law_1170 rfl ic1 ?_
  refine g_iadd (M := mL_law) (pc := 1171) 1172 dL_law_1171 rfl ?_
  refine g_scld (M := mL_law) (pc := 1172) 1173 dL_law_1172 rfl ?_
  refine g_aload_n (M := mL_law) (pc := 1173) 1174 dL_law_1173 rfl rfl rfl ?_
  refine g_iload_n (M := mL_law) (pc := 1174) 1175 dL_law_1174 rfl rfl rfl ?_
  refine g_iconst (M := mL_law) (pc := 1175) (v := 2) 1176 dL_law_1175 rfl ic2 ?_
  refine g_iadd (M := mL_law) (pc := 1176) 1177 dL_law_1176 rfl ?_
  refine g_scld (M := mL_law) (pc := 1177) 1178 dL_law_1177 rfl ?_
  refine g_cV_IH (M := mL_law) (pc := 1178) (M' := mX9_feed) (rest := []) 1181 dL_law_1178 rfl kL_142 okX9_feed (CX9_feed (xs (nC (a3 + 1))) (xs (nC (a3 + 2))) h L) oO16 rfl rfl rfl rfl (fun r124 h125 => ?_)
  refine g_aload_n (M := mL_law) (pc := 1181) 1182 dL_law_1181 rfl rfl rfl ?_
  refine g_aload_n (M := mL_law) (pc := 1182) 1183 dL_law_1182 rfl rfl rfl ?_
  refine g_iload_n (M := mL_law) (pc := 1183) 1184 dL_law_1183 rfl rfl rfl ?_
  refine g_iconst (M := mL_law) (pc := 1184) (v := 1) 1185 dL_law_1184 rfl ic1 ?_
  refine g_iadd (M := mL_law) (pc := 1185) 1186 dL_law_1185 rfl ?_
  refine g_scld (M := mL_law) (pc := 1186) 1187 dL_law_1186 rfl ?_
  refine g_aload_n (M := mL_law) (pc := 1187) 1188 dL_law_1187 rfl rfl rfl ?_
  refine g_iload_n (M := mL_law) (pc := 1188) 1189 dL_law_1188 rfl rfl rfl ?_
  refine g_iconst (M := mL_law) (pc := 1189) (v := 2) 1190 dL_law_1189 rfl ic2 ?_
  refine g_iadd (M := mL_law) (pc := 1190) 1191 dL_law_1190 rfl ?_
  refine g_scld (M := mL_law) (pc := 1191) 1192 dL_law_1191 rfl ?_
  refine g_cV_IH (M := mL_law) (pc := 1192) (M' := mX10_feed) (rest := [aI r124]) 1195 dL_law_1192 rfl kL_145 okX10_feed (CX10_feed (xs (nC (a3 + 1))) (xs (nC (a3 + 2))) h125 L) oO32 rfl rfl rfl rfl (fun r126 h127 => ?_)
  refine g_icmp_eq (M := mL_law) (pc := 1195) 1537 1198 dL_law_1195 (by decide) rfl (fun _ => ?_) (fun _ => ?_)
  · refine g_iinc (M := mL_law) (pc := 1537) (c := 6) (ls' := [some (aR 12 0), some (aR 3 16), some (aR 8 32), some (aI (a3 + 6))]) 1540 dL_law_1537 rfl ic6 rfl rfl rfl ?_
    refine g_goto (M := mL_law) (pc := 1540) 18 dL_law_1540 (by decide) ?_
    exact g_jmp (fun z => v_fgt [true, true, true, true] z)
  · refine g_iconst (M := mL_law) (pc := 1198) (v := 0) 1199 dL_law_1198 rfl ic0 ?_
    exact g_lawret (pc := 1199) dL_law_1199 (fun z => z)
set_option maxRecDepth 100000 in
set_option maxHeartbeats 4000000 in
theorem JL_law_1200_ok (n : Nat) (xs : Nat → Int32) (a3 : Int32) (b : Nat) (h : HI) (L : HL) : VX mL_law 12 (ZL b n xs) (gS (fun s : Int32 × HI × HL => V mL_law 12 (ZL b n xs) 18 [some (aR 12 0), some (aR 3 16), some (aR 8 32), some (aI (s.1))] [] (s.2.1) (s.2.2)) (fun r => r = 1)) 1200 [some (aR 12 0), some (aR 3 16), some (aR 8 32), some (aI a3)] [] h L (JL_law_1200 n xs a3 h L) := by
  unfold JL_law_1200
  refine g_aload_n (M := mL_law) (pc := 1200) 1201 dL_law_1200 rfl rfl rfl ?_
  refine g_cV_IH (M := mL_law) (pc := 1201) (M' := mX9_wipe) (rest := []) 1204 dL_law_1201 rfl kL_146 okX9_wipe (CX9_wipe h L) oO16 rfl rfl rfl rfl (fun r128 h129 => ?_)
  refine g_aload_n (M := mL_law) (pc := 1204) 1205 dL_law_1204 rfl rfl rfl ?_
  refine g_cV_IH (M := mL_law) (pc := 1205) (M' := mX10_wipe) (rest := [aI r128]) 1208 dL_law_1205 rfl kL_149 okX10_wipe (CX10_wipe h129 L) oO32 rfl rfl rfl rfl (fun r130 h131 => ?_)
  refine g_icmp_eq (M := mL_law) (pc := 1208) 1537 1211 dL_law_1208 (by decide) rfl (fun _ => ?_) (fun _ => ?_)
  · refine g_iinc (M := mL_law) (pc := 1537) (c := 6) (ls' := [some (aR 12 0), some (aR 3 16), some (aR 8 32), some (aI (a3 + 6))]) 1540 dL_law_1537 rfl ic6 rfl rfl rfl ?_
    refine g_goto (M := mL_law) (pc := 1540) 18 dL_law_1540 (by decide) ?_
    exact g_jmp (fun z => v_fgt [true, true, true, true] z)
  · refine g_iconst (M := mL_law) (pc := 1211) (v := 0) 1212 dL_law_1211 rfl ic0 ?_
    exact g_lawret (pc := 1212) dL_law_1212 (fun z => z)
set_option maxRecDepth 100000 in
set_option maxHeartbeats 4000000 in
theorem JL_law_1213_ok (n : Nat) (xs : Nat → Int32) (a3 : Int32) (b : Nat) (h : HI) (L : HL) : VX mL_law 12 (ZL b n xs) (gS (fun s : Int32 × HI × HL => V mL_law 12 (ZL b n xs) 18 [some (aR 12 0), some (aR 3 16), some (aR 8 32), some (aI (s.1))] [] (s.2.1) (s.2.2)) (fun r => r = 1)) 1213 [some (aR 12 0), some (aR 3 16), some (aR 8 32), some (aI a3)] [] h L (JL_law_1213 n xs a3 h L) := by
  unfold JL_law_1213
  refine g_aload_n (M := mL_law) (pc := 1213) 1214 dL_law_1213 rfl rfl rfl ?_
  refine g_cV_IH (M := mL_law) (pc := 1214) (M' := mX9_book) (rest := []) 1217 dL_law_1214 rfl kL_150 okX9_book (CX9_book h L) oO16 rfl rfl rfl rfl (fun r132 h133 => ?_)
  refine g_aload_n (M := mL_law) (pc := 1217) 1218 dL_law_1217 rfl rfl rfl ?_
  refine g_cV_IH (M := mL_law) (pc := 1218) (M' := mX10_book) (rest := [aI r132]) 1221 dL_law_1218 rfl kL_153 okX10_book (CX10_book h133 L) oO32 rfl rfl rfl rfl (fun r134 h135 => ?_)
  refine g_icmp_eq (M := mL_law) (pc := 1221) 1537 1224 dL_law_1221 (by decide) rfl (fun _ => ?_) (fun _ => ?_)
  · refine g_iinc (M := mL_law) (pc := 1537) (c := 6) (ls' := [some (aR 12 0), some (aR 3 16), some (aR 8 32), some (aI (a3 + 6))]) 1540 dL_law_1537 rfl ic6 rfl rfl rfl ?_
    refine g_goto (M := mL_law) (pc := 1540) 18 dL_law_1540 (by decide) ?_
    exact g_jmp (fun z => v_fgt [true, true, true, true] z)
  · refine g_iconst (M := mL_law) (pc := 1224) (v := 0) 1225 dL_law_1224 rfl ic0 ?_
    exact g_lawret (pc := 1225) dL_law_1225 (fun z => z)
set_option maxRecDepth 100000 in
set_option maxHeartbeats 4000000 in
theorem JL_law_1226_ok (n : Nat) (xs : Nat → Int32) (a3 : Int32) (b : Nat) (h : HI) (L : HL) : VX mL_law 12 (ZL b n xs) (gS (fun s : Int32 × HI × HL => V mL_law 12 (ZL b n xs) 18 [some (aR 12 0), some (aR 3 16), some (aR 8 32), some (aI (s.1))] [] (s.2.1) (s.2.2)) (fun r => r = 1)) 1226 [some (aR 12 0), some (aR 3 16), some (aR 8 32), some (aI a3)] [] h L (JL_law_1226 n xs a3 h L) := by
  unfold JL_law_1226
  refine g_aload_n (M := mL_law) (pc := 1226) 1227 dL_law_1226 rfl rfl rfl ?_
  refine g_aload_n (M := mL_law) (pc := 1227) 1228 dL_law_1227 rfl rfl rfl ?_
  refine g_iload_n (M := mL_law) (pc := 1228) 1229 dL_law_1228 rfl rfl rfl ?_
  refine g_iconst (M := mL_law) (pc := 1229) (v := 1) 1230 dL_law_1229 rfl ic1 ?_
  refine g_iadd (M := mL_law) (pc := 1230) 1231 dL_law_1230 rfl ?_
  refine g_scld (M := mL_law) (pc := 1231) 1232 dL_law_1231 rfl ?_
  refine g_aload_n (M := mL_law) (pc := 1232) 1233 dL_law_1232 rfl rfl rfl ?_
  refine g_iload_n (M := mL_law) (pc := 1233) 1234 dL_law_1233 rfl rfl rfl ?_
  refine g_iconst (M := mL_law) (pc := 1234) (v := 2) 1235 dL_law_1234 rfl ic2 ?_
  refine g_iadd (M := mL_law) (pc := 1235) 1236 dL_law_1235 rfl ?_
  refine g_scld (M := mL_law) (pc := 1236) 1237 dL_law_1236 rfl ?_
  refine g_aload_n (M := mL_law) (pc := 1237) 1238 dL_law_1237 rfl rfl rfl ?_
  refine g_iload_n (M := mL_law) (pc := 1238) 1239 dL_law_1238 rfl rfl rfl ?_
  refine g_iconst (M := mL_law) (pc := 1239) (v := 3) 1240 dL_law_1239 rfl ic3 ?_
  refine g_iadd (M := mL_law) (pc := 1240) 1241 dL_law_1240 rfl ?_
  refine g_scld (M := mL_law) (pc := 1241) 1242 dL_law_1241 rfl ?_
  refine g_cV_IHL (M := mL_law) (pc := 1242) (M' := mX9_sheet) (rest := []) 1245 dL_law_1242 rfl kL_154 okX9_sheet (CX9_sheet (xs (nC (a3 + 1))) (xs (nC (a3 + 2))) (xs (nC (a3 + 3))) h L) oO16 rfl rfl rfl rfl (fun r136 h137 L138 => ?_)
  refine g_aload_n (M := mL_law) (pc := 1245) 1246 dL_law_1245 rfl rfl rfl ?_
  refine g_aload_n (M := mL_law) (pc := 1246) 1247 dL_law_1246 rfl rfl rfl ?_
  refine g_iload_n (M := mL_law) (pc := 1247) 1248 dL_law_1247 rfl rfl rfl ?_
  refine g_iconst (M := mL_law) (pc := 1248) (v := 1) 1249 dL_law_1248 rfl ic1 ?_
  refine g_iadd (M := mL_law) (pc := 1249) 1250 dL_law_1249 rfl ?_
  refine g_scld (M := mL_law) (pc := 1250) 1251 dL_law_1250 rfl ?_
  refine g_aload_n (M := mL_law) (pc := 1251) 1252 dL_law_1251 rfl rfl rfl ?_
  refine g_iload_n (M := mL_law) (pc := 1252) 1253 dL_law_1252 rfl rfl rfl ?_
  refine g_iconst (M := mL_law) (pc := 1253) (v := 2) 1254 dL_law_1253 rfl ic2 ?_
  refine g_iadd (M := mL_law) (pc := 1254) 1255 dL_law_1254 rfl ?_
  refine g_scld (M := mL_law) (pc := 1255) 1256 dL_law_1255 rfl ?_
  refine g_aload_n (M := mL_law) (pc := 1256) 1257 dL_law_1256 rfl rfl rfl ?_
  refine g_iload_n (M := mL_law) (pc := 1257) 1258 dL_law_1257 rfl rfl rfl ?_
  refine g_iconst (M := mL_law) (pc := 1258) (v := 3) 1259 dL_law_1258 rfl ic3 ?_
  refine g_iadd (M := mL_law) (pc := 1259) 1260 dL_law_1259 rfl ?_
  refine g_scld (M := mL_law) (pc := 1260) 1261 dL_law_1260 rfl ?_
  refine g_cV_IHL (M := mL_law) (pc := 1261) (M' := mX10_sheet) (rest := [aI r136]) 1264 dL_law_1261 rfl kL_157 okX10_sheet (CX10_sheet (xs (nC (a3 + 1))) (xs (nC (a3 + 2))) (xs (nC (a3 + 3))) h137 L138) oO32 rfl rfl rfl rfl (fun r139 h140 L141 => ?_)
  refine g_icmp_eq (M := mL_law) (pc := 1264) 1537 1267 dL_law_1264 (by decide) rfl (fun _ => ?_) (fun _ => ?_)
  · refine g_iinc (M := mL_law) (pc := 1537) (c := 6) (ls' := [some (aR 12 0), some (aR 3 16), some (aR 8 32), some (aI (a3 + 6))]) 1540 dL_law_1537 rfl ic6 rfl rfl rfl ?_
    refine g_goto (M := mL_law) (pc := 1540) 18 dL_law_1540 (by decide) ?_
    exact g_jmp (fun z => v_fgt [true, true, true, true] z)
  · refine g_iconst (M := mL_law) (pc := 1267) (v := 0) 1268 dL_law_1267 rfl ic0 ?_
    exact g_lawret (pc := 1268) dL_law_1268 (fun z => z)
set_option maxRecDepth 100000 in
set_option maxHeartbeats 4000000 in
theorem JL_law_1269_ok (n : Nat) (xs : Nat → Int32) (a3 : Int32) (b : Nat) (h : HI) (L : HL) : VX mL_law 12 (ZL b n xs) (gS (fun s : Int32 × HI × HL => V mL_law 12 (ZL b n xs) 18 [some (aR 12 0), some (aR 3 16), some (aR 8 32), some (aI (s.1))] [] (s.2.1) (s.2.2)) (fun r => r = 1)) 1269 [some (aR 12 0), some (aR 3 16), some (aR 8 32), some (aI a3)] [] h L (JL_law_1269 n xs a3 h L) := by
  unfold JL_law_1269
  refine g_aload_n (M := mL_law) (pc := 1269) 1270 dL_law_1269 rfl rfl rfl ?_
  refine g_aload_n (M := mL_law) (pc := 1270) 1271 dL_law_1270 rfl rfl rfl ?_
  refine g_iload_n (M := mL_law) (pc := 1271) 1272 dL_law_1271 rfl rfl rfl ?_
  refine g_iconst (M := mL_law) (pc := 1272) (v := 1) 1273 dL_law_1272 rfl ic1 ?_
  refine g_iadd (M := mL_law) (pc := 1273) 1274 dL_law_1273 rfl ?_
  refine g_scld (M := mL_law) (pc := 1274) 1275 dL_law_1274 rfl ?_
  refine g_aload_n (M := mL_law) (pc := 1275) 1276 dL_law_1275 rfl rfl rfl ?_
  refine g_iload_n (M := mL_law) (pc := 1276) 1277 dL_law_1276 rfl rfl rfl ?_
  refine g_iconst (M := mL_law) (pc := 1277) (v := 2) 1278 dL_law_1277 rfl ic2 ?_
  refine g_iadd (M := mL_law) (pc := 1278) 1279 dL_law_1278 rfl ?_
  refine g_scld (M := mL_law) (pc := 1279) 1280 dL_law_1279 rfl ?_
  refine g_aload_n (M := mL_law) (pc := 1280) 1281 dL_law_1280 rfl rfl rfl ?_
  refine g_iload_n (M := mL_law) (pc := 1281) 1282 dL_law_1281 rfl rfl rfl ?_
  refine g_iconst (M := mL_law) (pc := 1282) (v := 3) 1283 dL_law_1282 rfl ic3 ?_
  refine g_iadd (M := mL_law) (pc := 1283) 1284 dL_law_1283 rfl ?_
  refine g_scld (M := mL_law) (pc := 1284) 1285 dL_law_1284 rfl ?_
  refine g_i2l (M := mL_law) (pc := 1285) 1286 dL_law_1285 rfl ?_
  refine g_bipush (M := mL_law) (pc := 1286) (v := 32) 1288 dL_law_1286 rfl bp32 ?_
  refine g_lshl (M := mL_law) (pc := 1288) 1289 dL_law_1288 rfl ?_
  refine g_aload_n (M := mL_law) (pc := 1289) 1290 dL_law_1289 rfl rfl rfl ?_
  refine g_iload_n (M := mL_law) (pc := 1290) 1291 dL_law_1290 rfl rfl rfl ?_
  refine g_iconst (M := mL_law) (pc := 1291) (v := 4) 1292 dL_law_1291 rfl ic4 ?_
  refine g_iadd (M := mL_law) (pc := 1292) 1293 dL_law_1292 rfl ?_
  refine g_scld (M := mL_law) (pc := 1293) 1294 dL_law_1293 rfl ?_
  refine g_i2l (M := mL_law) (pc := 1294) 1295 dL_law_1294 rfl ?_
  refine g_ldc2 (M := mL_law) (pc := 1295) 1298 dL_law_1295 rfl cL_158 ?_
  refine g_land (M := mL_law) (pc := 1298) 1299 dL_law_1298 rfl ?_
  refine g_lor (M := mL_law) (pc := 1299) 1300 dL_law_1299 rfl ?_
  refine g_cV_JHL (M := mL_law) (pc := 1300) (M' := mX9_write) (rest := []) 1303 dL_law_1300 rfl kL_160 okX9_write (CX9_write (xs (nC (a3 + 1))) (xs (nC (a3 + 2))) (((Int32.toInt64 (xs (nC (a3 + 3)))) <<< (Int32.toInt64 32 &&& 63)) ||| ((Int32.toInt64 (xs (nC (a3 + 4)))) &&& 4294967295)) h L) oO16 rfl rfl rfl rfl (fun r142 h143 L144 => ?_)
  refine g_aload_n (M := mL_law) (pc := 1303) 1304 dL_law_1303 rfl rfl rfl ?_
  refine g_aload_n (M := mL_law) (pc := 1304) 1305 dL_law_1304 rfl rfl rfl ?_
  refine g_iload_n (M := mL_law) (pc := 1305) 1306 dL_law_1305 rfl rfl rfl ?_
  refine g_iconst (M := mL_law) (pc := 1306) (v := 1) 1307 dL_law_1306 rfl ic1 ?_
  refine g_iadd (M := mL_law) (pc := 1307) 1308 dL_law_1307 rfl ?_
  refine g_scld (M := mL_law) (pc := 1308) 1309 dL_law_1308 rfl ?_
  refine g_aload_n (M := mL_law) (pc := 1309) 1310 dL_law_1309 rfl rfl rfl ?_
  refine g_iload_n (M := mL_law) (pc := 1310) 1311 dL_law_1310 rfl rfl rfl ?_
  refine g_iconst (M := mL_law) (pc := 1311) (v := 2) 1312 dL_law_1311 rfl ic2 ?_
  refine g_iadd (M := mL_law) (pc := 1312) 1313 dL_law_1312 rfl ?_
  refine g_scld (M := mL_law) (pc := 1313) 1314 dL_law_1313 rfl ?_
  refine g_aload_n (M := mL_law) (pc := 1314) 1315 dL_law_1314 rfl rfl rfl ?_
  refine g_iload_n (M := mL_law) (pc := 1315) 1316 dL_law_1315 rfl rfl rfl ?_
  refine g_iconst (M := mL_law) (pc := 1316) (v := 3) 1317 dL_law_1316 rfl ic3 ?_
  refine g_iadd (M := mL_law) (pc := 1317) 1318 dL_law_1317 rfl ?_
  refine g_scld (M := mL_law) (pc := 1318) 1319 dL_law_1318 rfl ?_
  refine g_i2l (M := mL_law) (pc := 1319) 1320 dL_law_1319 rfl ?_
  refine g_bipush (M := mL_law) (pc := 1320) (v := 32) 1322 dL_law_1320 rfl bp32 ?_
  refine g_lshl (M := mL_law) (pc := 1322) 1323 dL_law_1322 rfl ?_
  refine g_aload_n (M := mL_law) (pc := 1323) 1324 dL_law_1323 rfl rfl rfl ?_
  refine g_iload_n (M := mL_law) (pc := 1324) 1325 dL_law_1324 rfl rfl rfl ?_
  refine g_iconst (M := mL_law) (pc := 1325) (v := 4) 1326 dL_law_1325 rfl ic4 ?_
  refine g_iadd (M := mL_law) (pc := 1326) 1327 dL_law_1326 rfl ?_
  refine g_scld (M := mL_law) (pc := 1327) 1328 dL_law_1327 rfl ?_
  refine g_i2l (M := mL_law) (pc := 1328) 1329 dL_law_1328 rfl ?_
  refine g_ldc2 (M := mL_law) (pc := 1329) 1332 dL_law_1329 rfl cL_158 ?_
  refine g_land (M := mL_law) (pc := 1332) 1333 dL_law_1332 rfl ?_
  refine g_lor (M := mL_law) (pc := 1333) 1334 dL_law_1333 rfl ?_
  refine g_cV_JHL (M := mL_law) (pc := 1334) (M' := mX10_write) (rest := [aL r142]) 1337 dL_law_1334 rfl kL_164 okX10_write (CX10_write (xs (nC (a3 + 1))) (xs (nC (a3 + 2))) (((Int32.toInt64 (xs (nC (a3 + 3)))) <<< (Int32.toInt64 32 &&& 63)) ||| ((Int32.toInt64 (xs (nC (a3 + 4)))) &&& 4294967295)) h143 L144) oO32 rfl rfl rfl rfl (fun r145 h146 L147 => ?_)
  refine g_lcmp (M := mL_law) (pc := 1337) 1338 dL_law_1337 rfl ?_
  refine g_if_eq (M := mL_law) (pc := 1338) 1537 1341 dL_law_1338 (by decide) rfl (fun _ => ?_) (fun _ => ?_)
  · refine g_iinc (M := mL_law) (pc := 1537) (c := 6) (ls' := [some (aR 12 0), some (aR 3 16), some (aR 8 32), some (aI (a3 + 6))]) 1540 dL_law_1537 rfl ic6 rfl rfl rfl ?_
    refine g_goto (M := mL_law) (pc := 1540) 18 dL_law_1540 (by decide) ?_
    exact g_jmp (fun z => v_fgt [true, true, true, true] z)
  · refine g_iconst (M := mL_law) (pc := 1341) (v := 0) 1342 dL_law_1341 rfl ic0 ?_
    exact g_lawret (pc := 1342) dL_law_1342 (fun z => z)
set_option maxRecDepth 100000 in
set_option maxHeartbeats 4000000 in
theorem JL_law_1343_ok (n : Nat) (xs : Nat → Int32) (a3 : Int32) (b : Nat) (h : HI) (L : HL) : VX mL_law 12 (ZL b n xs) (gS (fun s : Int32 × HI × HL => V mL_law 12 (ZL b n xs) 18 [some (aR 12 0), some (aR 3 16), some (aR 8 32), some (aI (s.1))] [] (s.2.1) (s.2.2)) (fun r => r = 1)) 1343 [some (aR 12 0), some (aR 3 16), some (aR 8 32), some (aI a3)] [] h L (JL_law_1343 n xs a3 h L) := by
  unfold JL_law_1343
  refine g_aload_n (M := mL_law) (pc := 1343) 1344 dL_law_1343 rfl rfl rfl ?_
  refine g_aload_n (M := mL_law) (pc := 1344) 1345 dL_law_1344 rfl rfl rfl ?_
  refine g_iload_n (M := mL_law) (pc := 1345) 1346 dL_law_1345 rfl rfl rfl ?_
  refine g_iconst (M := mL_law) (pc := 1346) (v := 1) 1347 dL_law_1346 rfl ic1 ?_
  refine g_iadd (M := mL_law) (pc := 1347) 1348 dL_law_1347 rfl ?_
  refine g_scld (M := mL_law) (pc := 1348) 1349 dL_law_1348 rfl ?_
  refine g_aload_n (M := mL_law) (pc := 1349) 1350 dL_law_1349 rfl rfl rfl ?_
  refine g_iload_n (M := mL_law) (pc := 1350) 1351 dL_law_1350 rfl rfl rfl ?_
  refine g_iconst (M := mL_law) (pc := 1351) (v := 2) 1352 dL_law_1351 rfl ic2 ?_
  refine g_iadd (M := mL_law) (pc := 1352) 1353 dL_law_1352 rfl ?_
  refine g_scld (M := mL_law) (pc := 1353) 1354 dL_law_1353 rfl ?_
  refine g_aload_n (M := mL_law) (pc := 1354) 1355 dL_law_1354 rfl rfl rfl ?_
  refine g_iload_n (M := mL_law) (pc := 1355) 1356 dL_law_1355 rfl rfl rfl ?_
  refine g_iconst (M := mL_law) (pc := 1356) (v := 3) 1357 dL_law_1356 rfl ic3 ?_
  refine g_iadd (M := mL_law) (pc := 1357) 1358 dL_law_1357 rfl ?_
  refine g_scld (M := mL_law) (pc := 1358) 1359 dL_law_1358 rfl ?_
  refine g_aload_n (M := mL_law) (pc := 1359) 1360 dL_law_1359 rfl rfl rfl ?_
  refine g_iload_n (M := mL_law) (pc := 1360) 1361 dL_law_1360 rfl rfl rfl ?_
  refine g_iconst (M := mL_law) (pc := 1361) (v := 4) 1362 dL_law_1361 rfl ic4 ?_
  refine g_iadd (M := mL_law) (pc := 1362) 1363 dL_law_1362 rfl ?_
  refine g_scld (M := mL_law) (pc := 1363) 1364 dL_law_1363 rfl ?_
  refine g_aload_n (M := mL_law) (pc := 1364) 1365 dL_law_1364 rfl rfl rfl ?_
  refine g_iload_n (M := mL_law) (pc := 1365) 1366 dL_law_1365 rfl rfl rfl ?_
  refine g_iconst (M := mL_law) (pc := 1366) (v := 5) 1367 dL_law_1366 rfl ic5 ?_
  refine g_iadd (M := mL_law) (pc := 1367) 1368 dL_law_1367 rfl ?_
  refine g_scld (M := mL_law) (pc := 1368) 1369 dL_law_1368 rfl ?_
  refine g_cV_IHL (M := mL_law) (pc := 1369) (M' := mX9_copy) (rest := []) 1372 dL_law_1369 rfl kL_165 okX9_copy (CX9_copy (xs (nC (a3 + 1))) (xs (nC (a3 + 2))) (xs (nC (a3 + 3))) (xs (nC (a3 + 4))) (xs (nC (a3 + 5))) h L) oO16 rfl rfl rfl rfl (fun r148 h149 L150 => ?_)
  refine g_aload_n (M := mL_law) (pc := 1372) 1373 dL_law_1372 rfl rfl rfl ?_
  refine g_aload_n (M := mL_law) (pc := 1373) 1374 dL_law_1373 rfl rfl rfl ?_
  refine g_iload_n (M := mL_law) (pc := 1374) 1375 dL_law_1374 rfl rfl rfl ?_
  refine g_iconst (M := mL_law) (pc := 1375) (v := 1) 1376 dL_law_1375 rfl ic1 ?_
  refine g_iadd (M := mL_law) (pc := 1376) 1377 dL_law_1376 rfl ?_
  refine g_scld (M := mL_law) (pc := 1377) 1378 dL_law_1377 rfl ?_
  refine g_aload_n (M := mL_law) (pc := 1378) 1379 dL_law_1378 rfl rfl rfl ?_
  refine g_iload_n (M := mL_law) (pc := 1379) 1380 dL_law_1379 rfl rfl rfl ?_
  refine g_iconst (M := mL_law) (pc := 1380) (v := 2) 1381 dL_law_1380 rfl ic2 ?_
  refine g_iadd (M := mL_law) (pc := 1381) 1382 dL_law_1381 rfl ?_
  refine g_scld (M := mL_law) (pc := 1382) 1383 dL_law_1382 rfl ?_
  refine g_aload_n (M := mL_law) (pc := 1383) 1384 dL_law_1383 rfl rfl rfl ?_
  refine g_iload_n (M := mL_law) (pc := 1384) 1385 dL_law_1384 rfl rfl rfl ?_
  refine g_iconst (M := mL_law) (pc := 1385) (v := 3) 1386 dL_law_1385 rfl ic3 ?_
  refine g_iadd (M := mL_law) (pc := 1386) 1387 dL_law_1386 rfl ?_
  refine g_scld (M := mL_law) (pc := 1387) 1388 dL_law_1387 rfl ?_
  refine g_aload_n (M := mL_law) (pc := 1388) 1389 dL_law_1388 rfl rfl rfl ?_
  refine g_iload_n (M := mL_law) (pc := 1389) 1390 dL_law_1389 rfl rfl rfl ?_
  refine g_iconst (M := mL_law) (pc := 1390) (v := 4) 1391 dL_law_1390 rfl ic4 ?_
  refine g_iadd (M := mL_law) (pc := 1391) 1392 dL_law_1391 rfl ?_
  refine g_scld (M := mL_law) (pc := 1392) 1393 dL_law_1392 rfl ?_
  refine g_aload_n (M := mL_law) (pc := 1393) 1394 dL_law_1393 rfl rfl rfl ?_
  refine g_iload_n (M := mL_law) (pc := 1394) 1395 dL_law_1394 rfl rfl rfl ?_
  refine g_iconst (M := mL_law) (pc := 1395) (v := 5) 1396 dL_law_1395 rfl ic5 ?_
  refine g_iadd (M := mL_law) (pc := 1396) 1397 dL_law_1396 rfl ?_
  refine g_scld (M := mL_law) (pc := 1397) 1398 dL_law_1397 rfl ?_
  refine g_cV_IHL (M := mL_law) (pc := 1398) (M' := mX10_copy) (rest := [aI r148]) 1401 dL_law_1398 rfl kL_169 okX10_copy (CX10_copy (xs (nC (a3 + 1))) (xs (nC (a3 + 2))) (xs (nC (a3 + 3))) (xs (nC (a3 + 4))) (xs (nC (a3 + 5))) h149 L150) oO32 rfl rfl rfl rfl (fun r151 h152 L153 => ?_)
  refine g_icmp_eq (M := mL_law) (pc := 1401) 1537 1404 dL_law_1401 (by decide) rfl (fun _ => ?_) (fun _ => ?_)
  · refine g_iinc (M := mL_law) (pc := 1537) (c := 6) (ls' := [some (aR 12 0), some (aR 3 16), some (aR 8 32), some (aI (a3 + 6))]) 1540 dL_law_1537 rfl ic6 rfl rfl rfl ?_
    refine g_goto (M := mL_law) (pc := 1540) 18 dL_law_1540 (by decide) ?_
    exact g_jmp (fun z => v_fgt [true, true, true, true] z)
  · refine g_iconst (M := mL_law) (pc := 1404) (v := 0) 1405 dL_law_1404 rfl ic0 ?_
    exact g_lawret (pc := 1405) dL_law_1405 (fun z => z)
set_option maxRecDepth 100000 in
set_option maxHeartbeats 4000000 in
theorem JL_law_1406_ok (n : Nat) (xs : Nat → Int32) (a3 : Int32) (b : Nat) (h : HI) (L : HL) : VX mL_law 12 (ZL b n xs) (gS (fun s : Int32 × HI × HL => V mL_law 12 (ZL b n xs) 18 [some (aR 12 0), some (aR 3 16), some (aR 8 32), some (aI (s.1))] [] (s.2.1) (s.2.2)) (fun r => r = 1)) 1406 [some (aR 12 0), some (aR 3 16), some (aR 8 32), some (aI a3)] [] h L (JL_law_1406 n xs a3 h L) := by
  unfold JL_law_1406
  refine g_aload_n (M := mL_law) (pc := 1406) 1407 dL_law_1406 rfl rfl rfl ?_
  refine g_aload_n (M := mL_law) (pc := 1407) 1408 dL_law_1407 rfl rfl rfl ?_
  refine g_iload_n (M := mL_law) (pc := 1408) 1409 dL_law_1408 rfl rfl rfl ?_
  refine g_iconst (M := mL_law) (pc := 1409) (v := 1) 1410 dL_law_1409 rfl ic1 ?_
  refine g_iadd (M := mL_law) (pc := 1410) 1411 dL_law_1410 rfl ?_
  refine g_scld (M := mL_law) (pc := 1411) 1412 dL_law_1411 rfl ?_
  refine g_cV_IH (M := mL_law) (pc := 1412) (M' := mX9_lays) (rest := []) 1415 dL_law_1412 rfl kL_170 okX9_lays (CX9_lays (xs (nC (a3 + 1))) h L) oO16 rfl rfl rfl rfl (fun r154 h155 => ?_)
  refine g_aload_n (M := mL_law) (pc := 1415) 1416 dL_law_1415 rfl rfl rfl ?_
  refine g_aload_n (M := mL_law) (pc := 1416) 1417 dL_law_1416 rfl rfl rfl ?_
  refine g_iload_n (M := mL_law) (pc := 1417) 1418 dL_law_1417 rfl rfl rfl ?_
  refine g_iconst (M := mL_law) (pc := 1418) (v := 1) 1419 dL_law_1418 rfl ic1 ?_
  refine g_iadd (M := mL_law) (pc := 1419) 1420 dL_law_1419 rfl ?_
  refine g_scld (M := mL_law) (pc := 1420) 1421 dL_law_1420 rfl ?_
  refine g_cV_IH (M := mL_law) (pc := 1421) (M' := mX10_lays) (rest := [aI r154]) 1424 dL_law_1421 rfl kL_173 okX10_lays (CX10_lays (xs (nC (a3 + 1))) h155 L) oO32 rfl rfl rfl rfl (fun r156 h157 => ?_)
  refine g_icmp_eq (M := mL_law) (pc := 1424) 1537 1427 dL_law_1424 (by decide) rfl (fun _ => ?_) (fun _ => ?_)
  · refine g_iinc (M := mL_law) (pc := 1537) (c := 6) (ls' := [some (aR 12 0), some (aR 3 16), some (aR 8 32), some (aI (a3 + 6))]) 1540 dL_law_1537 rfl ic6 rfl rfl rfl ?_
    refine g_goto (M := mL_law) (pc := 1540) 18 dL_law_1540 (by decide) ?_
    exact g_jmp (fun z => v_fgt [true, true, true, true] z)
  · refine g_iconst (M := mL_law) (pc := 1427) (v := 0) 1428 dL_law_1427 rfl ic0 ?_
    exact g_lawret (pc := 1428) dL_law_1428 (fun z => z)
set_option maxRecDepth 100000 in
set_option maxHeartbeats 4000000 in
theorem JL_law_1429_ok (n : Nat) (xs : Nat → Int32) (a3 : Int32) (b : Nat) (h : HI) (L : HL) : VX mL_law 12 (ZL b n xs) (gS (fun s : Int32 × HI × HL => V mL_law 12 (ZL b n xs) 18 [some (aR 12 0), some (aR 3 16), some (aR 8 32), some (aI (s.1))] [] (s.2.1) (s.2.2)) (fun r => r = 1)) 1429 [some (aR 12 0), some (aR 3 16), some (aR 8 32), some (aI a3)] [] h L (JL_law_1429 n xs a3 h L) := by
  unfold JL_law_1429
  refine g_aload_n (M := mL_law) (pc := 1429) 1430 dL_law_1429 rfl rfl rfl ?_
  refine g_aload_n (M := mL_law) (pc := 1430) 1431 dL_law_1430 rfl rfl rfl ?_
  refine g_iload_n (M := mL_law) (pc := 1431) 1432 dL_law_1431 rfl rfl rfl ?_
  refine g_iconst (M := mL_law) (pc := 1432) (v := 1) 1433 dL_law_1432 rfl ic1 ?_
  refine g_iadd (M := mL_law) (pc := 1433) 1434 dL_law_1433 rfl ?_
  refine g_scld (M := mL_law) (pc := 1434) 1435 dL_law_1434 rfl ?_
  refine g_cV_IH (M := mL_law) (pc := 1435) (M' := mX9_read) (rest := []) 1438 dL_law_1435 rfl kL_174 okX9_read (CX9_read (xs (nC (a3 + 1))) h L) oO16 rfl rfl rfl rfl (fun r158 h159 => ?_)
  refine g_aload_n (M := mL_law) (pc := 1438) 1439 dL_law_1438 rfl rfl rfl ?_
  refine g_aload_n (M := mL_law) (pc := 1439) 1440 dL_law_1439 rfl rfl rfl ?_
  refine g_iload_n (M := mL_law) (pc := 1440) 1441 dL_law_1440 rfl rfl rfl ?_
  refine g_iconst (M := mL_law) (pc := 1441) (v := 1) 1442 dL_law_1441 rfl ic1 ?_
  refine g_iadd (M := mL_law) (pc := 1442) 1443 dL_law_1442 rfl ?_
  refine g_scld (M := mL_law) (pc := 1443) 1444 dL_law_1443 rfl ?_
  refine g_cV_IH (M := mL_law) (pc := 1444) (M' := mX10_read) (rest := [aI r158]) 1447 dL_law_1444 rfl kL_177 okX10_read (CX10_read (xs (nC (a3 + 1))) h159 L) oO32 rfl rfl rfl rfl (fun r160 h161 => ?_)
  refine g_icmp_eq (M := mL_law) (pc := 1447) 1537 1450 dL_law_1447 (by decide) rfl (fun _ => ?_) (fun _ => ?_)
  · refine g_iinc (M := mL_law) (pc := 1537) (c := 6) (ls' := [some (aR 12 0), some (aR 3 16), some (aR 8 32), some (aI (a3 + 6))]) 1540 dL_law_1537 rfl ic6 rfl rfl rfl ?_
    refine g_goto (M := mL_law) (pc := 1540) 18 dL_law_1540 (by decide) ?_
    exact g_jmp (fun z => v_fgt [true, true, true, true] z)
  · refine g_iconst (M := mL_law) (pc := 1450) (v := 0) 1451 dL_law_1450 rfl ic0 ?_
    exact g_lawret (pc := 1451) dL_law_1451 (fun z => z)
set_option maxRecDepth 100000 in
set_option maxHeartbeats 4000000 in
theorem JL_law_1452_ok (n : Nat) (xs : Nat → Int32) (a3 : Int32) (b : Nat) (h : HI) (L : HL) : VX mL_law 12 (ZL b n xs) (gS (fun s : Int32 × HI × HL => V mL_law 12 (ZL b n xs) 18 [some (aR 12 0), some (aR 3 16), some (aR 8 32), some (aI (s.1))] [] (s.2.1) (s.2.2)) (fun r => r = 1)) 1452 [some (aR 12 0), some (aR 3 16), some (aR 8 32), some (aI a3)] [] h L (JL_law_1452 n xs a3 h L) := by
  unfold JL_law_1452
  refine g_aload_n (M := mL_law) (pc := 1452) 1453 dL_law_1452 rfl rfl rfl ?_
  refine g_cV_IH (M := mL_law) (pc := 1453) (M' := mX9_image) (rest := []) 1456 dL_law_1453 rfl kL_178 okX9_image (CX9_image h L) oO16 rfl rfl rfl rfl (fun r162 h163 => ?_)
  refine g_aload_n (M := mL_law) (pc := 1456) 1457 dL_law_1456 rfl rfl rfl ?_
  refine g_cV_IH (M := mL_law) (pc := 1457) (M' := mX10_image) (rest := [aI r162]) 1460 dL_law_1457 rfl kL_181 okX10_image (CX10_image h163 L) oO32 rfl rfl rfl rfl (fun r164 h165 => ?_)
  refine g_icmp_eq (M := mL_law) (pc := 1460) 1537 1463 dL_law_1460 (by decide) rfl (fun _ => ?_) (fun _ => ?_)
  · refine g_iinc (M := mL_law) (pc := 1537) (c := 6) (ls' := [some (aR 12 0), some (aR 3 16), some (aR 8 32), some (aI (a3 + 6))]) 1540 dL_law_1537 rfl ic6 rfl rfl rfl ?_
    refine g_goto (M := mL_law) (pc := 1540) 18 dL_law_1540 (by decide) ?_
    exact g_jmp (fun z => v_fgt [true, true, true, true] z)
  · refine g_iconst (M := mL_law) (pc := 1463) (v := 0) 1464 dL_law_1463 rfl ic0 ?_
    exact g_lawret (pc := 1464) dL_law_1464 (fun z => z)
set_option maxRecDepth 100000 in
set_option maxHeartbeats 4000000 in
theorem JL_law_1465_ok (n : Nat) (xs : Nat → Int32) (a3 : Int32) (b : Nat) (h : HI) (L : HL) : VX mL_law 12 (ZL b n xs) (gS (fun s : Int32 × HI × HL => V mL_law 12 (ZL b n xs) 18 [some (aR 12 0), some (aR 3 16), some (aR 8 32), some (aI (s.1))] [] (s.2.1) (s.2.2)) (fun r => r = 1)) 1465 [some (aR 12 0), some (aR 3 16), some (aR 8 32), some (aI a3)] [] h L (JL_law_1465 n xs a3 h L) := by
  unfold JL_law_1465
  refine g_aload_n (M := mL_law) (pc := 1465) 1466 dL_law_1465 rfl rfl rfl ?_
  refine g_cV_IH (M := mL_law) (pc := 1466) (M' := mX9_undo) (rest := []) 1469 dL_law_1466 rfl kL_182 okX9_undo (CX9_undo h L) oO16 rfl rfl rfl rfl (fun r166 h167 => ?_)
  refine g_aload_n (M := mL_law) (pc := 1469) 1470 dL_law_1469 rfl rfl rfl ?_
  refine g_cV_IH (M := mL_law) (pc := 1470) (M' := mX10_undo) (rest := [aI r166]) 1473 dL_law_1470 rfl kL_185 okX10_undo (CX10_undo h167 L) oO32 rfl rfl rfl rfl (fun r168 h169 => ?_)
  refine g_icmp_eq (M := mL_law) (pc := 1473) 1537 1476 dL_law_1473 (by decide) rfl (fun _ => ?_) (fun _ => ?_)
  · refine g_iinc (M := mL_law) (pc := 1537) (c := 6) (ls' := [some (aR 12 0), some (aR 3 16), some (aR 8 32), some (aI (a3 + 6))]) 1540 dL_law_1537 rfl ic6 rfl rfl rfl ?_
    refine g_goto (M := mL_law) (pc := 1540) 18 dL_law_1540 (by decide) ?_
    exact g_jmp (fun z => v_fgt [true, true, true, true] z)
  · refine g_iconst (M := mL_law) (pc := 1476) (v := 0) 1477 dL_law_1476 rfl ic0 ?_
    exact g_lawret (pc := 1477) dL_law_1477 (fun z => z)
set_option maxRecDepth 100000 in
set_option maxHeartbeats 4000000 in
theorem JL_law_1478_ok (n : Nat) (xs : Nat → Int32) (a3 : Int32) (b : Nat) (h : HI) (L : HL) : VX mL_law 12 (ZL b n xs) (gS (fun s : Int32 × HI × HL => V mL_law 12 (ZL b n xs) 18 [some (aR 12 0), some (aR 3 16), some (aR 8 32), some (aI (s.1))] [] (s.2.1) (s.2.2)) (fun r => r = 1)) 1478 [some (aR 12 0), some (aR 3 16), some (aR 8 32), some (aI a3)] [] h L (JL_law_1478 n xs a3 h L) := by
  unfold JL_law_1478
  refine g_aload_n (M := mL_law) (pc := 1478) 1479 dL_law_1478 rfl rfl rfl ?_
  refine g_cV_IH (M := mL_law) (pc := 1479) (M' := mX9_tear) (rest := []) 1482 dL_law_1479 rfl kL_186 okX9_tear (CX9_tear h L) oO16 rfl rfl rfl rfl (fun r170 h171 => ?_)
  refine g_aload_n (M := mL_law) (pc := 1482) 1483 dL_law_1482 rfl rfl rfl ?_
  refine g_cV_IH (M := mL_law) (pc := 1483) (M' := mX10_tear) (rest := [aI r170]) 1486 dL_law_1483 rfl kL_189 okX10_tear (CX10_tear h171 L) oO32 rfl rfl rfl rfl (fun r172 h173 => ?_)
  refine g_icmp_eq (M := mL_law) (pc := 1486) 1537 1489 dL_law_1486 (by decide) rfl (fun _ => ?_) (fun _ => ?_)
  · refine g_iinc (M := mL_law) (pc := 1537) (c := 6) (ls' := [some (aR 12 0), some (aR 3 16), some (aR 8 32), some (aI (a3 + 6))]) 1540 dL_law_1537 rfl ic6 rfl rfl rfl ?_
    refine g_goto (M := mL_law) (pc := 1540) 18 dL_law_1540 (by decide) ?_
    exact g_jmp (fun z => v_fgt [true, true, true, true] z)
  · refine g_iconst (M := mL_law) (pc := 1489) (v := 0) 1490 dL_law_1489 rfl ic0 ?_
    exact g_lawret (pc := 1490) dL_law_1490 (fun z => z)
set_option maxRecDepth 100000 in
set_option maxHeartbeats 4000000 in
theorem JL_law_1491_ok (n : Nat) (xs : Nat → Int32) (a3 : Int32) (b : Nat) (h : HI) (L : HL) : VX mL_law 12 (ZL b n xs) (gS (fun s : Int32 × HI × HL => V mL_law 12 (ZL b n xs) 18 [some (aR 12 0), some (aR 3 16), some (aR 8 32), some (aI (s.1))] [] (s.2.1) (s.2.2)) (fun r => r = 1)) 1491 [some (aR 12 0), some (aR 3 16), some (aR 8 32), some (aI a3)] [] h L (JL_law_1491 n xs a3 h L) := by
  unfold JL_law_1491
  refine g_aload_n (M := mL_law) (pc := 1491) 1492 dL_law_1491 rfl rfl rfl ?_
  refine g_aload_n (M := mL_law) (pc := 1492) 1493 dL_law_1492 rfl rfl rfl ?_
  refine g_iload_n (M := mL_law) (pc := 1493) 1494 dL_law_1493 rfl rfl rfl ?_
  refine g_iconst (M := mL_law) (pc := 1494) (v := 1) 1495 dL_law_1494 rfl ic1 ?_
  refine g_iadd (M := mL_law) (pc := 1495) 1496 dL_law_1495 rfl ?_
  refine g_scld (M := mL_law) (pc := 1496) 1497 dL_law_1496 rfl ?_
  refine g_cV_IH (M := mL_law) (pc := 1497) (M' := mX9_count) (rest := []) 1500 dL_law_1497 rfl kL_190 okX9_count (CX9_count (xs (nC (a3 + 1))) h L) oO16 rfl rfl rfl rfl (fun r174 h175 => ?_)
  refine g_aload_n (M := mL_law) (pc := 1500) 1501 dL_law_1500 rfl rfl rfl ?_
  refine g_aload_n (M := mL_law) (pc := 1501) 1502 dL_law_1501 rfl rfl rfl ?_
  refine g_iload_n (M := mL_law) (pc := 1502) 1503 dL_law_1502 rfl rfl rfl ?_
  refine g_iconst (M := mL_law) (pc := 1503) (v := 1) 1504 dL_law_1503 rfl ic1 ?_
  refine g_iadd (M := mL_law) (pc := 1504) 1505 dL_law_1504 rfl ?_
  refine g_scld (M := mL_law) (pc := 1505) 1506 dL_law_1505 rfl ?_
  refine g_cV_IH (M := mL_law) (pc := 1506) (M' := mX10_count) (rest := [aI r174]) 1509 dL_law_1506 rfl kL_193 okX10_count (CX10_count (xs (nC (a3 + 1))) h175 L) oO32 rfl rfl rfl rfl (fun r176 h177 => ?_)
  refine g_icmp_eq (M := mL_law) (pc := 1509) 1537 1512 dL_law_1509 (by decide) rfl (fun _ => ?_) (fun _ => ?_)
  · refine g_iinc (M := mL_law) (pc := 1537) (c := 6) (ls' := [some (aR 12 0), some (aR 3 16), some (aR 8 32), some (aI (a3 + 6))]) 1540 dL_law_1537 rfl ic6 rfl rfl rfl ?_
    refine g_goto (M := mL_law) (pc := 1540) 18 dL_law_1540 (by decide) ?_
    exact g_jmp (fun z => v_fgt [true, true, true, true] z)
  · refine g_iconst (M := mL_law) (pc := 1512) (v := 0) 1513 dL_law_1512 rfl ic0 ?_
    exact g_lawret (pc := 1513) dL_law_1513 (fun z => z)
set_option maxRecDepth 100000 in
set_option maxHeartbeats 4000000 in
theorem JL_law_1514_ok (n : Nat) (xs : Nat → Int32) (a3 : Int32) (b : Nat) (h : HI) (L : HL) : VX mL_law 12 (ZL b n xs) (gS (fun s : Int32 × HI × HL => V mL_law 12 (ZL b n xs) 18 [some (aR 12 0), some (aR 3 16), some (aR 8 32), some (aI (s.1))] [] (s.2.1) (s.2.2)) (fun r => r = 1)) 1514 [some (aR 12 0), some (aR 3 16), some (aR 8 32), some (aI a3)] [] h L (JL_law_1514 n xs a3 h L) := by
  unfold JL_law_1514
  refine g_aload_n (M := mL_law) (pc := 1514) 1515 dL_law_1514 rfl rfl rfl ?_
  refine g_aload_n (M := mL_law) (pc := 1515) 1516 dL_law_1515 rfl rfl rfl ?_
  refine g_iload_n (M := mL_law) (pc := 1516) 1517 dL_law_1516 rfl rfl rfl ?_
  refine g_iconst (M := mL_law) (pc := 1517) (v := 1) 1518 dL_law_1517 rfl ic1 ?_
  refine g_iadd (M := mL_law) (pc := 1518) 1519 dL_law_1518 rfl ?_
  refine g_scld (M := mL_law) (pc := 1519) 1520 dL_law_1519 rfl ?_
  refine g_cV_IH (M := mL_law) (pc := 1520) (M' := mX9_status) (rest := []) 1523 dL_law_1520 rfl kL_194 okX9_status (CX9_status (xs (nC (a3 + 1))) h L) oO16 rfl rfl rfl rfl (fun r178 h179 => ?_)
  refine g_aload_n (M := mL_law) (pc := 1523) 1524 dL_law_1523 rfl rfl rfl ?_
  refine g_aload_n (M := mL_law) (pc := 1524) 1525 dL_law_1524 rfl rfl rfl ?_
  refine g_iload_n (M := mL_law) (pc := 1525) 1526 dL_law_1525 rfl rfl rfl ?_
  refine g_iconst (M := mL_law) (pc := 1526) (v := 1) 1527 dL_law_1526 rfl ic1 ?_
  refine g_iadd (M := mL_law) (pc := 1527) 1528 dL_law_1527 rfl ?_
  refine g_scld (M := mL_law) (pc := 1528) 1529 dL_law_1528 rfl ?_
  refine g_cV_IH (M := mL_law) (pc := 1529) (M' := mX10_status) (rest := [aI r178]) 1532 dL_law_1529 rfl kL_197 okX10_status (CX10_status (xs (nC (a3 + 1))) h179 L) oO32 rfl rfl rfl rfl (fun r180 h181 => ?_)
  refine g_icmp_eq (M := mL_law) (pc := 1532) 1537 1535 dL_law_1532 (by decide) rfl (fun _ => ?_) (fun _ => ?_)
  · refine g_iinc (M := mL_law) (pc := 1537) (c := 6) (ls' := [some (aR 12 0), some (aR 3 16), some (aR 8 32), some (aI (a3 + 6))]) 1540 dL_law_1537 rfl ic6 rfl rfl rfl ?_
    refine g_goto (M := mL_law) (pc := 1540) 18 dL_law_1540 (by decide) ?_
    exact g_jmp (fun z => v_fgt [true, true, true, true] z)
  · refine g_iconst (M := mL_law) (pc := 1535) (v := 0) 1536 dL_law_1535 rfl ic0 ?_
    exact g_lawret (pc := 1536) dL_law_1536 (fun z => z)
set_option maxRecDepth 100000 in
set_option maxHeartbeats 4000000 in
theorem SL_law_18_ok (n : Nat) (xs : Nat → Int32) (b : Nat) (a3 : Int32) (h : HI) (L : HL) : VX mL_law 12 (ZL b n xs) (gS (fun s : Int32 × HI × HL => V mL_law 12 (ZL b n xs) 18 [some (aR 12 0), some (aR 3 16), some (aR 8 32), some (aI (s.1))] [] (s.2.1) (s.2.2)) (fun r => r = 1)) 18 [some (aR 12 0), some (aR 3 16), some (aR 8 32), some (aI a3)] [] h L (SL_law_18 n xs (a3, h, L)) := by
  unfold SL_law_18
  refine g_iload_n (M := mL_law) (pc := 18) 19 dL_law_18 rfl rfl rfl ?_
  refine g_aload_n (M := mL_law) (pc := 19) 20 dL_law_19 rfl rfl rfl ?_
  refine g_sclen (M := mL_law) (pc := 20) 21 dL_law_20 rfl ?_
  refine g_bipush (M := mL_law) (pc := 21) (v := 6) 23 dL_law_21 rfl bp6 ?_
  refine g_isub (M := mL_law) (pc := 23) 24 dL_law_23 rfl ?_
  refine g_icmp_gt (M := mL_law) (pc := 24) 1543 27 dL_law_24 (by decide) rfl (fun _ => ?_) (fun _ => ?_)
  · refine g_iconst (M := mL_law) (pc := 1543) (v := 1) 1544 dL_law_1543 rfl ic1 ?_
    exact g_lawret (pc := 1544) dL_law_1544 (fun z => z)
  · refine g_aload_n (M := mL_law) (pc := 27) 28 dL_law_27 rfl rfl rfl ?_
    refine g_iload_n (M := mL_law) (pc := 28) 29 dL_law_28 rfl rfl rfl ?_
    refine g_scld (M := mL_law) (pc := 29) 30 dL_law_29 rfl ?_
    refine g_bipush (M := mL_law) (pc := 30) (v := 63) 32 dL_law_30 rfl bp63 ?_
    refine g_iand (M := mL_law) (pc := 32) 33 dL_law_32 rfl ?_
    refine g_nmI (fun t1 => ?_)
    refine g_tsc (M := mL_law) (pc := 33) (v := 0) 224 dL_law_33 (by decide) (by decide) rfl (by decide) (fun _ => ?_) (fun z0 => ?_)
    · exact g_fgt [true, true, true, true] (JL_law_224_ok n xs a3 b h L)
    refine g_tsc (M := mL_law) (pc := 33) (v := 1) 277 dL_law_33 (by decide) (by decide) rfl (by decide) (fun _ => ?_) (fun z1 => ?_)
    · exact g_fgt [true, true, true, true] (JL_law_277_ok n xs a3 b h L)
    refine g_tsc (M := mL_law) (pc := 33) (v := 2) 310 dL_law_33 (by decide) (by decide) rfl (by decide) (fun _ => ?_) (fun z2 => ?_)
    · exact g_fgt [true, true, true, true] (JL_law_310_ok n xs a3 b h L)
    refine g_tsc (M := mL_law) (pc := 33) (v := 3) 353 dL_law_33 (by decide) (by decide) rfl (by decide) (fun _ => ?_) (fun z3 => ?_)
    · exact g_fgt [true, true, true, true] (JL_law_353_ok n xs a3 b h L)
    refine g_tsc (M := mL_law) (pc := 33) (v := 4) 386 dL_law_33 (by decide) (by decide) rfl (by decide) (fun _ => ?_) (fun z4 => ?_)
    · exact g_fgt [true, true, true, true] (JL_law_386_ok n xs a3 b h L)
    refine g_tsc (M := mL_law) (pc := 33) (v := 5) 419 dL_law_33 (by decide) (by decide) rfl (by decide) (fun _ => ?_) (fun z5 => ?_)
    · exact g_fgt [true, true, true, true] (JL_law_419_ok n xs a3 b h L)
    refine g_tsc (M := mL_law) (pc := 33) (v := 6) 462 dL_law_33 (by decide) (by decide) rfl (by decide) (fun _ => ?_) (fun z6 => ?_)
    · exact g_fgt [true, true, true, true] (JL_law_462_ok n xs a3 b h L)
    refine g_tsc (M := mL_law) (pc := 33) (v := 7) 495 dL_law_33 (by decide) (by decide) rfl (by decide) (fun _ => ?_) (fun z7 => ?_)
    · exact g_fgt [true, true, true, true] (JL_law_495_ok n xs a3 b h L)
    refine g_tsc (M := mL_law) (pc := 33) (v := 8) 538 dL_law_33 (by decide) (by decide) rfl (by decide) (fun _ => ?_) (fun z8 => ?_)
    · exact g_fgt [true, true, true, true] (JL_law_538_ok n xs a3 b h L)
    refine g_tsc (M := mL_law) (pc := 33) (v := 9) 581 dL_law_33 (by decide) (by decide) rfl (by decide) (fun _ => ?_) (fun z9 => ?_)
    · exact g_fgt [true, true, true, true] (JL_law_581_ok n xs a3 b h L)
    refine g_tsc (M := mL_law) (pc := 33) (v := 10) 614 dL_law_33 (by decide) (by decide) rfl (by decide) (fun _ => ?_) (fun z10 => ?_)
    · exact g_fgt [true, true, true, true] (JL_law_614_ok n xs a3 b h L)
    refine g_tsc (M := mL_law) (pc := 33) (v := 11) 637 dL_law_33 (by decide) (by decide) rfl (by decide) (fun _ => ?_) (fun z11 => ?_)
    · exact g_fgt [true, true, true, true] (JL_law_637_ok n xs a3 b h L)
    refine g_tsc (M := mL_law) (pc := 33) (v := 12) 670 dL_law_33 (by decide) (by decide) rfl (by decide) (fun _ => ?_) (fun z12 => ?_)
    · exact g_fgt [true, true, true, true] (JL_law_670_ok n xs a3 b h L)
    refine g_tsc (M := mL_law) (pc := 33) (v := 13) 703 dL_law_33 (by decide) (by decide) rfl (by decide) (fun _ => ?_) (fun z13 => ?_)
    · exact g_fgt [true, true, true, true] (JL_law_703_ok n xs a3 b h L)
    refine g_tsc (M := mL_law) (pc := 33) (v := 14) 736 dL_law_33 (by decide) (by decide) rfl (by decide) (fun _ => ?_) (fun z14 => ?_)
    · exact g_fgt [true, true, true, true] (JL_law_736_ok n xs a3 b h L)
    refine g_tsc (M := mL_law) (pc := 33) (v := 15) 759 dL_law_33 (by decide) (by decide) rfl (by decide) (fun _ => ?_) (fun z15 => ?_)
    · exact g_fgt [true, true, true, true] (JL_law_759_ok n xs a3 b h L)
    refine g_tsc (M := mL_law) (pc := 33) (v := 16) 782 dL_law_33 (by decide) (by decide) rfl (by decide) (fun _ => ?_) (fun z16 => ?_)
    · exact g_fgt [true, true, true, true] (JL_law_782_ok n xs a3 b h L)
    refine g_tsc (M := mL_law) (pc := 33) (v := 17) 805 dL_law_33 (by decide) (by decide) rfl (by decide) (fun _ => ?_) (fun z17 => ?_)
    · exact g_fgt [true, true, true, true] (JL_law_805_ok n xs a3 b h L)
    refine g_tsc (M := mL_law) (pc := 33) (v := 18) 828 dL_law_33 (by decide) (by decide) rfl (by decide) (fun _ => ?_) (fun z18 => ?_)
    · exact g_fgt [true, true, true, true] (JL_law_828_ok n xs a3 b h L)
    refine g_tsc (M := mL_law) (pc := 33) (v := 19) 851 dL_law_33 (by decide) (by decide) rfl (by decide) (fun _ => ?_) (fun z19 => ?_)
    · exact g_fgt [true, true, true, true] (JL_law_851_ok n xs a3 b h L)
    refine g_tsc (M := mL_law) (pc := 33) (v := 20) 874 dL_law_33 (by decide) (by decide) rfl (by decide) (fun _ => ?_) (fun z20 => ?_)
    · exact g_fgt [true, true, true, true] (JL_law_874_ok n xs a3 b h L)
    refine g_tsc (M := mL_law) (pc := 33) (v := 21) 907 dL_law_33 (by decide) (by decide) rfl (by decide) (fun _ => ?_) (fun z21 => ?_)
    · exact g_fgt [true, true, true, true] (JL_law_907_ok n xs a3 b h L)
    refine g_tsc (M := mL_law) (pc := 33) (v := 22) 930 dL_law_33 (by decide) (by decide) rfl (by decide) (fun _ => ?_) (fun z22 => ?_)
    · exact g_fgt [true, true, true, true] (JL_law_930_ok n xs a3 b h L)
    refine g_tsc (M := mL_law) (pc := 33) (v := 23) 953 dL_law_33 (by decide) (by decide) rfl (by decide) (fun _ => ?_) (fun z23 => ?_)
    · exact g_fgt [true, true, true, true] (JL_law_953_ok n xs a3 b h L)
    refine g_tsc (M := mL_law) (pc := 33) (v := 24) 966 dL_law_33 (by decide) (by decide) rfl (by decide) (fun _ => ?_) (fun z24 => ?_)
    · exact g_fgt [true, true, true, true] (JL_law_966_ok n xs a3 b h L)
    refine g_tsc (M := mL_law) (pc := 33) (v := 25) 989 dL_law_33 (by decide) (by decide) rfl (by decide) (fun _ => ?_) (fun z25 => ?_)
    · exact g_fgt [true, true, true, true] (JL_law_989_ok n xs a3 b h L)
    refine g_tsc (M := mL_law) (pc := 33) (v := 26) 1012 dL_law_33 (by decide) (by decide) rfl (by decide) (fun _ => ?_) (fun z26 => ?_)
    · exact g_fgt [true, true, true, true] (JL_law_1012_ok n xs a3 b h L)
    refine g_tsc (M := mL_law) (pc := 33) (v := 27) 1045 dL_law_33 (by decide) (by decide) rfl (by decide) (fun _ => ?_) (fun z27 => ?_)
    · exact g_fgt [true, true, true, true] (JL_law_1045_ok n xs a3 b h L)
    refine g_tsc (M := mL_law) (pc := 33) (v := 28) 1068 dL_law_33 (by decide) (by decide) rfl (by decide) (fun _ => ?_) (fun z28 => ?_)
    · exact g_fgt [true, true, true, true] (JL_law_1068_ok n xs a3 b h L)
    refine g_tsc (M := mL_law) (pc := 33) (v := 29) 1091 dL_law_33 (by decide) (by decide) rfl (by decide) (fun _ => ?_) (fun z29 => ?_)
    · exact g_fgt [true, true, true, true] (JL_law_1091_ok n xs a3 b h L)
    refine g_tsc (M := mL_law) (pc := 33) (v := 30) 1114 dL_law_33 (by decide) (by decide) rfl (by decide) (fun _ => ?_) (fun z30 => ?_)
    · exact g_fgt [true, true, true, true] (JL_law_1114_ok n xs a3 b h L)
    refine g_tsc (M := mL_law) (pc := 33) (v := 31) 1167 dL_law_33 (by decide) (by decide) rfl (by decide) (fun _ => ?_) (fun z31 => ?_)
    · exact g_fgt [true, true, true, true] (JL_law_1167_ok n xs a3 b h L)
    refine g_tsc (M := mL_law) (pc := 33) (v := 32) 1200 dL_law_33 (by decide) (by decide) rfl (by decide) (fun _ => ?_) (fun z32 => ?_)
    · exact g_fgt [true, true, true, true] (JL_law_1200_ok n xs a3 b h L)
    refine g_tsc (M := mL_law) (pc := 33) (v := 33) 1213 dL_law_33 (by decide) (by decide) rfl (by decide) (fun _ => ?_) (fun z33 => ?_)
    · exact g_fgt [true, true, true, true] (JL_law_1213_ok n xs a3 b h L)
    refine g_tsc (M := mL_law) (pc := 33) (v := 34) 1226 dL_law_33 (by decide) (by decide) rfl (by decide) (fun _ => ?_) (fun z34 => ?_)
    · exact g_fgt [true, true, true, true] (JL_law_1226_ok n xs a3 b h L)
    refine g_tsc (M := mL_law) (pc := 33) (v := 35) 1269 dL_law_33 (by decide) (by decide) rfl (by decide) (fun _ => ?_) (fun z35 => ?_)
    · exact g_fgt [true, true, true, true] (JL_law_1269_ok n xs a3 b h L)
    refine g_tsc (M := mL_law) (pc := 33) (v := 36) 1343 dL_law_33 (by decide) (by decide) rfl (by decide) (fun _ => ?_) (fun z36 => ?_)
    · exact g_fgt [true, true, true, true] (JL_law_1343_ok n xs a3 b h L)
    refine g_tsc (M := mL_law) (pc := 33) (v := 37) 1406 dL_law_33 (by decide) (by decide) rfl (by decide) (fun _ => ?_) (fun z37 => ?_)
    · exact g_fgt [true, true, true, true] (JL_law_1406_ok n xs a3 b h L)
    refine g_tsc (M := mL_law) (pc := 33) (v := 38) 1429 dL_law_33 (by decide) (by decide) rfl (by decide) (fun _ => ?_) (fun z38 => ?_)
    · exact g_fgt [true, true, true, true] (JL_law_1429_ok n xs a3 b h L)
    refine g_tsc (M := mL_law) (pc := 33) (v := 39) 1452 dL_law_33 (by decide) (by decide) rfl (by decide) (fun _ => ?_) (fun z39 => ?_)
    · exact g_fgt [true, true, true, true] (JL_law_1452_ok n xs a3 b h L)
    refine g_tsc (M := mL_law) (pc := 33) (v := 40) 1465 dL_law_33 (by decide) (by decide) rfl (by decide) (fun _ => ?_) (fun z40 => ?_)
    · exact g_fgt [true, true, true, true] (JL_law_1465_ok n xs a3 b h L)
    refine g_tsc (M := mL_law) (pc := 33) (v := 41) 1478 dL_law_33 (by decide) (by decide) rfl (by decide) (fun _ => ?_) (fun z41 => ?_)
    · exact g_fgt [true, true, true, true] (JL_law_1478_ok n xs a3 b h L)
    refine g_tsc (M := mL_law) (pc := 33) (v := 42) 1491 dL_law_33 (by decide) (by decide) rfl (by decide) (fun _ => ?_) (fun z42 => ?_)
    · exact g_fgt [true, true, true, true] (JL_law_1491_ok n xs a3 b h L)
    refine g_tsc (M := mL_law) (pc := 33) (v := 43) 1514 dL_law_33 (by decide) (by decide) rfl (by decide) (fun _ => ?_) (fun z43 => ?_)
    · exact g_fgt [true, true, true, true] (JL_law_1514_ok n xs a3 b h L)
    refine g_tsOut (M := mL_law) (pc := 33) 1537 dL_law_33 (by have y0 := lv_neT z0 (a := 0) rfl; have y1 := lv_neT z1 (a := 1) rfl; have y2 := lv_neT z2 (a := 2) rfl; have y3 := lv_neT z3 (a := 3) rfl; have y4 := lv_neT z4 (a := 4) rfl; have y5 := lv_neT z5 (a := 5) rfl; have y6 := lv_neT z6 (a := 6) rfl; have y7 := lv_neT z7 (a := 7) rfl; have y8 := lv_neT z8 (a := 8) rfl; have y9 := lv_neT z9 (a := 9) rfl; have y10 := lv_neT z10 (a := 10) rfl; have y11 := lv_neT z11 (a := 11) rfl; have y12 := lv_neT z12 (a := 12) rfl; have y13 := lv_neT z13 (a := 13) rfl; have y14 := lv_neT z14 (a := 14) rfl; have y15 := lv_neT z15 (a := 15) rfl; have y16 := lv_neT z16 (a := 16) rfl; have y17 := lv_neT z17 (a := 17) rfl; have y18 := lv_neT z18 (a := 18) rfl; have y19 := lv_neT z19 (a := 19) rfl; have y20 := lv_neT z20 (a := 20) rfl; have y21 := lv_neT z21 (a := 21) rfl; have y22 := lv_neT z22 (a := 22) rfl; have y23 := lv_neT z23 (a := 23) rfl; have y24 := lv_neT z24 (a := 24) rfl; have y25 := lv_neT z25 (a := 25) rfl; have y26 := lv_neT z26 (a := 26) rfl; have y27 := lv_neT z27 (a := 27) rfl; have y28 := lv_neT z28 (a := 28) rfl; have y29 := lv_neT z29 (a := 29) rfl; have y30 := lv_neT z30 (a := 30) rfl; have y31 := lv_neT z31 (a := 31) rfl; have y32 := lv_neT z32 (a := 32) rfl; have y33 := lv_neT z33 (a := 33) rfl; have y34 := lv_neT z34 (a := 34) rfl; have y35 := lv_neT z35 (a := 35) rfl; have y36 := lv_neT z36 (a := 36) rfl; have y37 := lv_neT z37 (a := 37) rfl; have y38 := lv_neT z38 (a := 38) rfl; have y39 := lv_neT z39 (a := 39) rfl; have y40 := lv_neT z40 (a := 40) rfl; have y41 := lv_neT z41 (a := 41) rfl; have y42 := lv_neT z42 (a := 42) rfl; have y43 := lv_neT z43 (a := 43) rfl; omega) (by decide) ?_
    refine g_iinc (M := mL_law) (pc := 1537) (c := 6) (ls' := [some (aR 12 0), some (aR 3 16), some (aR 8 32), some (aI (a3 + 6))]) 1540 dL_law_1537 rfl ic6 rfl rfl rfl ?_
    refine g_goto (M := mL_law) (pc := 1540) 18 dL_law_1540 (by decide) ?_
    exact g_jmp (fun z => v_fgt [true, true, true, true] z)
/-- the law's loop: if the function answers 1 the law comes to its end -/
theorem law_loop {b n : Nat} {xs : Nat → Int32} {h : HI} {L : HL} (k : Nat) (hk : loopN (SL_law_18 n xs) k (0, h, L) = some 1) : V mL_law 12 (ZL b n xs) 18 [some (aR 12 0), some (aR 3 16), some (aR 8 32), some (aI 0)] [] h L := loop_gen (f := SL_law_18 n xs) (A := fun s : Int32 × HI × HL => V mL_law 12 (ZL b n xs) 18 [some (aR 12 0), some (aR 3 16), some (aR 8 32), some (aI (s.1))] [] (s.2.1) (s.2.2)) (B := fun r => r = 1) (fun s => SL_law_18_ok n xs b s.1 s.2.1 s.2.2) k (0, h, L) 1 hk rfl
