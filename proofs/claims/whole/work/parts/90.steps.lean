-- the law: every step keeps both sides the same
def GoOn (i : Nat) (o : Option ((Int32 × HI × HL) ⊕ Int32)) : Prop := ∃ h' L', o = some (Sum.inl (nI (i + 6), h', L')) ∧ Rel h' ∧ EqL L'
theorem jl_224 {n i : Nat} {xs : Nat → Int32} {h : HI} {L : HL} (hn : n ≤ 3072) (hi : i + 6 ≤ n) (re : Rel h) (eL : EqL L) : GoOn i (JL_law_224 n xs (nI i) h L) := by
  have e1 : ixb (nI i + 1) n = true := by rw [show nI i + 1 = nI (i + 1) from nI_add i 1]; exact ixb_n (by omega) (by omega)
  have e2 : ixb (nI i + 2) n = true := by rw [show nI i + 2 = nI (i + 2) from nI_add i 2]; exact ixb_n (by omega) (by omega)
  have e3 : ixb (nI i + 3) n = true := by rw [show nI i + 3 = nI (i + 3) from nI_add i 3]; exact ixb_n (by omega) (by omega)
  have e4 : ixb (nI i + 4) n = true := by rw [show nI i + 4 = nI (i + 4) from nI_add i 4]; exact ixb_n (by omega) (by omega)
  have e6 : nI i + 6 = nI (i + 6) := nI_add i 6
  obtain ⟨x, h1, h2, c1, r1, re2⟩ := phrase_ok (xs (nC (nI i + 1))) (xs (nC (nI i + 2))) (xs (nC (nI i + 3))) (xs (nC (nI i + 4))) h re
  refine ⟨h2, L, ?_, re2, eL⟩
  unfold JL_law_224
  simp only [e1, e2, e3, e4, gd_1, c1, r1, Option.bind_some]
  rw [if_pos trivial, e6]
theorem jl_277 {n i : Nat} {xs : Nat → Int32} {h : HI} {L : HL} (hn : n ≤ 3072) (hi : i + 6 ≤ n) (re : Rel h) (eL : EqL L) : GoOn i (JL_law_277 n xs (nI i) h L) := by
  have e1 : ixb (nI i + 1) n = true := by rw [show nI i + 1 = nI (i + 1) from nI_add i 1]; exact ixb_n (by omega) (by omega)
  have e2 : ixb (nI i + 2) n = true := by rw [show nI i + 2 = nI (i + 2) from nI_add i 2]; exact ixb_n (by omega) (by omega)
  have e6 : nI i + 6 = nI (i + 6) := nI_add i 6
  obtain ⟨x, h1, h2, c1, r1, re2⟩ := of_ok (xs (nC (nI i + 1))) (xs (nC (nI i + 2))) h re
  refine ⟨h2, L, ?_, re2, eL⟩
  unfold JL_law_277
  simp only [e1, e2, gd_1, c1, r1, Option.bind_some]
  rw [if_pos trivial, e6]
theorem jl_310 {n i : Nat} {xs : Nat → Int32} {h : HI} {L : HL} (hn : n ≤ 3072) (hi : i + 6 ≤ n) (re : Rel h) (eL : EqL L) : GoOn i (JL_law_310 n xs (nI i) h L) := by
  have e1 : ixb (nI i + 1) n = true := by rw [show nI i + 1 = nI (i + 1) from nI_add i 1]; exact ixb_n (by omega) (by omega)
  have e2 : ixb (nI i + 2) n = true := by rw [show nI i + 2 = nI (i + 2) from nI_add i 2]; exact ixb_n (by omega) (by omega)
  have e3 : ixb (nI i + 3) n = true := by rw [show nI i + 3 = nI (i + 3) from nI_add i 3]; exact ixb_n (by omega) (by omega)
  have e6 : nI i + 6 = nI (i + 6) := nI_add i 6
  obtain ⟨x, h1, h2, c1, r1, re2⟩ := set_ok (xs (nC (nI i + 1))) (xs (nC (nI i + 2))) (xs (nC (nI i + 3))) h re
  refine ⟨h2, L, ?_, re2, eL⟩
  unfold JL_law_310
  simp only [e1, e2, e3, gd_1, c1, r1, Option.bind_some]
  rw [if_pos trivial, e6]
theorem jl_353 {n i : Nat} {xs : Nat → Int32} {h : HI} {L : HL} (hn : n ≤ 3072) (hi : i + 6 ≤ n) (re : Rel h) (eL : EqL L) : GoOn i (JL_law_353 n xs (nI i) h L) := by
  have e1 : ixb (nI i + 1) n = true := by rw [show nI i + 1 = nI (i + 1) from nI_add i 1]; exact ixb_n (by omega) (by omega)
  have e2 : ixb (nI i + 2) n = true := by rw [show nI i + 2 = nI (i + 2) from nI_add i 2]; exact ixb_n (by omega) (by omega)
  have e6 : nI i + 6 = nI (i + 6) := nI_add i 6
  obtain ⟨x, h1, h2, c1, r1, re2⟩ := turn_ok (xs (nC (nI i + 1))) (xs (nC (nI i + 2))) h re
  refine ⟨h2, L, ?_, re2, eL⟩
  unfold JL_law_353
  simp only [e1, e2, gd_1, c1, r1, Option.bind_some]
  rw [if_pos trivial, e6]
theorem jl_386 {n i : Nat} {xs : Nat → Int32} {h : HI} {L : HL} (hn : n ≤ 3072) (hi : i + 6 ≤ n) (re : Rel h) (eL : EqL L) : GoOn i (JL_law_386 n xs (nI i) h L) := by
  have e1 : ixb (nI i + 1) n = true := by rw [show nI i + 1 = nI (i + 1) from nI_add i 1]; exact ixb_n (by omega) (by omega)
  have e2 : ixb (nI i + 2) n = true := by rw [show nI i + 2 = nI (i + 2) from nI_add i 2]; exact ixb_n (by omega) (by omega)
  have e6 : nI i + 6 = nI (i + 6) := nI_add i 6
  obtain ⟨x, h1, h2, c1, r1, re2⟩ := as_ok (xs (nC (nI i + 1))) (xs (nC (nI i + 2))) h re
  refine ⟨h2, L, ?_, re2, eL⟩
  unfold JL_law_386
  simp only [e1, e2, gd_1, c1, r1, Option.bind_some]
  rw [if_pos trivial, e6]
theorem jl_419 {n i : Nat} {xs : Nat → Int32} {h : HI} {L : HL} (hn : n ≤ 3072) (hi : i + 6 ≤ n) (re : Rel h) (eL : EqL L) : GoOn i (JL_law_419 n xs (nI i) h L) := by
  have e1 : ixb (nI i + 1) n = true := by rw [show nI i + 1 = nI (i + 1) from nI_add i 1]; exact ixb_n (by omega) (by omega)
  have e2 : ixb (nI i + 2) n = true := by rw [show nI i + 2 = nI (i + 2) from nI_add i 2]; exact ixb_n (by omega) (by omega)
  have e3 : ixb (nI i + 3) n = true := by rw [show nI i + 3 = nI (i + 3) from nI_add i 3]; exact ixb_n (by omega) (by omega)
  have e6 : nI i + 6 = nI (i + 6) := nI_add i 6
  obtain ⟨x, h1, h2, c1, r1, re2⟩ := want_ok (xs (nC (nI i + 1))) (xs (nC (nI i + 2))) (xs (nC (nI i + 3))) h re
  refine ⟨h2, L, ?_, re2, eL⟩
  unfold JL_law_419
  simp only [e1, e2, e3, gd_1, c1, r1, Option.bind_some]
  rw [if_pos trivial, e6]
theorem jl_462 {n i : Nat} {xs : Nat → Int32} {h : HI} {L : HL} (hn : n ≤ 3072) (hi : i + 6 ≤ n) (re : Rel h) (eL : EqL L) : GoOn i (JL_law_462 n xs (nI i) h L) := by
  have e1 : ixb (nI i + 1) n = true := by rw [show nI i + 1 = nI (i + 1) from nI_add i 1]; exact ixb_n (by omega) (by omega)
  have e2 : ixb (nI i + 2) n = true := by rw [show nI i + 2 = nI (i + 2) from nI_add i 2]; exact ixb_n (by omega) (by omega)
  have e6 : nI i + 6 = nI (i + 6) := nI_add i 6
  obtain ⟨x, h1, h2, c1, r1, re2⟩ := wantOf_ok (xs (nC (nI i + 1))) (xs (nC (nI i + 2))) h re
  refine ⟨h2, L, ?_, re2, eL⟩
  unfold JL_law_462
  simp only [e1, e2, gd_1, c1, r1, Option.bind_some]
  rw [if_pos trivial, e6]
theorem jl_495 {n i : Nat} {xs : Nat → Int32} {h : HI} {L : HL} (hn : n ≤ 3072) (hi : i + 6 ≤ n) (re : Rel h) (eL : EqL L) : GoOn i (JL_law_495 n xs (nI i) h L) := by
  have e1 : ixb (nI i + 1) n = true := by rw [show nI i + 1 = nI (i + 1) from nI_add i 1]; exact ixb_n (by omega) (by omega)
  have e2 : ixb (nI i + 2) n = true := by rw [show nI i + 2 = nI (i + 2) from nI_add i 2]; exact ixb_n (by omega) (by omega)
  have e3 : ixb (nI i + 3) n = true := by rw [show nI i + 3 = nI (i + 3) from nI_add i 3]; exact ixb_n (by omega) (by omega)
  have e6 : nI i + 6 = nI (i + 6) := nI_add i 6
  obtain ⟨x, h1, h2, c1, r1, re2⟩ := change_ok (xs (nC (nI i + 1))) (xs (nC (nI i + 2))) (xs (nC (nI i + 3))) h re
  refine ⟨h2, L, ?_, re2, eL⟩
  unfold JL_law_495
  simp only [e1, e2, e3, gd_1, c1, r1, Option.bind_some]
  rw [if_pos trivial, e6]
theorem jl_538 {n i : Nat} {xs : Nat → Int32} {h : HI} {L : HL} (hn : n ≤ 3072) (hi : i + 6 ≤ n) (re : Rel h) (eL : EqL L) : GoOn i (JL_law_538 n xs (nI i) h L) := by
  have e1 : ixb (nI i + 1) n = true := by rw [show nI i + 1 = nI (i + 1) from nI_add i 1]; exact ixb_n (by omega) (by omega)
  have e2 : ixb (nI i + 2) n = true := by rw [show nI i + 2 = nI (i + 2) from nI_add i 2]; exact ixb_n (by omega) (by omega)
  have e3 : ixb (nI i + 3) n = true := by rw [show nI i + 3 = nI (i + 3) from nI_add i 3]; exact ixb_n (by omega) (by omega)
  have e6 : nI i + 6 = nI (i + 6) := nI_add i 6
  obtain ⟨x, h1, h2, c1, r1, re2⟩ := gain_ok (xs (nC (nI i + 1))) (xs (nC (nI i + 2))) (xs (nC (nI i + 3))) h re
  refine ⟨h2, L, ?_, re2, eL⟩
  unfold JL_law_538
  simp only [e1, e2, e3, gd_1, c1, r1, Option.bind_some]
  rw [if_pos trivial, e6]
theorem jl_581 {n i : Nat} {xs : Nat → Int32} {h : HI} {L : HL} (hn : n ≤ 3072) (hi : i + 6 ≤ n) (re : Rel h) (eL : EqL L) : GoOn i (JL_law_581 n xs (nI i) h L) := by
  have e1 : ixb (nI i + 1) n = true := by rw [show nI i + 1 = nI (i + 1) from nI_add i 1]; exact ixb_n (by omega) (by omega)
  have e2 : ixb (nI i + 2) n = true := by rw [show nI i + 2 = nI (i + 2) from nI_add i 2]; exact ixb_n (by omega) (by omega)
  have e6 : nI i + 6 = nI (i + 6) := nI_add i 6
  obtain ⟨x, h1, h2, c1, r1, re2⟩ := met_ok (xs (nC (nI i + 1))) (xs (nC (nI i + 2))) h re
  refine ⟨h2, L, ?_, re2, eL⟩
  unfold JL_law_581
  simp only [e1, e2, gd_1, c1, r1, Option.bind_some]
  rw [if_pos trivial, e6]
theorem jl_614 {n i : Nat} {xs : Nat → Int32} {h : HI} {L : HL} (hn : n ≤ 3072) (hi : i + 6 ≤ n) (re : Rel h) (eL : EqL L) : GoOn i (JL_law_614 n xs (nI i) h L) := by
  have e1 : ixb (nI i + 1) n = true := by rw [show nI i + 1 = nI (i + 1) from nI_add i 1]; exact ixb_n (by omega) (by omega)
  have e6 : nI i + 6 = nI (i + 6) := nI_add i 6
  obtain ⟨x, h1, h2, c1, r1, re2⟩ := value_ok (xs (nC (nI i + 1))) h re
  refine ⟨h2, L, ?_, re2, eL⟩
  unfold JL_law_614
  simp only [e1, gd_1, c1, r1, Option.bind_some]
  rw [if_pos trivial, e6]
theorem jl_637 {n i : Nat} {xs : Nat → Int32} {h : HI} {L : HL} (hn : n ≤ 3072) (hi : i + 6 ≤ n) (re : Rel h) (eL : EqL L) : GoOn i (JL_law_637 n xs (nI i) h L) := by
  have e1 : ixb (nI i + 1) n = true := by rw [show nI i + 1 = nI (i + 1) from nI_add i 1]; exact ixb_n (by omega) (by omega)
  have e2 : ixb (nI i + 2) n = true := by rw [show nI i + 2 = nI (i + 2) from nI_add i 2]; exact ixb_n (by omega) (by omega)
  have e6 : nI i + 6 = nI (i + 6) := nI_add i 6
  obtain ⟨x, h1, h2, c1, r1, re2⟩ := by_ok (xs (nC (nI i + 1))) (xs (nC (nI i + 2))) h re
  refine ⟨h2, L, ?_, re2, eL⟩
  unfold JL_law_637
  simp only [e1, e2, gd_1, c1, r1, Option.bind_some]
  rw [if_pos trivial, e6]
theorem jl_670 {n i : Nat} {xs : Nat → Int32} {h : HI} {L : HL} (hn : n ≤ 3072) (hi : i + 6 ≤ n) (re : Rel h) (eL : EqL L) : GoOn i (JL_law_670 n xs (nI i) h L) := by
  have e1 : ixb (nI i + 1) n = true := by rw [show nI i + 1 = nI (i + 1) from nI_add i 1]; exact ixb_n (by omega) (by omega)
  have e2 : ixb (nI i + 2) n = true := by rw [show nI i + 2 = nI (i + 2) from nI_add i 2]; exact ixb_n (by omega) (by omega)
  have e6 : nI i + 6 = nI (i + 6) := nI_add i 6
  obtain ⟨x, h1, h2, c1, r1, re2⟩ := best_ok (xs (nC (nI i + 1))) (xs (nC (nI i + 2))) h re
  refine ⟨h2, L, ?_, re2, eL⟩
  unfold JL_law_670
  simp only [e1, e2, gd_1, c1, r1, Option.bind_some]
  rw [if_pos trivial, e6]
theorem jl_703 {n i : Nat} {xs : Nat → Int32} {h : HI} {L : HL} (hn : n ≤ 3072) (hi : i + 6 ≤ n) (re : Rel h) (eL : EqL L) : GoOn i (JL_law_703 n xs (nI i) h L) := by
  have e1 : ixb (nI i + 1) n = true := by rw [show nI i + 1 = nI (i + 1) from nI_add i 1]; exact ixb_n (by omega) (by omega)
  have e2 : ixb (nI i + 2) n = true := by rw [show nI i + 2 = nI (i + 2) from nI_add i 2]; exact ixb_n (by omega) (by omega)
  have e6 : nI i + 6 = nI (i + 6) := nI_add i 6
  obtain ⟨x, h1, h2, c1, r1, re2⟩ := greedy_ok (xs (nC (nI i + 1))) (xs (nC (nI i + 2))) h re
  refine ⟨h2, L, ?_, re2, eL⟩
  unfold JL_law_703
  simp only [e1, e2, gd_1, c1, r1, Option.bind_some]
  rw [if_pos trivial, e6]
theorem jl_736 {n i : Nat} {xs : Nat → Int32} {h : HI} {L : HL} (hn : n ≤ 3072) (hi : i + 6 ≤ n) (re : Rel h) (eL : EqL L) : GoOn i (JL_law_736 n xs (nI i) h L) := by
  have e1 : ixb (nI i + 1) n = true := by rw [show nI i + 1 = nI (i + 1) from nI_add i 1]; exact ixb_n (by omega) (by omega)
  have e6 : nI i + 6 = nI (i + 6) := nI_add i 6
  obtain ⟨x, h1, h2, c1, r1, re2⟩ := next_ok (xs (nC (nI i + 1))) h re
  refine ⟨h2, L, ?_, re2, eL⟩
  unfold JL_law_736
  simp only [e1, gd_1, c1, r1, Option.bind_some]
  rw [if_pos trivial, e6]
theorem jl_759 {n i : Nat} {xs : Nat → Int32} {h : HI} {L : HL} (hn : n ≤ 3072) (hi : i + 6 ≤ n) (re : Rel h) (eL : EqL L) : GoOn i (JL_law_759 n xs (nI i) h L) := by
  have e1 : ixb (nI i + 1) n = true := by rw [show nI i + 1 = nI (i + 1) from nI_add i 1]; exact ixb_n (by omega) (by omega)
  have e6 : nI i + 6 = nI (i + 6) := nI_add i 6
  obtain ⟨x, h1, h2, c1, r1, re2⟩ := spare_ok (xs (nC (nI i + 1))) h re
  refine ⟨h2, L, ?_, re2, eL⟩
  unfold JL_law_759
  simp only [e1, gd_1, c1, r1, Option.bind_some]
  rw [if_pos trivial, e6]
theorem jl_782 {n i : Nat} {xs : Nat → Int32} {h : HI} {L : HL} (hn : n ≤ 3072) (hi : i + 6 ≤ n) (re : Rel h) (eL : EqL L) : GoOn i (JL_law_782 n xs (nI i) h L) := by
  have e1 : ixb (nI i + 1) n = true := by rw [show nI i + 1 = nI (i + 1) from nI_add i 1]; exact ixb_n (by omega) (by omega)
  have e6 : nI i + 6 = nI (i + 6) := nI_add i 6
  obtain ⟨x, h1, h2, c1, r1, re2⟩ := minutesFor_ok (xs (nC (nI i + 1))) h re
  refine ⟨h2, L, ?_, re2, eL⟩
  unfold JL_law_782
  simp only [e1, gd_1, c1, r1, Option.bind_some]
  rw [if_pos trivial, e6]
theorem jl_805 {n i : Nat} {xs : Nat → Int32} {h : HI} {L : HL} (hn : n ≤ 3072) (hi : i + 6 ≤ n) (re : Rel h) (eL : EqL L) : GoOn i (JL_law_805 n xs (nI i) h L) := by
  have e1 : ixb (nI i + 1) n = true := by rw [show nI i + 1 = nI (i + 1) from nI_add i 1]; exact ixb_n (by omega) (by omega)
  have e6 : nI i + 6 = nI (i + 6) := nI_add i 6
  obtain ⟨x, h1, h2, c1, r1, re2⟩ := queue_ok (xs (nC (nI i + 1))) h re
  refine ⟨h2, L, ?_, re2, eL⟩
  unfold JL_law_805
  simp only [e1, gd_1, c1, r1, Option.bind_some]
  rw [if_pos trivial, e6]
theorem jl_828 {n i : Nat} {xs : Nat → Int32} {h : HI} {L : HL} (hn : n ≤ 3072) (hi : i + 6 ≤ n) (re : Rel h) (eL : EqL L) : GoOn i (JL_law_828 n xs (nI i) h L) := by
  have e1 : ixb (nI i + 1) n = true := by rw [show nI i + 1 = nI (i + 1) from nI_add i 1]; exact ixb_n (by omega) (by omega)
  have e6 : nI i + 6 = nI (i + 6) := nI_add i 6
  obtain ⟨x, h1, h2, c1, r1, re2⟩ := skip_ok (xs (nC (nI i + 1))) h re
  refine ⟨h2, L, ?_, re2, eL⟩
  unfold JL_law_828
  simp only [e1, gd_1, c1, r1, Option.bind_some]
  rw [if_pos trivial, e6]
theorem jl_851 {n i : Nat} {xs : Nat → Int32} {h : HI} {L : HL} (hn : n ≤ 3072) (hi : i + 6 ≤ n) (re : Rel h) (eL : EqL L) : GoOn i (JL_law_851 n xs (nI i) h L) := by
  have e1 : ixb (nI i + 1) n = true := by rw [show nI i + 1 = nI (i + 1) from nI_add i 1]; exact ixb_n (by omega) (by omega)
  have e6 : nI i + 6 = nI (i + 6) := nI_add i 6
  obtain ⟨x, h1, h2, c1, r1, re2⟩ := ith_ok (xs (nC (nI i + 1))) h re
  refine ⟨h2, L, ?_, re2, eL⟩
  unfold JL_law_851
  simp only [e1, gd_1, c1, r1, Option.bind_some]
  rw [if_pos trivial, e6]
theorem jl_874 {n i : Nat} {xs : Nat → Int32} {h : HI} {L : HL} (hn : n ≤ 3072) (hi : i + 6 ≤ n) (re : Rel h) (eL : EqL L) : GoOn i (JL_law_874 n xs (nI i) h L) := by
  have e1 : ixb (nI i + 1) n = true := by rw [show nI i + 1 = nI (i + 1) from nI_add i 1]; exact ixb_n (by omega) (by omega)
  have e2 : ixb (nI i + 2) n = true := by rw [show nI i + 2 = nI (i + 2) from nI_add i 2]; exact ixb_n (by omega) (by omega)
  have e6 : nI i + 6 = nI (i + 6) := nI_add i 6
  obtain ⟨x, h1, h2, c1, r1, re2⟩ := learn_ok (xs (nC (nI i + 1))) (xs (nC (nI i + 2))) h re
  refine ⟨h2, L, ?_, re2, eL⟩
  unfold JL_law_874
  simp only [e1, e2, gd_1, c1, r1, Option.bind_some]
  rw [if_pos trivial, e6]
theorem jl_907 {n i : Nat} {xs : Nat → Int32} {h : HI} {L : HL} (hn : n ≤ 3072) (hi : i + 6 ≤ n) (re : Rel h) (eL : EqL L) : GoOn i (JL_law_907 n xs (nI i) h L) := by
  have e1 : ixb (nI i + 1) n = true := by rw [show nI i + 1 = nI (i + 1) from nI_add i 1]; exact ixb_n (by omega) (by omega)
  have e6 : nI i + 6 = nI (i + 6) := nI_add i 6
  obtain ⟨x, h1, h2, c1, r1, re2⟩ := evening_ok (xs (nC (nI i + 1))) h re
  refine ⟨h2, L, ?_, re2, eL⟩
  unfold JL_law_907
  simp only [e1, gd_1, c1, r1, Option.bind_some]
  rw [if_pos trivial, e6]
theorem jl_930 {n i : Nat} {xs : Nat → Int32} {h : HI} {L : HL} (hn : n ≤ 3072) (hi : i + 6 ≤ n) (re : Rel h) (eL : EqL L) : GoOn i (JL_law_930 n xs (nI i) h L) := by
  have e1 : ixb (nI i + 1) n = true := by rw [show nI i + 1 = nI (i + 1) from nI_add i 1]; exact ixb_n (by omega) (by omega)
  have e6 : nI i + 6 = nI (i + 6) := nI_add i 6
  obtain ⟨x, h1, h2, c1, r1, re2⟩ := line_ok (xs (nC (nI i + 1))) h re
  refine ⟨h2, L, ?_, re2, eL⟩
  unfold JL_law_930
  simp only [e1, gd_1, c1, r1, Option.bind_some]
  rw [if_pos trivial, e6]
theorem jl_953 {n i : Nat} {xs : Nat → Int32} {h : HI} {L : HL} (hn : n ≤ 3072) (hi : i + 6 ≤ n) (re : Rel h) (eL : EqL L) : GoOn i (JL_law_953 n xs (nI i) h L) := by
  have e6 : nI i + 6 = nI (i + 6) := nI_add i 6
  obtain ⟨x, c1, r1⟩ := known_ok re
  refine ⟨h, L, ?_, re, eL⟩
  unfold JL_law_953
  rw [c1, Option.bind_some, r1, Option.bind_some, if_pos rfl, e6]
theorem jl_966 {n i : Nat} {xs : Nat → Int32} {h : HI} {L : HL} (hn : n ≤ 3072) (hi : i + 6 ≤ n) (re : Rel h) (eL : EqL L) : GoOn i (JL_law_966 n xs (nI i) h L) := by
  have e1 : ixb (nI i + 1) n = true := by rw [show nI i + 1 = nI (i + 1) from nI_add i 1]; exact ixb_n (by omega) (by omega)
  have e6 : nI i + 6 = nI (i + 6) := nI_add i 6
  obtain ⟨x, h1, h2, c1, r1, re2⟩ := days_ok (xs (nC (nI i + 1))) h re
  refine ⟨h2, L, ?_, re2, eL⟩
  unfold JL_law_966
  simp only [e1, gd_1, c1, r1, Option.bind_some]
  rw [if_pos trivial, e6]
theorem jl_989 {n i : Nat} {xs : Nat → Int32} {h : HI} {L : HL} (hn : n ≤ 3072) (hi : i + 6 ≤ n) (re : Rel h) (eL : EqL L) : GoOn i (JL_law_989 n xs (nI i) h L) := by
  have e1 : ixb (nI i + 1) n = true := by rw [show nI i + 1 = nI (i + 1) from nI_add i 1]; exact ixb_n (by omega) (by omega)
  have e6 : nI i + 6 = nI (i + 6) := nI_add i 6
  obtain ⟨x, h1, h2, c1, r1, re2⟩ := now_ok (xs (nC (nI i + 1))) h re
  refine ⟨h2, L, ?_, re2, eL⟩
  unfold JL_law_989
  simp only [e1, gd_1, c1, r1, Option.bind_some]
  rw [if_pos trivial, e6]
theorem jl_1012 {n i : Nat} {xs : Nat → Int32} {h : HI} {L : HL} (hn : n ≤ 3072) (hi : i + 6 ≤ n) (re : Rel h) (eL : EqL L) : GoOn i (JL_law_1012 n xs (nI i) h L) := by
  have e1 : ixb (nI i + 1) n = true := by rw [show nI i + 1 = nI (i + 1) from nI_add i 1]; exact ixb_n (by omega) (by omega)
  have e2 : ixb (nI i + 2) n = true := by rw [show nI i + 2 = nI (i + 2) from nI_add i 2]; exact ixb_n (by omega) (by omega)
  have e6 : nI i + 6 = nI (i + 6) := nI_add i 6
  obtain ⟨x, h1, h2, c1, r1, re2⟩ := on_ok (xs (nC (nI i + 1))) (xs (nC (nI i + 2))) h re
  refine ⟨h2, L, ?_, re2, eL⟩
  unfold JL_law_1012
  simp only [e1, e2, gd_1, c1, r1, Option.bind_some]
  rw [if_pos trivial, e6]
theorem jl_1045 {n i : Nat} {xs : Nat → Int32} {h : HI} {L : HL} (hn : n ≤ 3072) (hi : i + 6 ≤ n) (re : Rel h) (eL : EqL L) : GoOn i (JL_law_1045 n xs (nI i) h L) := by
  have e1 : ixb (nI i + 1) n = true := by rw [show nI i + 1 = nI (i + 1) from nI_add i 1]; exact ixb_n (by omega) (by omega)
  have e6 : nI i + 6 = nI (i + 6) := nI_add i 6
  obtain ⟨x, h1, h2, c1, r1, re2⟩ := forgot_ok (xs (nC (nI i + 1))) h re
  refine ⟨h2, L, ?_, re2, eL⟩
  unfold JL_law_1045
  simp only [e1, gd_1, c1, r1, Option.bind_some]
  rw [if_pos trivial, e6]
theorem jl_1068 {n i : Nat} {xs : Nat → Int32} {h : HI} {L : HL} (hn : n ≤ 3072) (hi : i + 6 ≤ n) (re : Rel h) (eL : EqL L) : GoOn i (JL_law_1068 n xs (nI i) h L) := by
  have e1 : ixb (nI i + 1) n = true := by rw [show nI i + 1 = nI (i + 1) from nI_add i 1]; exact ixb_n (by omega) (by omega)
  have e6 : nI i + 6 = nI (i + 6) := nI_add i 6
  obtain ⟨x, h1, h2, c1, r1, re2⟩ := useless_ok (xs (nC (nI i + 1))) h re
  refine ⟨h2, L, ?_, re2, eL⟩
  unfold JL_law_1068
  simp only [e1, gd_1, c1, r1, Option.bind_some]
  rw [if_pos trivial, e6]
theorem jl_1091 {n i : Nat} {xs : Nat → Int32} {h : HI} {L : HL} (hn : n ≤ 3072) (hi : i + 6 ≤ n) (re : Rel h) (eL : EqL L) : GoOn i (JL_law_1091 n xs (nI i) h L) := by
  have e1 : ixb (nI i + 1) n = true := by rw [show nI i + 1 = nI (i + 1) from nI_add i 1]; exact ixb_n (by omega) (by omega)
  have e6 : nI i + 6 = nI (i + 6) := nI_add i 6
  obtain ⟨x, h1, h2, c1, r1, re2⟩ := tonight_ok (xs (nC (nI i + 1))) h re
  refine ⟨h2, L, ?_, re2, eL⟩
  unfold JL_law_1091
  simp only [e1, gd_1, c1, r1, Option.bind_some]
  rw [if_pos trivial, e6]
theorem jl_1114 {n i : Nat} {xs : Nat → Int32} {h : HI} {L : HL} (hn : n ≤ 3072) (hi : i + 6 ≤ n) (re : Rel h) (eL : EqL L) : GoOn i (JL_law_1114 n xs (nI i) h L) := by
  have e1 : ixb (nI i + 1) n = true := by rw [show nI i + 1 = nI (i + 1) from nI_add i 1]; exact ixb_n (by omega) (by omega)
  have e2 : ixb (nI i + 2) n = true := by rw [show nI i + 2 = nI (i + 2) from nI_add i 2]; exact ixb_n (by omega) (by omega)
  have e3 : ixb (nI i + 3) n = true := by rw [show nI i + 3 = nI (i + 3) from nI_add i 3]; exact ixb_n (by omega) (by omega)
  have e4 : ixb (nI i + 4) n = true := by rw [show nI i + 4 = nI (i + 4) from nI_add i 4]; exact ixb_n (by omega) (by omega)
  have e6 : nI i + 6 = nI (i + 6) := nI_add i 6
  obtain ⟨x, h1, h2, c1, r1, re2⟩ := plan_ok (xs (nC (nI i + 1))) (xs (nC (nI i + 2))) (xs (nC (nI i + 3))) (xs (nC (nI i + 4))) h re
  refine ⟨h2, L, ?_, re2, eL⟩
  unfold JL_law_1114
  simp only [e1, e2, e3, e4, gd_1, c1, r1, Option.bind_some]
  rw [if_pos trivial, e6]
theorem jl_1167 {n i : Nat} {xs : Nat → Int32} {h : HI} {L : HL} (hn : n ≤ 3072) (hi : i + 6 ≤ n) (re : Rel h) (eL : EqL L) : GoOn i (JL_law_1167 n xs (nI i) h L) := by
  have e1 : ixb (nI i + 1) n = true := by rw [show nI i + 1 = nI (i + 1) from nI_add i 1]; exact ixb_n (by omega) (by omega)
  have e2 : ixb (nI i + 2) n = true := by rw [show nI i + 2 = nI (i + 2) from nI_add i 2]; exact ixb_n (by omega) (by omega)
  have e6 : nI i + 6 = nI (i + 6) := nI_add i 6
  obtain ⟨x, h1, h2, c1, r1, re2⟩ := feed_ok (xs (nC (nI i + 1))) (xs (nC (nI i + 2))) h re
  refine ⟨h2, L, ?_, re2, eL⟩
  unfold JL_law_1167
  simp only [e1, e2, gd_1, c1, r1, Option.bind_some]
  rw [if_pos trivial, e6]
theorem jl_1200 {n i : Nat} {xs : Nat → Int32} {h : HI} {L : HL} (hn : n ≤ 3072) (hi : i + 6 ≤ n) (re : Rel h) (eL : EqL L) : GoOn i (JL_law_1200 n xs (nI i) h L) := by
  have e6 : nI i + 6 = nI (i + 6) := nI_add i 6
  obtain ⟨x, h1, h2, c1, r1, re2⟩ := wipe_ok  h re
  refine ⟨h2, L, ?_, re2, eL⟩
  unfold JL_law_1200
  simp only [c1, r1, Option.bind_some]
  rw [if_pos trivial, e6]
theorem jl_1213 {n i : Nat} {xs : Nat → Int32} {h : HI} {L : HL} (hn : n ≤ 3072) (hi : i + 6 ≤ n) (re : Rel h) (eL : EqL L) : GoOn i (JL_law_1213 n xs (nI i) h L) := by
  have e6 : nI i + 6 = nI (i + 6) := nI_add i 6
  obtain ⟨x, h1, h2, c1, r1, re2⟩ := book_ok  h re
  refine ⟨h2, L, ?_, re2, eL⟩
  unfold JL_law_1213
  simp only [c1, r1, Option.bind_some]
  rw [if_pos trivial, e6]
theorem jl_1226 {n i : Nat} {xs : Nat → Int32} {h : HI} {L : HL} (hn : n ≤ 3072) (hi : i + 6 ≤ n) (re : Rel h) (eL : EqL L) : GoOn i (JL_law_1226 n xs (nI i) h L) := by
  have e1 : ixb (nI i + 1) n = true := by rw [show nI i + 1 = nI (i + 1) from nI_add i 1]; exact ixb_n (by omega) (by omega)
  have e2 : ixb (nI i + 2) n = true := by rw [show nI i + 2 = nI (i + 2) from nI_add i 2]; exact ixb_n (by omega) (by omega)
  have e3 : ixb (nI i + 3) n = true := by rw [show nI i + 3 = nI (i + 3) from nI_add i 3]; exact ixb_n (by omega) (by omega)
  have e6 : nI i + 6 = nI (i + 6) := nI_add i 6
  obtain ⟨x, h1, L1, h2, L2, c1, r1, re2, eL2⟩ := sheet_ok (xs (nC (nI i + 1))) (xs (nC (nI i + 2))) (xs (nC (nI i + 3))) h L re eL
  refine ⟨h2, L2, ?_, re2, eL2⟩
  unfold JL_law_1226
  simp only [e1, e2, e3, gd_1, c1, r1, Option.bind_some]
  rw [if_pos trivial, e6]
theorem jl_1269 {n i : Nat} {xs : Nat → Int32} {h : HI} {L : HL} (hn : n ≤ 3072) (hi : i + 6 ≤ n) (re : Rel h) (eL : EqL L) : GoOn i (JL_law_1269 n xs (nI i) h L) := by
  have e1 : ixb (nI i + 1) n = true := by rw [show nI i + 1 = nI (i + 1) from nI_add i 1]; exact ixb_n (by omega) (by omega)
  have e2 : ixb (nI i + 2) n = true := by rw [show nI i + 2 = nI (i + 2) from nI_add i 2]; exact ixb_n (by omega) (by omega)
  have e3 : ixb (nI i + 3) n = true := by rw [show nI i + 3 = nI (i + 3) from nI_add i 3]; exact ixb_n (by omega) (by omega)
  have e4 : ixb (nI i + 4) n = true := by rw [show nI i + 4 = nI (i + 4) from nI_add i 4]; exact ixb_n (by omega) (by omega)
  have e6 : nI i + 6 = nI (i + 6) := nI_add i 6
  obtain ⟨x, h1, L1, h2, L2, c1, r1, re2, eL2⟩ := write_ok (xs (nC (nI i + 1))) (xs (nC (nI i + 2))) (((Int32.toInt64 (xs (nC (nI i + 3)))) <<< (Int32.toInt64 32 &&& 63)) ||| ((Int32.toInt64 (xs (nC (nI i + 4)))) &&& 4294967295)) h L re eL
  refine ⟨h2, L2, ?_, re2, eL2⟩
  unfold JL_law_1269
  simp only [e1, e2, e3, e4, gd_1, c1, r1, Option.bind_some]
  rw [if_pos ((lg_cmp_eq x x).mpr rfl), e6]
theorem jl_1343 {n i : Nat} {xs : Nat → Int32} {h : HI} {L : HL} (hn : n ≤ 3072) (hi : i + 6 ≤ n) (re : Rel h) (eL : EqL L) : GoOn i (JL_law_1343 n xs (nI i) h L) := by
  have e1 : ixb (nI i + 1) n = true := by rw [show nI i + 1 = nI (i + 1) from nI_add i 1]; exact ixb_n (by omega) (by omega)
  have e2 : ixb (nI i + 2) n = true := by rw [show nI i + 2 = nI (i + 2) from nI_add i 2]; exact ixb_n (by omega) (by omega)
  have e3 : ixb (nI i + 3) n = true := by rw [show nI i + 3 = nI (i + 3) from nI_add i 3]; exact ixb_n (by omega) (by omega)
  have e4 : ixb (nI i + 4) n = true := by rw [show nI i + 4 = nI (i + 4) from nI_add i 4]; exact ixb_n (by omega) (by omega)
  have e5 : ixb (nI i + 5) n = true := by rw [show nI i + 5 = nI (i + 5) from nI_add i 5]; exact ixb_n (by omega) (by omega)
  have e6 : nI i + 6 = nI (i + 6) := nI_add i 6
  obtain ⟨x, h1, L1, h2, L2, c1, r1, re2, eL2⟩ := copy_ok (xs (nC (nI i + 1))) (xs (nC (nI i + 2))) (xs (nC (nI i + 3))) (xs (nC (nI i + 4))) (xs (nC (nI i + 5))) h L re eL
  refine ⟨h2, L2, ?_, re2, eL2⟩
  unfold JL_law_1343
  simp only [e1, e2, e3, e4, e5, gd_1, c1, r1, Option.bind_some]
  rw [if_pos trivial, e6]
theorem jl_1406 {n i : Nat} {xs : Nat → Int32} {h : HI} {L : HL} (hn : n ≤ 3072) (hi : i + 6 ≤ n) (re : Rel h) (eL : EqL L) : GoOn i (JL_law_1406 n xs (nI i) h L) := by
  have e1 : ixb (nI i + 1) n = true := by rw [show nI i + 1 = nI (i + 1) from nI_add i 1]; exact ixb_n (by omega) (by omega)
  have e6 : nI i + 6 = nI (i + 6) := nI_add i 6
  obtain ⟨x, h1, h2, c1, r1, re2⟩ := lays_ok (xs (nC (nI i + 1))) L eL h re
  dsimp only at c1 r1
  refine ⟨h2, L, ?_, re2, eL⟩
  unfold JL_law_1406
  simp only [e1, gd_1, c1, r1, Option.bind_some]
  rw [if_pos trivial, e6]
theorem jl_1429 {n i : Nat} {xs : Nat → Int32} {h : HI} {L : HL} (hn : n ≤ 3072) (hi : i + 6 ≤ n) (re : Rel h) (eL : EqL L) : GoOn i (JL_law_1429 n xs (nI i) h L) := by
  have e1 : ixb (nI i + 1) n = true := by rw [show nI i + 1 = nI (i + 1) from nI_add i 1]; exact ixb_n (by omega) (by omega)
  have e6 : nI i + 6 = nI (i + 6) := nI_add i 6
  obtain ⟨x, h1, h2, c1, r1, re2⟩ := read_ok (xs (nC (nI i + 1))) L eL h re
  dsimp only at c1 r1
  refine ⟨h2, L, ?_, re2, eL⟩
  unfold JL_law_1429
  simp only [e1, gd_1, c1, r1, Option.bind_some]
  rw [if_pos trivial, e6]
theorem jl_1452 {n i : Nat} {xs : Nat → Int32} {h : HI} {L : HL} (hn : n ≤ 3072) (hi : i + 6 ≤ n) (re : Rel h) (eL : EqL L) : GoOn i (JL_law_1452 n xs (nI i) h L) := by
  have e6 : nI i + 6 = nI (i + 6) := nI_add i 6
  obtain ⟨x, h1, h2, c1, r1, re2⟩ := image_ok  h re
  refine ⟨h2, L, ?_, re2, eL⟩
  unfold JL_law_1452
  simp only [c1, r1, Option.bind_some]
  rw [if_pos trivial, e6]
theorem jl_1465 {n i : Nat} {xs : Nat → Int32} {h : HI} {L : HL} (hn : n ≤ 3072) (hi : i + 6 ≤ n) (re : Rel h) (eL : EqL L) : GoOn i (JL_law_1465 n xs (nI i) h L) := by
  have e6 : nI i + 6 = nI (i + 6) := nI_add i 6
  obtain ⟨x, h1, h2, c1, r1, re2⟩ := undo_ok  h re
  refine ⟨h2, L, ?_, re2, eL⟩
  unfold JL_law_1465
  simp only [c1, r1, Option.bind_some]
  rw [if_pos trivial, e6]
theorem jl_1478 {n i : Nat} {xs : Nat → Int32} {h : HI} {L : HL} (hn : n ≤ 3072) (hi : i + 6 ≤ n) (re : Rel h) (eL : EqL L) : GoOn i (JL_law_1478 n xs (nI i) h L) := by
  have e6 : nI i + 6 = nI (i + 6) := nI_add i 6
  obtain ⟨x, h1, h2, c1, r1, re2⟩ := tear_ok  h re
  refine ⟨h2, L, ?_, re2, eL⟩
  unfold JL_law_1478
  simp only [c1, r1, Option.bind_some]
  rw [if_pos trivial, e6]
theorem jl_1491 {n i : Nat} {xs : Nat → Int32} {h : HI} {L : HL} (hn : n ≤ 3072) (hi : i + 6 ≤ n) (re : Rel h) (eL : EqL L) : GoOn i (JL_law_1491 n xs (nI i) h L) := by
  have e1 : ixb (nI i + 1) n = true := by rw [show nI i + 1 = nI (i + 1) from nI_add i 1]; exact ixb_n (by omega) (by omega)
  have e6 : nI i + 6 = nI (i + 6) := nI_add i 6
  obtain ⟨x, h1, h2, c1, r1, re2⟩ := count_ok (xs (nC (nI i + 1))) h re
  refine ⟨h2, L, ?_, re2, eL⟩
  unfold JL_law_1491
  simp only [e1, gd_1, c1, r1, Option.bind_some]
  rw [if_pos trivial, e6]
theorem jl_1514 {n i : Nat} {xs : Nat → Int32} {h : HI} {L : HL} (hn : n ≤ 3072) (hi : i + 6 ≤ n) (re : Rel h) (eL : EqL L) : GoOn i (JL_law_1514 n xs (nI i) h L) := by
  have e1 : ixb (nI i + 1) n = true := by rw [show nI i + 1 = nI (i + 1) from nI_add i 1]; exact ixb_n (by omega) (by omega)
  have e6 : nI i + 6 = nI (i + 6) := nI_add i 6
  obtain ⟨x, h1, h2, c1, r1, re2⟩ := status_ok (xs (nC (nI i + 1))) h re
  refine ⟨h2, L, ?_, re2, eL⟩
  unfold JL_law_1514
  simp only [e1, gd_1, c1, r1, Option.bind_some]
  rw [if_pos trivial, e6]
theorem law_step {n i : Nat} {xs : Nat → Int32} {h : HI} {L : HL} (hn : n ≤ 3072) (hi : i + 6 ≤ n) (re : Rel h) (eL : EqL L) : GoOn i (SL_law_18 n xs (nI i, h, L)) := by
  unfold SL_law_18
  dsimp only
  rw [show nI n - 6 = nI (n - 6) from pk_sub (b := 6) (by omega), if_neg (lt_f (by omega) (by omega) (by omega)), gd_ix (show i < n by omega) (by omega), nm_eq]
  generalize xs (nC (nI i)) &&& 63 = t
  by_cases q0 : t = 0
  · rw [if_pos q0]
    exact jl_224 hn hi re eL
  rw [if_neg q0]
  by_cases q1 : t = 1
  · rw [if_pos q1]
    exact jl_277 hn hi re eL
  rw [if_neg q1]
  by_cases q2 : t = 2
  · rw [if_pos q2]
    exact jl_310 hn hi re eL
  rw [if_neg q2]
  by_cases q3 : t = 3
  · rw [if_pos q3]
    exact jl_353 hn hi re eL
  rw [if_neg q3]
  by_cases q4 : t = 4
  · rw [if_pos q4]
    exact jl_386 hn hi re eL
  rw [if_neg q4]
  by_cases q5 : t = 5
  · rw [if_pos q5]
    exact jl_419 hn hi re eL
  rw [if_neg q5]
  by_cases q6 : t = 6
  · rw [if_pos q6]
    exact jl_462 hn hi re eL
  rw [if_neg q6]
  by_cases q7 : t = 7
  · rw [if_pos q7]
    exact jl_495 hn hi re eL
  rw [if_neg q7]
  by_cases q8 : t = 8
  · rw [if_pos q8]
    exact jl_538 hn hi re eL
  rw [if_neg q8]
  by_cases q9 : t = 9
  · rw [if_pos q9]
    exact jl_581 hn hi re eL
  rw [if_neg q9]
  by_cases q10 : t = 10
  · rw [if_pos q10]
    exact jl_614 hn hi re eL
  rw [if_neg q10]
  by_cases q11 : t = 11
  · rw [if_pos q11]
    exact jl_637 hn hi re eL
  rw [if_neg q11]
  by_cases q12 : t = 12
  · rw [if_pos q12]
    exact jl_670 hn hi re eL
  rw [if_neg q12]
  by_cases q13 : t = 13
  · rw [if_pos q13]
    exact jl_703 hn hi re eL
  rw [if_neg q13]
  by_cases q14 : t = 14
  · rw [if_pos q14]
    exact jl_736 hn hi re eL
  rw [if_neg q14]
  by_cases q15 : t = 15
  · rw [if_pos q15]
    exact jl_759 hn hi re eL
  rw [if_neg q15]
  by_cases q16 : t = 16
  · rw [if_pos q16]
    exact jl_782 hn hi re eL
  rw [if_neg q16]
  by_cases q17 : t = 17
  · rw [if_pos q17]
    exact jl_805 hn hi re eL
  rw [if_neg q17]
  by_cases q18 : t = 18
  · rw [if_pos q18]
    exact jl_828 hn hi re eL
  rw [if_neg q18]
  by_cases q19 : t = 19
  · rw [if_pos q19]
    exact jl_851 hn hi re eL
  rw [if_neg q19]
  by_cases q20 : t = 20
  · rw [if_pos q20]
    exact jl_874 hn hi re eL
  rw [if_neg q20]
  by_cases q21 : t = 21
  · rw [if_pos q21]
    exact jl_907 hn hi re eL
  rw [if_neg q21]
  by_cases q22 : t = 22
  · rw [if_pos q22]
    exact jl_930 hn hi re eL
  rw [if_neg q22]
  by_cases q23 : t = 23
  · rw [if_pos q23]
    exact jl_953 hn hi re eL
  rw [if_neg q23]
  by_cases q24 : t = 24
  · rw [if_pos q24]
    exact jl_966 hn hi re eL
  rw [if_neg q24]
  by_cases q25 : t = 25
  · rw [if_pos q25]
    exact jl_989 hn hi re eL
  rw [if_neg q25]
  by_cases q26 : t = 26
  · rw [if_pos q26]
    exact jl_1012 hn hi re eL
  rw [if_neg q26]
  by_cases q27 : t = 27
  · rw [if_pos q27]
    exact jl_1045 hn hi re eL
  rw [if_neg q27]
  by_cases q28 : t = 28
  · rw [if_pos q28]
    exact jl_1068 hn hi re eL
  rw [if_neg q28]
  by_cases q29 : t = 29
  · rw [if_pos q29]
    exact jl_1091 hn hi re eL
  rw [if_neg q29]
  by_cases q30 : t = 30
  · rw [if_pos q30]
    exact jl_1114 hn hi re eL
  rw [if_neg q30]
  by_cases q31 : t = 31
  · rw [if_pos q31]
    exact jl_1167 hn hi re eL
  rw [if_neg q31]
  by_cases q32 : t = 32
  · rw [if_pos q32]
    exact jl_1200 hn hi re eL
  rw [if_neg q32]
  by_cases q33 : t = 33
  · rw [if_pos q33]
    exact jl_1213 hn hi re eL
  rw [if_neg q33]
  by_cases q34 : t = 34
  · rw [if_pos q34]
    exact jl_1226 hn hi re eL
  rw [if_neg q34]
  by_cases q35 : t = 35
  · rw [if_pos q35]
    exact jl_1269 hn hi re eL
  rw [if_neg q35]
  by_cases q36 : t = 36
  · rw [if_pos q36]
    exact jl_1343 hn hi re eL
  rw [if_neg q36]
  by_cases q37 : t = 37
  · rw [if_pos q37]
    exact jl_1406 hn hi re eL
  rw [if_neg q37]
  by_cases q38 : t = 38
  · rw [if_pos q38]
    exact jl_1429 hn hi re eL
  rw [if_neg q38]
  by_cases q39 : t = 39
  · rw [if_pos q39]
    exact jl_1452 hn hi re eL
  rw [if_neg q39]
  by_cases q40 : t = 40
  · rw [if_pos q40]
    exact jl_1465 hn hi re eL
  rw [if_neg q40]
  by_cases q41 : t = 41
  · rw [if_pos q41]
    exact jl_1478 hn hi re eL
  rw [if_neg q41]
  by_cases q42 : t = 42
  · rw [if_pos q42]
    exact jl_1491 hn hi re eL
  rw [if_neg q42]
  by_cases q43 : t = 43
  · rw [if_pos q43]
    exact jl_1514 hn hi re eL
  rw [if_neg q43]
  exact ⟨h, L, by rw [show nI i + 6 = nI (i + 6) from nI_add i 6], re, eL⟩
theorem rel_00 : Rel h00 := by
  have e0 : vw (h00 0) = tk (h00 8 33) := by
    funext i
    by_cases c : i < 150
    · have : ∀ i, i < 150 → vw (h00 0) i = tk (h00 8 33) i := by decide +kernel
      exact this i c
    · rw [vw_big (by omega), tk_big (by omega)]
  refine ⟨row_ext e0 rfl rfl rfl rfl rfl rfl rfl (fun i => rfl), ?_⟩
  refine ⟨⟨0, 0, 0, 0, 0, ⟨rfl, by decide, rfl, by decide, fun p hp => by omega, fun p hp => by omega, ⟨60, by decide, by decide, rfl⟩⟩, ⟨rfl, by decide, fun i hi => by omega, fun i j hi => by omega⟩, rfl, by decide, rfl, by decide⟩, Or.inl rfl, ⟨0, rfl, by decide, fun i hi => by omega⟩, fun s hs => ⟨Or.inl ?_, ⟨0, by decide, by decide, ?_⟩⟩⟩
  · exact cut_lt hs
  · exact cut_lt hs
theorem law_all (n : Nat) (xs : Nat → Int32) (hn : n ≤ 3072) : ∃ k, loopN (SL_law_18 n xs) k (0, h00, L00) = some 1 := by
  refine ⟨n + 1, ?_⟩
  have key : ∃ r, loopN (SL_law_18 n xs) (n + 1) (0, h00, L00) = some r ∧ r = 1 := by
    refine gloop (f := SL_law_18 n xs) (fun j (s : Int32 × HI × HL) => s.1 = nI (6 * j) ∧ 6 * j ≤ n ∧ Rel s.2.1 ∧ EqL s.2.2) (fun r => r = 1) n ?_ (k := n + 1) (by omega) (s0 := (0, h00, L00)) ⟨rfl, by omega, rel_00, fun _ _ => rfl⟩
    rintro j ⟨a, h, L⟩ hj ⟨rfl, i1, i2, i3⟩
    dsimp only at i2 i3
    by_cases c : 6 * j + 6 ≤ n
    · obtain ⟨h', L', s1, s2, s3⟩ := law_step (xs := xs) hn c i2 i3
      exact Or.inl ⟨by omega, _, s1, rfl, by omega, s2, s3⟩
    · refine Or.inr ⟨1, ?_, rfl⟩
      unfold SL_law_18
      dsimp only
      rw [if_pos]
      show nI n - nI 6 < nI (6 * j)
      by_cases d : 6 ≤ n
      · rw [pk_sub d]
        exact lt_t (by omega) (by omega) (by omega)
      · exact Int32.lt_of_lt_of_le (pk_sneg (by decide) (by omega)) (nn (by omega))
  obtain ⟨r, k1, rfl⟩ := key
  exact k1
