-- THE START: static arrays, texts and tables as the Statement gives them
section Start
variable {s : State} {args : Array Value}
theorem sn0 (hts : ∀ w ∈ lw_tbl, w.before args s = true) : va_Nw (.methodLinkNest RX9 15 yX0_init RX9) s := va_Nw.of rfl (hts _ (List.mem_of_getElem? (i := 95) (by decide +kernel)))
theorem sn1 (hts : ∀ w ∈ lw_tbl, w.before args s = true) : va_Nw (.methodLinkNest RX0 11 yX5_init RX9) s := va_Nw.of rfl (hts _ (List.mem_of_getElem? (i := 101) (by decide +kernel)))
theorem sn2 (hts : ∀ w ∈ lw_tbl, w.before args s = true) : va_Nw (.methodLinkNest RX0 20 yX8_init RX9) s := va_Nw.of rfl (hts _ (List.mem_of_getElem? (i := 147) (by decide +kernel)))
theorem sn3 (hts : ∀ w ∈ lw_tbl, w.before args s = true) : va_Nw (.methodLinkNest RX0 27 yX3_init RX9) s := va_Nw.of rfl (hts _ (List.mem_of_getElem? (i := 183) (by decide +kernel)))
theorem sn4 (hts : ∀ w ∈ lw_tbl, w.before args s = true) : va_Nw (.methodLinkNest RX9 29 yX1_init RX9) s := va_Nw.of rfl (hts _ (List.mem_of_getElem? (i := 235) (by decide +kernel)))
theorem sn5 (hts : ∀ w ∈ lw_tbl, w.before args s = true) : va_Nw (.methodLinkNest RX9 36 yX4_init RX9) s := va_Nw.of rfl (hts _ (List.mem_of_getElem? (i := 269) (by decide +kernel)))
theorem sn6 (hts : ∀ w ∈ lw_tbl, w.before args s = true) : va_Nw (.methodLinkNest RX4 11 yX0_init RX9) s := va_Nw.of rfl (hts _ (List.mem_of_getElem? (i := 274) (by decide +kernel)))
theorem sn7 (hts : ∀ w ∈ lw_tbl, w.before args s = true) : va_Nw (.methodLinkNest RX9 43 yX2_init RX9) s := va_Nw.of rfl (hts _ (List.mem_of_getElem? (i := 282) (by decide +kernel)))
theorem sn8 (hts : ∀ w ∈ lw_tbl, w.before args s = true) : va_Nw (.methodLinkNest RX2 11 yX7_init RX9) s := va_Nw.of rfl (hts _ (List.mem_of_getElem? (i := 288) (by decide +kernel)))
theorem sn9 (hts : ∀ w ∈ lw_tbl, w.before args s = true) : va_Nw (.methodLinkNest RX9 50 yX6_init RX9) s := va_Nw.of rfl (hts _ (List.mem_of_getElem? (i := 322) (by decide +kernel)))
theorem sn10 (hts : ∀ w ∈ lw_tbl, w.before args s = true) : va_Nw (.methodLinkNest RX5 40 yX9_within RX9) s := va_Nw.of rfl (hts _ (List.mem_of_getElem? (i := 421) (by decide +kernel)))
theorem sn11 (hts : ∀ w ∈ lw_tbl, w.before args s = true) : va_Nw (.methodLinkNest RX8 34 yX9_within RX9) s := va_Nw.of rfl (hts _ (List.mem_of_getElem? (i := 474) (by decide +kernel)))
theorem sn12 (hts : ∀ w ∈ lw_tbl, w.before args s = true) : va_Nw (.methodLinkNest RX5 47 yX9_isIn RX9) s := va_Nw.of rfl (hts _ (List.mem_of_getElem? (i := 487) (by decide +kernel)))
theorem sn13 (hts : ∀ w ∈ lw_tbl, w.before args s = true) : va_Nw (.methodLinkNest RX0 65 yX9_isIn RX9) s := va_Nw.of rfl (hts _ (List.mem_of_getElem? (i := 503) (by decide +kernel)))
theorem sn14 (hts : ∀ w ∈ lw_tbl, w.before args s = true) : va_Nw (.methodLinkNest RX0 73 yX9_metFrom RX9) s := va_Nw.of rfl (hts _ (List.mem_of_getElem? (i := 509) (by decide +kernel)))
theorem sn15 (hts : ∀ w ∈ lw_tbl, w.before args s = true) : va_Nw (.methodLinkNest RX1 73 yX9_isIn RX9) s := va_Nw.of rfl (hts _ (List.mem_of_getElem? (i := 533) (by decide +kernel)))
theorem sn16 (hts : ∀ w ∈ lw_tbl, w.before args s = true) : va_Nw (.methodLinkNest RX1 70 yX9_metFrom RX9) s := va_Nw.of rfl (hts _ (List.mem_of_getElem? (i := 534) (by decide +kernel)))
theorem sn17 (hts : ∀ w ∈ lw_tbl, w.before args s = true) : va_Nw (.methodLinkNest RX2 146 yX9_within RX9) s := va_Nw.of rfl (hts _ (List.mem_of_getElem? (i := 909) (by decide +kernel)))
theorem sn_all (hts : ∀ w ∈ lw_tbl, w.before args s = true) : ∀ q ∈ nestL, va_Nw (.methodLinkNest q.1 q.2.1 q.2.2.1 q.2.2.2) s := by
  unfold nestL
  exact List.forall_mem_cons.mpr ⟨sn0 hts, List.forall_mem_cons.mpr ⟨sn1 hts, List.forall_mem_cons.mpr ⟨sn2 hts, List.forall_mem_cons.mpr ⟨sn3 hts, List.forall_mem_cons.mpr ⟨sn4 hts, List.forall_mem_cons.mpr ⟨sn5 hts, List.forall_mem_cons.mpr ⟨sn6 hts, List.forall_mem_cons.mpr ⟨sn7 hts, List.forall_mem_cons.mpr ⟨sn8 hts, List.forall_mem_cons.mpr ⟨sn9 hts, List.forall_mem_cons.mpr ⟨sn10 hts, List.forall_mem_cons.mpr ⟨sn11 hts, List.forall_mem_cons.mpr ⟨sn12 hts, List.forall_mem_cons.mpr ⟨sn13 hts, List.forall_mem_cons.mpr ⟨sn14 hts, List.forall_mem_cons.mpr ⟨sn15 hts, List.forall_mem_cons.mpr ⟨sn16 hts, List.forall_mem_cons.mpr ⟨sn17 hts, fun _ h => absurd h List.not_mem_nil⟩⟩⟩⟩⟩⟩⟩⟩⟩⟩⟩⟩⟩⟩⟩⟩⟩⟩
theorem ss0 (hts : ∀ w ∈ lw_tbl, w.before args s = true) (hg : ∀ c ∈ flatC (Jvm.Cond.and given_1 narrow_1), c.before args s = true) : ∃ t : Nat, va_Z RX5 "ABOVE" "[I" (.ref t) (fun q => s.heap.size ≤ q) s s.heap ∧ va_T .int t 6 (fun i => .int (([-1, 0, 0, 1, 2, 0] : List Int32).getD i 0)) (fun q => s.heap.size ≤ q) s s.heap := by
  have hA : ∀ a : Nat, a < s.heap.size → ¬ (fun q => s.heap.size ≤ q) a := fun a h => Nat.not_le.mpr h
  have hel : ∀ j : Fin 6, (Cond.eq (.elem (Term.static "TwentyPhrases$Phrases" "ABOVE" "[I") (.int (Int32.ofNat j.val))) (.int (([-1, 0, 0, 1, 2, 0] : List Int32).getD j.val 0))) ∈ flatC (Jvm.Cond.and given_1 narrow_1) := by decide +kernel
  obtain ⟨t, h1, h2⟩ := va_Tof (tm := (Term.static "TwentyPhrases$Phrases" "ABOVE" "[I")) (ty := .int) (N := 6) (f := fun i => .int (([-1, 0, 0, 1, 2, 0] : List Int32).getD i 0)) (by decide) (hg _ (by decide +kernel)) (va_eqt (z := Int32.ofNat 6) (hg _ (by decide +kernel))) (fun j hj => va_eqt (hg _ (hel ⟨j, hj⟩))) hA
  exact ⟨t, va_Zof (hts _ (List.mem_of_getElem? (i := 438) (by decide +kernel))) (hts _ (List.mem_of_getElem? (i := 69) (by decide +kernel))) h1 hA, h2⟩
theorem ss1 (hts : ∀ w ∈ lw_tbl, w.before args s = true) (hg : ∀ c ∈ flatC (Jvm.Cond.and given_1 narrow_1), c.before args s = true) : ∃ t : Nat, va_Z RX5 "LEAST" "[I" (.ref t) (fun q => s.heap.size ≤ q) s s.heap ∧ va_T .int t 5 (fun i => .int (([0, 0, 1, 0, 0] : List Int32).getD i 0)) (fun q => s.heap.size ≤ q) s s.heap := by
  have hA : ∀ a : Nat, a < s.heap.size → ¬ (fun q => s.heap.size ≤ q) a := fun a h => Nat.not_le.mpr h
  have hel : ∀ j : Fin 5, (Cond.eq (.elem (Term.static "TwentyPhrases$Phrases" "LEAST" "[I") (.int (Int32.ofNat j.val))) (.int (([0, 0, 1, 0, 0] : List Int32).getD j.val 0))) ∈ flatC (Jvm.Cond.and given_1 narrow_1) := by decide +kernel
  obtain ⟨t, h1, h2⟩ := va_Tof (tm := (Term.static "TwentyPhrases$Phrases" "LEAST" "[I")) (ty := .int) (N := 5) (f := fun i => .int (([0, 0, 1, 0, 0] : List Int32).getD i 0)) (by decide) (hg _ (by decide +kernel)) (va_eqt (z := Int32.ofNat 5) (hg _ (by decide +kernel))) (fun j hj => va_eqt (hg _ (hel ⟨j, hj⟩))) hA
  exact ⟨t, va_Zof (hts _ (List.mem_of_getElem? (i := 420) (by decide +kernel))) (hts _ (List.mem_of_getElem? (i := 69) (by decide +kernel))) h1 hA, h2⟩
theorem ss2 (hts : ∀ w ∈ lw_tbl, w.before args s = true) (hg : ∀ c ∈ flatC (Jvm.Cond.and given_1 narrow_1), c.before args s = true) : ∃ t : Nat, va_Z RX5 "MOST" "[I" (.ref t) (fun q => s.heap.size ≤ q) s s.heap ∧ va_T .int t 5 (fun i => .int (([5, 9, 60, 10, 100] : List Int32).getD i 0)) (fun q => s.heap.size ≤ q) s s.heap := by
  have hA : ∀ a : Nat, a < s.heap.size → ¬ (fun q => s.heap.size ≤ q) a := fun a h => Nat.not_le.mpr h
  have hel : ∀ j : Fin 5, (Cond.eq (.elem (Term.static "TwentyPhrases$Phrases" "MOST" "[I") (.int (Int32.ofNat j.val))) (.int (([5, 9, 60, 10, 100] : List Int32).getD j.val 0))) ∈ flatC (Jvm.Cond.and given_1 narrow_1) := by decide +kernel
  obtain ⟨t, h1, h2⟩ := va_Tof (tm := (Term.static "TwentyPhrases$Phrases" "MOST" "[I")) (ty := .int) (N := 5) (f := fun i => .int (([5, 9, 60, 10, 100] : List Int32).getD i 0)) (by decide) (hg _ (by decide +kernel)) (va_eqt (z := Int32.ofNat 5) (hg _ (by decide +kernel))) (fun j hj => va_eqt (hg _ (hel ⟨j, hj⟩))) hA
  exact ⟨t, va_Zof (hts _ (List.mem_of_getElem? (i := 418) (by decide +kernel))) (hts _ (List.mem_of_getElem? (i := 69) (by decide +kernel))) h1 hA, h2⟩
theorem ss3 (hts : ∀ w ∈ lw_tbl, w.before args s = true) (hg : ∀ c ∈ flatC (Jvm.Cond.and given_1 narrow_1), c.before args s = true) : ∃ t : Nat, va_Z RX8 "MOST" "[I" (.ref t) (fun q => s.heap.size ≤ q) s s.heap ∧ va_T .int t 5 (fun i => .int (([9, 99, 99, 1, 1] : List Int32).getD i 0)) (fun q => s.heap.size ≤ q) s s.heap := by
  have hA : ∀ a : Nat, a < s.heap.size → ¬ (fun q => s.heap.size ≤ q) a := fun a h => Nat.not_le.mpr h
  have hel : ∀ j : Fin 5, (Cond.eq (.elem (Term.static "TwentyPhrases$Wants" "MOST" "[I") (.int (Int32.ofNat j.val))) (.int (([9, 99, 99, 1, 1] : List Int32).getD j.val 0))) ∈ flatC (Jvm.Cond.and given_1 narrow_1) := by decide +kernel
  obtain ⟨t, h1, h2⟩ := va_Tof (tm := (Term.static "TwentyPhrases$Wants" "MOST" "[I")) (ty := .int) (N := 5) (f := fun i => .int (([9, 99, 99, 1, 1] : List Int32).getD i 0)) (by decide) (hg _ (by decide +kernel)) (va_eqt (z := Int32.ofNat 5) (hg _ (by decide +kernel))) (fun j hj => va_eqt (hg _ (hel ⟨j, hj⟩))) hA
  exact ⟨t, va_Zof (hts _ (List.mem_of_getElem? (i := 473) (by decide +kernel))) (hts _ (List.mem_of_getElem? (i := 70) (by decide +kernel))) h1 hA, h2⟩
theorem ss4 (hts : ∀ w ∈ lw_tbl, w.before args s = true) (hg : ∀ c ∈ flatC (Jvm.Cond.and given_1 narrow_1), c.before args s = true) : ∃ t : Nat, va_Z RX3 "FACTORIAL" "[I" (.ref t) (fun q => s.heap.size ≤ q) s s.heap ∧ va_T .int t 6 (fun i => .int (([1, 1, 2, 6, 24, 120] : List Int32).getD i 0)) (fun q => s.heap.size ≤ q) s s.heap := by
  have hA : ∀ a : Nat, a < s.heap.size → ¬ (fun q => s.heap.size ≤ q) a := fun a h => Nat.not_le.mpr h
  have hel : ∀ j : Fin 6, (Cond.eq (.elem (Term.static "TwentyPhrases$Order" "FACTORIAL" "[I") (.int (Int32.ofNat j.val))) (.int (([1, 1, 2, 6, 24, 120] : List Int32).getD j.val 0))) ∈ flatC (Jvm.Cond.and given_1 narrow_1) := by decide +kernel
  obtain ⟨t, h1, h2⟩ := va_Tof (tm := (Term.static "TwentyPhrases$Order" "FACTORIAL" "[I")) (ty := .int) (N := 6) (f := fun i => .int (([1, 1, 2, 6, 24, 120] : List Int32).getD i 0)) (by decide) (hg _ (by decide +kernel)) (va_eqt (z := Int32.ofNat 6) (hg _ (by decide +kernel))) (fun j hj => va_eqt (hg _ (hel ⟨j, hj⟩))) hA
  exact ⟨t, va_Zof (hts _ (List.mem_of_getElem? (i := 764) (by decide +kernel))) (hts _ (List.mem_of_getElem? (i := 71) (by decide +kernel))) h1 hA, h2⟩
theorem ss_all (hts : ∀ w ∈ lw_tbl, w.before args s = true) (hg : ∀ c ∈ flatC (Jvm.Cond.and given_1 narrow_1), c.before args s = true) : ∃ t : Nat → Nat, ∀ (j : Nat) (q : String × String × List Int32), statL[j]? = some q → va_Z q.1 q.2.1 "[I" (.ref (t j)) (fun q => s.heap.size ≤ q) s s.heap ∧ va_T .int (t j) q.2.2.length (fun i => .int (q.2.2.getD i 0)) (fun q => s.heap.size ≤ q) s s.heap := by
  obtain ⟨t0, h0⟩ := ss0 hts hg
  obtain ⟨t1, h1⟩ := ss1 hts hg
  obtain ⟨t2, h2⟩ := ss2 hts hg
  obtain ⟨t3, h3⟩ := ss3 hts hg
  obtain ⟨t4, h4⟩ := ss4 hts hg
  refine ⟨fun j => [t0, t1, t2, t3, t4].getD j 0, fun j q hj => ?_⟩
  match j, hj with
  | 0, hj => cases hj; exact h0
  | 1, hj => cases hj; exact h1
  | 2, hj => cases hj; exact h2
  | 3, hj => cases hj; exact h3
  | 4, hj => cases hj; exact h4
  | k + 5, hj => simp [statL] at hj
def strT (i : Nat) : Term := .string "TwentyPhrases$Grammar" ((strL.getD i (0, "")).1)
def sBl : List Nat := [51, 61, 71, 81, 94, 109, 124, 141, 157, 173, 191, 208, 228, 249, 270]
def sPl : List (List Nat) := [[0, 70, 79, 91, 105, 119, 135, 150, 165, 182, 198, 217, 237, 257, 279], [70, 0, 80, 92, 106, 120, 136, 151, 166, 183, 199, 218, 238, 258, 280], [79, 80, 0, 93, 107, 121, 137, 152, 167, 184, 200, 219, 239, 259, 281], [91, 92, 93, 0, 108, 122, 138, 153, 168, 185, 201, 220, 240, 260, 282], [105, 106, 107, 108, 0, 123, 139, 154, 169, 186, 202, 221, 241, 261, 283], [119, 120, 121, 122, 123, 0, 140, 155, 170, 187, 203, 222, 242, 262, 284], [135, 136, 137, 138, 139, 140, 0, 156, 171, 188, 204, 223, 243, 263, 285], [150, 151, 152, 153, 154, 155, 156, 0, 172, 189, 205, 224, 244, 264, 286], [165, 166, 167, 168, 169, 170, 171, 172, 0, 190, 206, 225, 245, 265, 287], [182, 183, 184, 185, 186, 187, 188, 189, 190, 0, 207, 226, 246, 266, 288], [198, 199, 200, 201, 202, 203, 204, 205, 206, 207, 0, 227, 247, 267, 289], [217, 218, 219, 220, 221, 222, 223, 224, 225, 226, 227, 0, 248, 268, 290], [237, 238, 239, 240, 241, 242, 243, 244, 245, 246, 247, 248, 0, 269, 291], [257, 258, 259, 260, 261, 262, 263, 264, 265, 266, 267, 268, 269, 0, 292], [279, 280, 281, 282, 283, 284, 285, 286, 287, 288, 289, 290, 291, 292, 0]]
def sOl : List (List Bool) := [[false, true, true, true, true, true, true, true, true, true, true, true, true, true, true], [false, false, true, true, true, true, true, true, true, true, true, true, true, true, true], [false, false, false, true, true, true, true, true, true, true, true, true, true, true, true], [false, false, false, false, true, true, true, true, true, true, true, true, true, true, true], [false, false, false, false, false, true, true, true, true, true, true, true, true, true, true], [false, false, false, false, false, false, true, true, true, true, true, true, true, true, true], [false, false, false, false, false, false, false, true, true, true, true, true, true, true, true], [false, false, false, false, false, false, false, false, true, true, true, true, true, true, true], [false, false, false, false, false, false, false, false, false, true, true, true, true, true, true], [false, false, false, false, false, false, false, false, false, false, true, true, true, true, true], [false, false, false, false, false, false, false, false, false, false, false, true, true, true, true], [false, false, false, false, false, false, false, false, false, false, false, false, true, true, true], [false, false, false, false, false, false, false, false, false, false, false, false, false, true, true], [false, false, false, false, false, false, false, false, false, false, false, false, false, false, true], [false, false, false, false, false, false, false, false, false, false, false, false, false, false, false]]
theorem st_str (hg : ∀ c ∈ flatC (Jvm.Cond.and given_1 narrow_1), c.before args s = true) : ∃ adK adV : Nat → Nat, vk_S 15 lenS bytS adK adV (fun q => s.heap.size ≤ q) s s.heap ∧ ∀ i : Nat, i < 15 → (strT i).eval args s none [] s = some (.ref (adK i)) := by
  have hA : ∀ a : Nat, a < s.heap.size → ¬ (fun q => s.heap.size ≤ q) a := fun a h => Nat.not_le.mpr h
  have m1 : ∀ i : Fin 15, (flatC (Jvm.Cond.and given_1 narrow_1))[sBl.getD i.val 0]? = some (Cond.exactly (strT i.val) "java/lang/String") := by decide +kernel
  have m2 : ∀ i : Fin 15, (flatC (Jvm.Cond.and given_1 narrow_1))[sBl.getD i.val 0 + 1]? = some (Cond.eq (.field (strT i.val) "java/lang/String" "coder" "B") (.int 0)) := by decide +kernel
  have m3 : ∀ i : Fin 15, (flatC (Jvm.Cond.and given_1 narrow_1))[sBl.getD i.val 0 + 2]? = some (Cond.arrayOf (.field (strT i.val) "java/lang/String" "value" "[B") .byte) := by decide +kernel
  have m4 : ∀ i : Fin 15, (flatC (Jvm.Cond.and given_1 narrow_1))[sBl.getD i.val 0 + 3]? = some (Cond.eq (.length (.field (strT i.val) "java/lang/String" "value" "[B")) (.int (Int32.ofNat (lenS.getD i.val 0)))) := by decide +kernel
  have m5 : ∀ i : Fin 15, ∀ j : Fin 8, j.val < lenS.getD i.val 0 → (flatC (Jvm.Cond.and given_1 narrow_1))[sBl.getD i.val 0 + 4 + j.val]? = some (Cond.eq (.elem (.field (strT i.val) "java/lang/String" "value" "[B") (.int (Int32.ofNat j.val))) (.int ((bytS.getD i.val []).getD j.val 0))) := by decide +kernel
  have m6 : ∀ i j : Fin 15, i ≠ j → (flatC (Jvm.Cond.and given_1 narrow_1))[(sPl.getD i.val []).getD j.val 0]? = some (if (sOl.getD i.val []).getD j.val false = true then Cond.not (Cond.eq (strT i.val) (strT j.val)) else Cond.not (Cond.eq (strT j.val) (strT i.val))) := by decide +kernel
  have ml : ∀ i : Fin 15, lenS.getD i.val 0 < 8 := by decide +kernel
  refine vk_Sof (tm := strT) (fun i _ => len_lt i) (fun i hi => hg _ (List.mem_of_getElem? (m1 ⟨i, hi⟩))) (fun i hi => hg _ (List.mem_of_getElem? (m2 ⟨i, hi⟩))) (fun i hi => hg _ (List.mem_of_getElem? (m3 ⟨i, hi⟩))) (fun i hi => hg _ (List.mem_of_getElem? (m4 ⟨i, hi⟩))) (fun i hi j hj => hg _ (List.mem_of_getElem? (m5 ⟨i, hi⟩ ⟨j, Nat.lt_trans hj (ml ⟨i, hi⟩)⟩ hj))) (fun i j hi hj hne => ?_) hA
  have z := hg _ (List.mem_of_getElem? (m6 ⟨i, hi⟩ ⟨j, hj⟩ (fun z => hne (Fin.mk.inj z))))
  split at z
  · exact Or.inl z
  · exact Or.inr z
theorem sr_all (hts : ∀ w ∈ lw_tbl, w.before args s = true) {ad : Nat → Nat} (he : ∀ i : Nat, i < 15 → (strT i).eval args s none [] s = some (.ref (ad i))) : ∀ (i : Nat) (q : Nat × String), strL[i]? = some q → (Cond.stringRef RX2 q.1 q.2).before args s = true ∧ (Term.string RX2 q.1).eval args s none [] s = some (.ref (ad i)) := by
  intro i q hq
  match i, hq with
  | 0, hq => cases hq; exact ⟨hts _ (List.mem_of_getElem? (i := 841) (by decide +kernel)), he 0 (by decide)⟩
  | 1, hq => cases hq; exact ⟨hts _ (List.mem_of_getElem? (i := 894) (by decide +kernel)), he 1 (by decide)⟩
  | 2, hq => cases hq; exact ⟨hts _ (List.mem_of_getElem? (i := 895) (by decide +kernel)), he 2 (by decide)⟩
  | 3, hq => cases hq; exact ⟨hts _ (List.mem_of_getElem? (i := 896) (by decide +kernel)), he 3 (by decide)⟩
  | 4, hq => cases hq; exact ⟨hts _ (List.mem_of_getElem? (i := 897) (by decide +kernel)), he 4 (by decide)⟩
  | 5, hq => cases hq; exact ⟨hts _ (List.mem_of_getElem? (i := 898) (by decide +kernel)), he 5 (by decide)⟩
  | 6, hq => cases hq; exact ⟨hts _ (List.mem_of_getElem? (i := 910) (by decide +kernel)), he 6 (by decide)⟩
  | 7, hq => cases hq; exact ⟨hts _ (List.mem_of_getElem? (i := 915) (by decide +kernel)), he 7 (by decide)⟩
  | 8, hq => cases hq; exact ⟨hts _ (List.mem_of_getElem? (i := 917) (by decide +kernel)), he 8 (by decide)⟩
  | 9, hq => cases hq; exact ⟨hts _ (List.mem_of_getElem? (i := 923) (by decide +kernel)), he 9 (by decide)⟩
  | 10, hq => cases hq; exact ⟨hts _ (List.mem_of_getElem? (i := 924) (by decide +kernel)), he 10 (by decide)⟩
  | 11, hq => cases hq; exact ⟨hts _ (List.mem_of_getElem? (i := 926) (by decide +kernel)), he 11 (by decide)⟩
  | 12, hq => cases hq; exact ⟨hts _ (List.mem_of_getElem? (i := 927) (by decide +kernel)), he 12 (by decide)⟩
  | 13, hq => cases hq; exact ⟨hts _ (List.mem_of_getElem? (i := 928) (by decide +kernel)), he 13 (by decide)⟩
  | 14, hq => cases hq; exact ⟨hts _ (List.mem_of_getElem? (i := 933) (by decide +kernel)), he 14 (by decide)⟩
  | k + 15, hq => simp [strL] at hq
theorem st_cmp (hts : ∀ w ∈ lw_tbl, w.before args s = true) (hg : ∀ c ∈ flatC (Jvm.Cond.and given_1 narrow_1), c.before args s = true) : va_Z "java/lang/String" "COMPACT_STRINGS" "Z" (.int 1) (fun q => s.heap.size ≤ q) s s.heap :=
  va_Zof (hts _ (List.mem_of_getElem? (i := 855) (by decide +kernel))) (hts _ (List.mem_of_getElem? (i := 81) (by decide +kernel))) (va_eqt (hg _ (by decide +kernel))) (fun a h => Nat.not_le.mpr h)
theorem st_fmt (hts : ∀ w ∈ lw_tbl, w.before args s = true) (hg : ∀ c ∈ flatC (Jvm.Cond.and given_1 narrow_1), c.before args s = true) : va_Zq "jdk/internal/util/Preconditions" "SIOOBE_FORMATTER" "Ljava/util/function/BiFunction;" (fun q => s.heap.size ≤ q) s s.heap :=
  va_Zqof (hts _ (List.mem_of_getElem? (i := 871) (by decide +kernel))) (hts _ (List.mem_of_getElem? (i := 83) (by decide +kernel))) (hg _ (by decide +kernel)) (fun a h => Nat.not_le.mpr h)
theorem st_cls (hts : ∀ w ∈ lw_tbl, w.before args s = true) : ∃ D : va_G, ∀ (k : Nat) (q : vw_C), vwCl[k]? = some q → u_Kn s q.1 q.2.1 q.2.2 (D.1 k) (D.2 k) := by
  have hgw : ∀ w ∈ gw, w.before args s = true := fun w hw => hts w (List.mem_filter.mp hw).1
  obtain ⟨c0, i0, h0⟩ := u_known (C := RX0) (T := TX0) (N := 6) (n := 6) hgw inX0 (hts _ (List.mem_of_getElem? (i := 94) (by decide +kernel)))
  obtain ⟨c1, i1, h1⟩ := u_known (C := RX1) (T := TX1) (N := 9) (n := 9) hgw inX1 (hts _ (List.mem_of_getElem? (i := 234) (by decide +kernel)))
  obtain ⟨c2, i2, h2⟩ := u_known (C := RX2) (T := TX2) (N := 1) (n := 1) hgw inX2 (hts _ (List.mem_of_getElem? (i := 281) (by decide +kernel)))
  obtain ⟨c3, i3, h3⟩ := u_known (C := RX3) (T := TX3) (N := 2) (n := 2) hgw inX3 (hts _ (List.mem_of_getElem? (i := 182) (by decide +kernel)))
  obtain ⟨c4, i4, h4⟩ := u_known (C := RX4) (T := TX4) (N := 1) (n := 1) hgw inX4 (hts _ (List.mem_of_getElem? (i := 268) (by decide +kernel)))
  obtain ⟨c5, i5, h5⟩ := u_known (C := RX5) (T := TX5) (N := 7) (n := 7) hgw inX5 (hts _ (List.mem_of_getElem? (i := 100) (by decide +kernel)))
  obtain ⟨c6, i6, h6⟩ := u_known (C := RX6) (T := TX6) (N := 3) (n := 3) hgw inX6 (hts _ (List.mem_of_getElem? (i := 321) (by decide +kernel)))
  obtain ⟨c7, i7, h7⟩ := u_known (C := RX7) (T := TX7) (N := 6) (n := 6) hgw inX7 (hts _ (List.mem_of_getElem? (i := 287) (by decide +kernel)))
  obtain ⟨c8, i8, h8⟩ := u_known (C := RX8) (T := TX8) (N := 6) (n := 6) hgw inX8 (hts _ (List.mem_of_getElem? (i := 146) (by decide +kernel)))
  obtain ⟨c9, i9, h9⟩ := u_known (C := RX9) (T := TX9) (N := 8) (n := 8) hgw inX9 (hts _ (List.mem_of_getElem? (i := 86) (by decide +kernel)))
  obtain ⟨c10, i10, h10⟩ := u_known (C := RX10) (T := TX10) (N := 21) (n := 21) hgw inX10 (hts _ (List.mem_of_getElem? (i := 1022) (by decide +kernel)))
  refine ⟨(fun k => [c0, c1, c2, c3, c4, c5, c6, c7, c8, c9, c10].getD k c0, fun k => [i0, i1, i2, i3, i4, i5, i6, i7, i8, i9, i10].getD k i0), fun k q hq => ?_⟩
  match k, hq with
  | 0, hq => cases hq; exact h0
  | 1, hq => cases hq; exact h1
  | 2, hq => cases hq; exact h2
  | 3, hq => cases hq; exact h3
  | 4, hq => cases hq; exact h4
  | 5, hq => cases hq; exact h5
  | 6, hq => cases hq; exact h6
  | 7, hq => cases hq; exact h7
  | 8, hq => cases hq; exact h8
  | 9, hq => cases hq; exact h9
  | 10, hq => cases hq; exact h10
  | k + 11, hq => simp [vwCl] at hq
theorem st_arr (hts : ∀ w ∈ lw_tbl, w.before args s = true) : ∃ cI cL : ClassId, (ArrOfT s cI .int ∧ va_RA s cI .int) ∧ (ArrOfT s cL .long ∧ va_RA s cL .long) := by
  obtain ⟨cI, kI, pI, h1, h2, h3⟩ := Cond.arrayClass_spec (type := .int) (hts _ (List.mem_of_getElem? (i := 144) (by decide +kernel)))
  obtain ⟨cL, kL, pL, g1, g2, g3⟩ := Cond.arrayClass_spec (type := .long) (hts _ (List.mem_of_getElem? (i := 339) (by decide +kernel)))
  exact ⟨cI, cL, ⟨fun n z => ⟨fun k h => (by cases h), kI, h2, pI, h3⟩, h1⟩, ⟨fun n z => ⟨fun k h => (by cases h), kL, g2, pL, g3⟩, g1⟩⟩
end Start
