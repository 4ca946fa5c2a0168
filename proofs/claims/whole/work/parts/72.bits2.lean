-- sets below 4096, further
theorem gD_lt {l : List Nat} {i : Nat} (h : i < l.length) : l.getD i 0 = l[i] := by rw [List.getD_eq_getElem?_getD, List.getElem?_eq_getElem h, Option.getD_some]
theorem bL_len (s : Nat) : (bL s).length ≤ 12 := by
  have := List.length_filter_le (fun p => s.testBit p) (List.range 12)
  rwa [List.length_range] at this
theorem bL_0 : bL 0 = [] := by decide
theorem r_ones {s : Nat} (h : s < 4096) : FX10_ones (nI s) = some (nI (bL s).length) := by
  have key : ∃ r, loopN SX10_ones_4 FU (0, nI s) = some r ∧ r = nI (bL s).length := by
    refine gloop (f := SX10_ones_4) (fun i (t : Int32 × Int32) => t.1 = nI i ∧ ∃ s', s' < 4096 ∧ t.2 = nI s' ∧ (bL s').length + i = (bL s).length) _ (bL s).length ?_ (k := FU) (by have := FU_lt; have := bL_len s; omega) (s0 := (0, nI s)) ⟨rfl, s, h, rfl, by omega⟩
    rintro i ⟨a, b⟩ hi ⟨rfl, s', h1, rfl, h2⟩
    unfold SX10_ones_4
    dsimp only
    obtain ⟨-, -, k3, k4, k5, k6⟩ := kS h1
    by_cases z : s' = 0
    · subst z
      refine Or.inr ⟨_, by rw [if_pos (show nI 0 = 0 from rfl)], ?_⟩
      rw [bL_0] at h2
      rw [← h2]
      simp
    · have hl : ¬ (bL s').length = 0 := fun q => z (k6 q)
      refine Or.inl ⟨by omega, (nI (i + 1), nI (s' &&& (s' - 1))), ?_, rfl, _, k5, rfl, ?_⟩
      · rw [if_neg (nI_ne0 (by omega) (by omega)), nm_eq, nI_1, k3]
      · rw [k4, List.length_tail]
        omega
  obtain ⟨r, k1, rfl⟩ := key
  unfold FX10_ones
  rw [k1, Option.bind_some]
theorem c_member {s q : Nat} (h : s < 4096) (hq : q < (bL s).length) : FX3_memberOf (nI s) (nI q) = some (nI ((bL s).getD q 0)) := by
  have hl := bL_len s
  have key : ∃ r, loopN (SX3_memberOf_4 (nI q)) FU (nI s, 0) = some r ∧ ∃ s', s' < 4096 ∧ r = nI s' ∧ bL s' = (bL s).drop q := by
    refine gloop (f := SX3_memberOf_4 (nI q)) (fun i (t : Int32 × Int32) => t.2 = nI i ∧ ∃ s', s' < 4096 ∧ t.1 = nI s' ∧ bL s' = (bL s).drop i) _ q ?_ (k := FU) (by have := FU_lt; omega) (s0 := (nI s, 0)) ⟨rfl, s, h, rfl, rfl⟩
    rintro i ⟨a, b⟩ hi ⟨rfl, s', h1, rfl, h2⟩
    unfold SX3_memberOf_4
    dsimp only
    obtain ⟨-, -, k3, k4, k5, k6⟩ := kS h1
    by_cases z : i = q
    · subst z
      exact Or.inr ⟨_, by rw [if_pos (Int32.le_refl _)], s', h1, rfl, h2⟩
    · refine Or.inl ⟨by omega, (nI (s' &&& (s' - 1)), nI (i + 1)), ?_, rfl, _, k5, rfl, ?_⟩
      · rw [if_neg (le_f (by omega) (by omega) (by omega)), if_neg (show ¬ 12 ≤ nI i from le_f (a := 12) (by omega) (by decide) (by omega)), nm_eq, nI_1, k3]
      · rw [k4, h2, List.tail_drop]
  obtain ⟨r, k1, s', k2, rfl, k3⟩ := key
  obtain ⟨-, t2, -⟩ := kS k2
  unfold FX3_memberOf
  rw [k1, Option.bind_some]
  rcases t2 with t2 | t2
  · rw [t2, bL_0] at k3
    have := congrArg List.length k3
    rw [List.length_drop] at this
    simp at this
    omega
  · rw [t2, Option.bind_some, k3]
    congr 2
    rw [List.headD_eq_head?_getD, List.head?_drop, List.getD_eq_getElem?_getD]
theorem bL_mem {s p : Nat} : p ∈ bL s ↔ p < 12 ∧ s.testBit p = true := by
  unfold bL
  rw [List.mem_filter, List.mem_range]
/-- a member taken out -/
theorem bL_rm {s p : Nat} (h : s < 4096) (hp : p < 12) : ∃ s', s' < 4096 ∧ nI s &&& (((1 : Int32) <<< (nI p &&& 31)) ^^^ (-1)) = nI s' ∧ bL s' = (bL s).filter (fun q => decide (q ≠ p)) := by
  have b0 : ∀ q, q < 32 → bs (nI s &&& (((1 : Int32) <<< (nI p &&& 31)) ^^^ (-1))) q = (s.testBit q && !decide (q = p)) := fun q hq => by
    rw [bs_rm _ (by omega) hq, bs_nI hq]
  have e1 : nI s &&& (((1 : Int32) <<< (nI p &&& 31)) ^^^ (-1)) = (nI s &&& (((1 : Int32) <<< (nI p &&& 31)) ^^^ (-1))) &&& 4095 := by
    refine set_ext (fun q hq => ?_)
    have b4 : bt 4095 q = decide (q < 12) := by
      have : ∀ q, q < 32 → bt 4095 q = decide (q < 12) := by decide +kernel
      exact this q hq
    rw [bs_bt (_ &&& 4095) hq, b_and, ← bs_bt _ hq, b0 q hq, b4]
    by_cases c : q < 12
    · rw [decide_eq_true c, Bool.and_true]
    · have : s.testBit q = false := Nat.testBit_lt_two_pow (Nat.lt_of_lt_of_le (show s < 2 ^ 12 from h) (Nat.pow_le_pow_right (show 0 < 2 by decide) (show 12 ≤ q by omega)))
      rw [this]
      rfl
  obtain ⟨s', h1, h2⟩ := pk_andE (nI s &&& (((1 : Int32) <<< (nI p &&& 31)) ^^^ (-1))) (m := 4095) 12 (by decide)
  rw [← e1] at h2
  refine ⟨s', h1, h2, ?_⟩
  unfold bL
  rw [List.filter_filter]
  refine List.filter_congr (fun q hq => ?_)
  have hq2 := List.mem_range.mp hq
  rw [← bs_nI (show q < 32 by omega), ← h2, b0 q (by omega), Bool.and_comm]
  congr 1
  by_cases c : q = p
  · simp [c]
  · simp [c]
theorem bL_lt {s i j : Nat} (hi : i < j) (hj : j < (bL s).length) : (bL s).getD i 0 < (bL s).getD j 0 := by
  have pw : (bL s).Pairwise (· < ·) := List.Pairwise.filter _ List.pairwise_lt_range
  rw [List.pairwise_iff_getElem] at pw
  have := pw i j (by omega) hj hi
  rw [gD_lt (show i < (bL s).length by omega), gD_lt hj]
  exact this
theorem bL_in {s i : Nat} (hi : i < (bL s).length) : (bL s).getD i 0 < 12 ∧ s.testBit ((bL s).getD i 0) = true := by
  rw [gD_lt hi]
  exact bL_mem.mp (List.getElem_mem hi)
