-- the operations: what they ask first
def isP (x a : Int32) : Bool := !decide (a < 0) && !decide (x ≤ a)
theorem wi_isP {a : Int32} {n : Nat} (hn : n ≤ 4096) : wi a 0 (nI n - 1) = isP (nI n) a := by
  unfold wi isP
  by_cases c : a < 0
  · rw [decide_eq_true c, decide_eq_false (Int32.not_le.mpr c)]
    rfl
  · obtain ⟨j, h1, rfl⟩ := nI_of c
    rw [decide_eq_false c, decide_eq_true (Int32.not_lt.mp c)]
    by_cases z : n = 0
    · subst z
      rw [decide_eq_true (show nI 0 ≤ nI j from le_t (Nat.zero_le j) (by decide) h1), decide_eq_false]
      · rfl
      · intro y
        exact nI_nn h1 (Int32.lt_of_le_of_lt y (by decide))
    · rw [show nI n - 1 = nI (n - 1) from pk_sub (b := 1) (by omega)]
      by_cases y : j ≤ n - 1
      · rw [decide_eq_true (le_t y h1 (by omega)), decide_eq_false (le_f (by omega) (by omega) h1)]
        rfl
      · rw [decide_eq_false (le_f y h1 (by omega)), decide_eq_true (le_t (by omega) (by omega) h1)]
        rfl
theorem isP_nat {n : Nat} {a : Int32} (hn : n ≤ 4096) (h : isP (nI n) a = true) : ∃ p, p < n ∧ a = nI p := by
  unfold isP at h
  by_cases c : a < 0
  · rw [decide_eq_true c, Bool.not_true, Bool.false_and] at h
    exact absurd h (by decide)
  · obtain ⟨j, h1, rfl⟩ := nI_of c
    refine ⟨j, ?_, rfl⟩
    by_cases y : n ≤ j
    · rw [decide_eq_true (le_t y (by omega) h1), Bool.not_true, Bool.and_false] at h
      exact absurd h (by decide)
    · omega
theorem c_isP (a : Int32) (h : HI) : FX9_isPhrase a h = some (bI (isP (CV h 0 0) a)) := by
  unfold FX9_isPhrase isP
  show _ = some (bI (!decide (a < 0) && !decide (h 0 1 6 ≤ a)))
  by_cases c : a < 0
  · rw [if_pos c, decide_eq_true c]
    rfl
  · rw [if_neg c, decide_eq_false c]
    by_cases d : h 0 1 6 ≤ a
    · rw [if_pos d, decide_eq_true d]
      rfl
    · rw [if_neg d, decide_eq_false d]
      rfl
theorem c_isW (a : Int32) (h : HI) : FX9_isWant a h = some (bI (isP (CV h 0 1) a)) := by
  unfold FX9_isWant isP
  show _ = some (bI (!decide (a < 0) && !decide (h 0 8 5 ≤ a)))
  by_cases c : a < 0
  · rw [if_pos c, decide_eq_true c]
    rfl
  · rw [if_neg c, decide_eq_false c]
    by_cases d : h 0 8 5 ≤ a
    · rw [if_pos d, decide_eq_true d]
      rfl
    · rw [if_neg d, decide_eq_false d]
      rfl
theorem r_isP {n : Nat} (a : Int32) {h : HI} (e : RV h 0 0 = nI n) (hn : n ≤ 12) : FX10_isPhrase a h = some (bI (isP (RV h 0 0) a)) := by
  have e2 : h 8 33 0 = nI n := e
  unfold FX10_isPhrase
  rw [e2, f_in (a := 0) (b := (nI n - 1).toInt64) 0 (nI n - 1) rfl rfl, Option.bind_some, gd_B, e, wi_isP (by omega)]
theorem r_isW {n : Nat} (a : Int32) {h : HI} (e : RV h 0 1 = nI n) (hn : n ≤ 12) : FX10_isWant a h = some (bI (isP (RV h 0 1) a)) := by
  have e2 : h 8 33 1 = nI n := e
  unfold FX10_isWant
  rw [e2, f_in (a := 0) (b := (nI n - 1).toInt64) 0 (nI n - 1) rfl rfl, Option.bind_some, gd_B, e, wi_isP (by omega)]
