-- more operations: ith, days
def ithS (a : Int32) (A : Nat → Nat → Int32) : Int32 × (Nat → Nat → Int32) := if isP (A 0 5) a = true then (od (A 0) (nC a), A) else (-1000000001, tellS A 0)
theorem ith_ok (a : Int32) : Ops (FX9_ith a) (FX10_ith a) := by
  refine Ops_of (ithS a) (fun h i => ?_) (fun h i => ?_) (fun A i => ?_)
  · obtain ⟨n, nw, l, d, c, b1, b2, -⟩ := i.1
    have hn := b1.2.1
    have hl := b2.2.1
    have f5 : h 0 14 1 = nI l := b2.1
    unfold FX9_ith ithS
    rw [f5, f_within, wi_isP (by omega), Option.bind_some, bI_if, b2.1]
    cases z : isP (nI l) a with
    | false =>
      obtain ⟨h', t1, t2⟩ := c_tell (h := h) (x := -1000000001) 0 (by decide) (by decide)
      rw [if_neg (by decide), if_neg (by decide), t1]
      exact ⟨h', rfl, t2⟩
    | true =>
      obtain ⟨p, hp, rfl⟩ := isP_nat (by omega) z
      rw [if_pos rfl, if_pos rfl, gd_ix (show p < 12 by omega) (by decide), nC_n (by omega)]
      exact ⟨h, by rw [show od (CV h 0) p = h 0 15 p from vod (by omega)], CTo.rf⟩
  · obtain ⟨n, nw, l, d, c, b1, b2, -⟩ := i.1
    have hn := b1.2.1
    have hl := b2.2.1
    have f5 : h 8 33 5 = nI l := b2.1
    unfold FX10_ith ithS
    rw [f5, f_in (a := 0) (b := (nI l - 1).toInt64) 0 (nI l - 1) rfl rfl, wi_isP (by omega), Option.bind_some, bI_if, b2.1]
    cases z : isP (nI l) a with
    | false =>
      obtain ⟨h', t1, t2⟩ := r_tell (h := h) (x := -1000000001) 0 (by decide) (by decide)
      rw [if_neg (by decide), if_neg (by decide), t1]
      exact ⟨h', rfl, t2⟩
    | true =>
      obtain ⟨p, hp, rfl⟩ := isP_nat (by omega) z
      rw [if_pos rfl, if_pos rfl, i138, gd_ix (show 138 + p < 150 by omega) (by decide), nC_n (by omega), nC_n (by omega)]
      exact ⟨h, by rw [show od (RV h 0) p = h 8 33 (138 + p) from tod (by omega)], RTo.rf⟩
  · unfold ithS
    split
    · exact i
    · exact AI_tell i
def dayGo (a x : Int32) : Bool := decide (x + a ≤ 99)
theorem c_mayGo (a : Int32) (h : HI) : FX9_mayGo a h = some (bI (dayGo a (CV h 0 3))) := by
  unfold FX9_mayGo dayGo
  show _ = some (bI (decide (h 0 0 4 + a ≤ 99)))
  by_cases c : (99 : Int32) < h 0 0 4 + a
  · rw [if_pos c, decide_eq_false (Int32.not_le.mpr c)]
    rfl
  · rw [if_neg c, decide_eq_true (Int32.not_lt.mp c)]
    rfl
theorem r_late (a : Int32) (h : HI) : FX10_isTooLate a h = some (bI (!dayGo a (RV h 0 3))) := by
  unfold FX10_isTooLate dayGo
  show _ = some (bI (!decide (h 8 33 3 + a ≤ 99)))
  by_cases c : h 8 33 3 + a ≤ 99
  · rw [if_pos c, decide_eq_true c]
    rfl
  · rw [if_neg c, decide_eq_false c]
    rfl
theorem wi_nat {v : Int32} {a b : Nat} (hb : b < 2 ^ 31) (h : wi v (nI a) (nI b) = true) (ha : a < 2 ^ 31) : ∃ k, a ≤ k ∧ k ≤ b ∧ v = nI k := by
  unfold wi at h
  have h1 : nI a ≤ v := of_decide_eq_true (Bool.and_eq_true _ _ ▸ h).1
  have h2 : v ≤ nI b := of_decide_eq_true (Bool.and_eq_true _ _ ▸ h).2
  have c : ¬ v < 0 := fun z => nI_nn ha (Int32.lt_of_le_of_lt h1 z)
  obtain ⟨j, j1, rfl⟩ := nI_of c
  exact ⟨j, (nI_leI ha j1).mp h1, (nI_leI j1 hb).mp h2, rfl⟩
def daysOpS (a : Int32) (A : Nat → Nat → Int32) : Int32 × (Nat → Nat → Int32) := if wi a 1 30 = true then (if dayGo a (A 0 3) = true then ((daysS (A 0) (nC (A 0 0)) (nC (A 0 1)) (nC a)).2 4 - A 0 4, cU A 0 (daysS (A 0) (nC (A 0 0)) (nC (A 0 1)) (nC a)).2) else (-1000000005, tellS A 4)) else (-1000000001, tellS A 0)
theorem days_ok (a : Int32) : Ops (FX9_days a) (FX10_days a) := by
  refine Ops_of (daysOpS a) (fun h i => ?_) (fun h i => ?_) (fun A i => ?_)
  · obtain ⟨n, nw, l, d, c, b1, b2, -⟩ := i.1
    have hn := b1.2.1
    have hw := b1.2.2.2.1
    unfold FX9_days daysOpS
    rw [f_within, Option.bind_some, bI_if, b1.1, b1.2.2.1, nC_n (show n < 2 ^ 31 by omega), nC_n (show nw < 2 ^ 31 by omega)]
    cases z : wi a 1 30 with
    | false =>
      obtain ⟨h', t1, t2⟩ := c_tell (h := h) (x := -1000000001) 0 (by decide) (by decide)
      rw [if_neg (by decide), if_neg (by decide), t1]
      exact ⟨h', rfl, t2⟩
    | true =>
      obtain ⟨k, k1, k2, rfl⟩ := wi_nat (a := 1) (b := 30) (by decide) z (by decide)
      rw [if_pos rfl, if_pos rfl, c_mayGo, Option.bind_some, bI_if, nC_n (show k < 2 ^ 31 by omega)]
      cases y : dayGo (nI k) (CV h 0 3) with
      | false =>
        obtain ⟨h', t1, t2⟩ := c_tell (h := h) (x := -1000000005) 4 (by decide) (by decide)
        rw [if_neg (by decide), if_neg (by decide), t1]
        exact ⟨h', rfl, t2⟩
      | true =>
        have e : vw (h 0) = CV h 0 := rfl
        obtain ⟨h', q1, q2⟩ := c_days (k := k) e b1 (by omega)
        have f4 := (bk0 q2.at).2.2.2.2.1
        have g4 : h 0 0 5 = CV h 0 4 := rfl
        rw [if_pos rfl, if_pos rfl, nm_eq, q1, Option.bind_some, f4, g4]
        exact ⟨h', rfl, CTo.book q2⟩
  · obtain ⟨n, nw, l, d, c, b1, b2, -⟩ := i.1
    have hn := b1.2.1
    have hw := b1.2.2.2.1
    unfold FX10_days daysOpS
    rw [f_in (a := 1) (b := 30) 1 30 rfl rfl, Option.bind_some, bI_if, b1.1, b1.2.2.1, nC_n (show n < 2 ^ 31 by omega), nC_n (show nw < 2 ^ 31 by omega)]
    cases z : wi a 1 30 with
    | false =>
      obtain ⟨h', t1, t2⟩ := r_tell (h := h) (x := -1000000001) 0 (by decide) (by decide)
      rw [if_neg (by decide), if_neg (by decide), t1]
      exact ⟨h', rfl, t2⟩
    | true =>
      obtain ⟨k, k1, k2, rfl⟩ := wi_nat (a := 1) (b := 30) (by decide) z (by decide)
      rw [if_pos rfl, if_pos rfl, r_late, Option.bind_some, bI_if, nC_n (show k < 2 ^ 31 by omega)]
      cases y : dayGo (nI k) (RV h 0 3) with
      | false =>
        obtain ⟨h', t1, t2⟩ := r_tell (h := h) (x := -1000000005) 4 (by decide) (by decide)
        rw [if_pos (show (!false) = true from rfl), if_neg (by decide), t1]
        exact ⟨h', rfl, t2⟩
      | true =>
        have e : tk (h 8 33) = RV h 0 := rfl
        obtain ⟨h', q1, q2⟩ := r_days (k := k) e b1 (by omega)
        have f4 := rk0 q2.at (show 4 < 150 by decide)
        have g4 : h 8 33 4 = RV h 0 4 := rfl
        rw [if_neg (by decide), if_pos rfl, nm_eq, q1, Option.bind_some]
        dsimp only
        rw [f4, g4]
        exact ⟨h', rfl, RTo.book (RkA.of q2)⟩
  · obtain ⟨n, nw, l, d, c, b1, b2, b3, b4, b5, b6⟩ := i.1
    have hn := b1.2.1
    have hw := b1.2.2.2.1
    have hl := b2.2.1
    unfold daysOpS
    rw [b1.1, b1.2.2.1, nC_n (show n < 2 ^ 31 by omega), nC_n (show nw < 2 ^ 31 by omega)]
    split
    · next z =>
      obtain ⟨k, k1, k2, rfl⟩ := wi_nat (a := 1) (b := 30) (by decide) z (by decide)
      rw [nC_n (show k < 2 ^ 31 by omega)]
      split
      · next y =>
        obtain ⟨s1, s2, s3, s4, s5, s6⟩ := daysS_inv b1 k
        have y2 : A 0 3 + nI k ≤ 99 := of_decide_eq_true y
        rw [b3, nI_add, show (99 : Int32) = nI 99 from rfl, nI_leI (by omega) (by omega)] at y2
        obtain ⟨c', c1, c2, c3⟩ := s6 c b5
        exact AI_book i ⟨n, nw, l, d + k, c', s2, OI_cong s3 (fun j hj => s4 (138 + j) (by omega)) (by omega) b2, s5 d b3, y2, c3, by omega⟩
      · exact AI_tell i
    · exact AI_tell i
theorem known_ok {h : HI} (r : Rel h) : ∃ x, FX9_known h = some x ∧ FX10_known h = some x := by
  obtain ⟨e, i⟩ := r
  obtain ⟨n, nw, l, d, c, b1, b2, -⟩ := i.1
  have e0 : vw (h 0) = tk (h 8 33) := congrFun e 0
  have f0 : h 0 1 6 = nI n := b1.1
  have g0 : h 8 33 0 = nI n := by
    have := b1.1
    rw [e] at this
    exact this
  refine ⟨knS (vw (h 0)) n, ?_, ?_⟩
  · unfold FX9_known
    rw [c_known f0 b1.2.1]
    rfl
  · unfold FX10_known
    rw [r_known g0 b1.2.1, e0]
    rfl
