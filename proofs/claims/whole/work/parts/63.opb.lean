-- more operations: ith, days
def ithS (a : Int32) (A : Nat → Nat → Int32) : Int32 × (Nat → Nat → Int32) := if isP (A 0 5) a = true then (od (A 0) (nC a), A) else (-1000000001, tellS A 0)
theorem ith_ok (a : Int32) : Ops (FX9_ith a) (FX10_ith a) := by
  refine Ops_of (ithS a) (fun h i => ?_) (fun h i => ?_) (fun A i => ?_)
  · obtain ⟨n, nw, l, d, c, b1, b2, -⟩ := i.1
    have hn := b1.2.1
    have hl := b2.2.1
    have f5 : h 0 14 1 = nI l := b2.1
    unfold FX9_ith ithS
    rw [f5, f_within, wi_isP (by omega), Option.bind_some, bI_if, b2.1]
    cases z : isP (nI l) a with
    | false =>
      obtain ⟨h', t1, t2⟩ := c_tell (h := h) (x := -1000000001) 0 (by decide) (by decide)
      rw [if_neg (by decide), if_neg (by decide), t1]
      exact ⟨h', rfl, t2⟩
    | true =>
      obtain ⟨p, hp, rfl⟩ := isP_nat (by omega) z
      rw [if_pos rfl, if_pos rfl, gd_ix (show p < 12 by omega) (by decide), nC_n (by omega)]
      exact ⟨h, by rw [show od (CV h 0) p = h 0 15 p from vod (by omega)], CTo.rf⟩
  · obtain ⟨n, nw, l, d, c, b1, b2, -⟩ := i.1
    have hn := b1.2.1
    have hl := b2.2.1
    have f5 : h 8 33 5 = nI l := b2.1
    unfold FX10_ith ithS
    rw [f5, f_in (a := 0) (b := (nI l - 1).toInt64) 0 (nI l - 1) rfl rfl, wi_isP (by omega), Option.bind_some, bI_if, b2.1]
    cases z : isP (nI l) a with
    | false =>
      obtain ⟨h', t1, t2⟩ := r_tell (h := h) (x := -1000000001) 0 (by decide) (by decide)
      rw [if_neg (by decide), if_neg (by decide), t1]
      exact ⟨h', rfl, t2⟩
    | true =>
      obtain ⟨p, hp, rfl⟩ := isP_nat (by omega) z
      rw [if_pos rfl, if_pos rfl, i138, gd_ix (show 138 + p < 150 by omega) (by decide), nC_n (by omega), nC_n (by omega)]
      exact ⟨h, by rw [show od (RV h 0) p = h 8 33 (138 + p) from tod (by omega)], RTo.rf⟩
  · unfold ithS
    split
    · exact i
    · exact AI_tell i
