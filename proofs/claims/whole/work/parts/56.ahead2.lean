-- looking ahead: both sides
theorem c_ahead {h : HI} {F : Nat → Int32} {n nw k : Nat} (e : vw (h 0) = F) (b : BP F n nw) (hk : k ≤ 200) : ∃ h', FX4_lookAhead 0 (nI k) h = some h' ∧ BkTo h 2 (daysS F n nw k).2 h' := by
  obtain ⟨h1, t1, t2⟩ := c_take (h := h) (g := 2) (g1 := 0) (by decide)
  rw [e] at t2
  obtain ⟨h2, d1, d2⟩ := c_days t2.at b hk
  exact ⟨h2, by unfold FX4_lookAhead; rw [t1, Option.bind_some, d1]; rfl, t2.tr d2⟩
/-- the reference's row is F; but for it and the row put by nothing changed -/
def RkA (h : HI) (F : Nat → Int32) (h' : HI) : Prop := (∀ g k, ¬ (g = 8 ∧ (k = 33 ∨ k = 35)) → h' g k = h g k) ∧ tk (h' 8 33) = F
theorem RkA.of {h h' : HI} {F : Nat → Int32} (r : RkTo h F h') : RkA h F h' := ⟨fun g k e => r.out (fun z => e ⟨z.1, Or.inl z.2⟩), r.at⟩
theorem RkA.tr {h h1 h2 : HI} {F G : Nat → Int32} (a : RkA h F h1) (b : RkA h1 G h2) : RkA h G h2 := ⟨fun g k e => (b.1 g k e).trans (a.1 g k e), b.2⟩
theorem r_put {h : HI} {F : Nat → Int32} (e : tk (h 8 33) = F) : ∃ h', FX10_puts h = some h' ∧ RkA h F h' ∧ tk (h' 8 35) = F := by
  obtain ⟨h', p1, s, rfl, p3⟩ := r_puts (h := h)
  exact ⟨_, p1, ⟨fun g k c => hPF_n (fun z => c ⟨z.1, Or.inr z.2⟩), by rw [hPF_n (by decide), e]⟩, by rw [hPF_s, p3, e]⟩
def sumS (G : Nat → Int32) (k : Nat) : Int32 := foldN (fun i a => a + hd G i) k 0
theorem c_sum {h : HI} {n : Nat} (hn : n ≤ 12) : FX9_sum 2 6 (nI n) h = some (sumS (vw (h 2)) n) := by
  have key := for_loop (f := SX9_sum_4 2 6 (nI n) h) (fun i => (sumS (vw (h 2)) i, nI i)) n (sumS (vw (h 2)) n) (fun i hi => by
    unfold SX9_sum_4
    dsimp only
    rw [if_neg (le_f (by omega) (by omega) (by omega)), show okI 2 6 = true from rfl, Bool.true_and, show alen 6 = 12 from rfl, gd_ix (show i < 12 by omega) (by decide), nm_eq, nC_n (show i < 2 ^ 31 by omega), nI_1, ← vhd (u := h 2) (show i < 12 by omega)]
    rfl) (by
    unfold SX9_sum_4
    dsimp only
    rw [if_pos (Int32.le_refl _)]) FU (by have := FU_lt; omega)
  unfold FX9_sum
  exact congrArg (fun o => Option.bind o fun e2 => some e2) key
theorem r_sum {h : HI} {n : Nat} (h0 : h 8 33 0 = nI n) (hn : n ≤ 12) : FX10_sumOf 4 h = some (sumS (tk (h 8 33)) n) := by
  have key := for_loop (f := SX10_sumOf_4 4 h) (fun i => (sumS (tk (h 8 33)) i, nI i)) n (sumS (tk (h 8 33)) n) (fun i hi => by
    unfold SX10_sumOf_4
    dsimp only
    rw [h0, if_neg (le_f (by omega) (by omega) (by omega)), its4 (show i < 12 by omega), Option.bind_some, nm_eq, nI_1]
    rfl) (by
    unfold SX10_sumOf_4
    dsimp only
    rw [h0, if_pos (Int32.le_refl _)]) FU (by have := FU_lt; omega)
  unfold FX10_sumOf
  exact congrArg (fun o => Option.bind o fun e3 => some e3) key
-- useless
theorem full_mask : ∀ n, n < 13 → ((1 : Int32) <<< (nI n &&& 31)) - 1 = mkS (fun _ => true) n := by decide +kernel
theorem useless_eq {F : Nat → Int32} {n nw k : Nat} (b : BP F n nw) (hk : k ≤ 60) : mkS (fun p => decide (us (daysS F n nw k).2 p = us F p)) n = (((1 : Int32) <<< (nI n &&& 31)) - 1) &&& ((daysS F n nw k).1 ^^^ (-1)) := by
  have hn := b.2.1
  rw [full_mask n (by omega)]
  refine set_ext (fun i hi => ?_)
  rw [mkS_b _ (by omega) hi, bs_bt _ hi, b_and, b_xor, b_m1 i hi, ← bs_bt _ hi, mkS_b _ (by omega) hi, ← bs_bt _ hi]
  by_cases c : i < n
  · obtain ⟨d, d1, d2, d3⟩ := UsI_days b k i (by omega)
    rw [d2, d3]
    by_cases z : 0 < d
    · have ne : ¬ (us F i + nI d = us F i) := fun y => by
        have y2 : nI d = 0 := by
          have := congrArg (fun v => v - us F i) y
          simpa [Int32.add_comm] using this
        exact nI_ne0 (by omega) (by omega) y2
      rw [decide_eq_true z, decide_eq_false ne]
      simp
    · rw [show d = 0 by omega, show us F i + nI 0 = us F i from Int32.add_zero _]
      simp
  · rw [decide_eq_false c, Bool.false_and, Bool.false_and, Bool.false_and]
theorem c_never {h : HI} {F : Nat → Int32} {n nw k : Nat} (e : vw (h 0) = F) (b : BP F n nw) (hk : k ≤ 200) : ∃ h', FX4_neverUsed 0 (nI k) h = some (mkS (fun p => decide (us (daysS F n nw k).2 p = us F p)) n, h') ∧ BkTo h 2 (daysS F n nw k).2 h' := by
  have hn := b.2.1
  obtain ⟨h1, a1, a2⟩ := c_ahead e b hk
  refine ⟨h1, ?_, a2⟩
  have e0 : h1 0 = h 0 := a2.out (by decide)
  have f0 : h1 0 1 6 = nI n := by
    have := (bk0 e).1
    rw [e0, this, b.1]
  have key := for_loop (f := SX4_neverUsed_11 0 h1) (fun i => (mkS (fun p => decide (us (daysS F n nw k).2 p = us F p)) i, nI i)) n (mkS (fun p => decide (us (daysS F n nw k).2 p = us F p)) n) (fun i hi => by
    have u2 : h1 2 7 i = us (daysS F n nw k).2 i := by rw [← a2.at, vus (by omega)]
    have u0 : h1 0 7 i = us F i := by rw [e0, ← e, vus (by omega)]
    unfold SX4_neverUsed_11
    dsimp only
    rw [f0, if_neg (le_f (by omega) (by omega) (by omega)), gd_ix (show i < 12 by omega) (by decide), gd_ix (show i < 12 by omega) (by decide), nC_n (show i < 2 ^ 31 by omega), u2, u0, nm_eq, nI_1, mkS_s]
    by_cases c : us (daysS F n nw k).2 i = us F i
    · rw [if_pos c, if_pos (decide_eq_true c)]
    · rw [if_neg c, if_neg (by rw [decide_eq_false c]; decide), or_0]) (by
    unfold SX4_neverUsed_11
    dsimp only
    rw [f0, if_pos (Int32.le_refl _)]) FU (by have := FU_lt; omega)
  unfold FX4_neverUsed
  rw [a1, Option.bind_some]
  exact congrArg (fun o => Option.bind o fun e3 => some (e3, h1)) key
-- forgot
def knD (F : Nat → Int32) (n nw p d : Nat) : Bool := !decide (hd (daysS F n nw d).2 p < (daysS F n nw d).2 2)
def FgS (F : Nat → Int32) (n nw p : Nat) (r : Int32) : Prop := (∃ d, d ≤ 60 ∧ (∀ j, j < d → knD F n nw p j = true) ∧ knD F n nw p d = false ∧ r = nI d) ∨ ((∀ j, j ≤ 60 → knD F n nw p j = true) ∧ r = -1)
theorem c_forgot {h : HI} {F : Nat → Int32} {n nw p : Nat} (e : vw (h 0) = F) (b : BP F n nw) (hp : p < n) : ∃ r h', FX4_daysTillForgotten 0 (nI p) h = some (r, h') ∧ FgS F n nw p r ∧ ∀ g, g ≠ 2 → h' g = h g := by
  have hn := b.2.1
  obtain ⟨h1, t1, t2⟩ := c_take (h := h) (g := 2) (g1 := 0) (by decide)
  rw [e] at t2
  have key : ∃ r, loopN (SX4_daysTillForgotten_10 0 (nI p)) FU (0, h1) = some r ∧ (fun r : Int32 × HI => FgS F n nw p r.1 ∧ ∀ g, g ≠ 2 → r.2 g = h g) r := by
    refine gloop (f := SX4_daysTillForgotten_10 0 (nI p)) (fun i (s : Int32 × HI) => s.1 = nI i ∧ (∀ j, j < i → knD F n nw p j = true) ∧ BkTo h 2 (daysS F n nw i).2 s.2) _ 61 ?_ (k := FU) (by have := FU_lt; omega) (s0 := (0, h1)) ⟨rfl, fun j hj => by omega, t2⟩
    rintro i ⟨q, h2⟩ hi ⟨rfl, i1, i2⟩
    dsimp only at i2
    unfold SX4_daysTillForgotten_10
    dsimp only
    rw [show (60 : Int32) = nI 60 from rfl]
    by_cases z : i = 61
    · exact Or.inr ⟨(-1, h2), by rw [if_pos (lt_t (by omega) (by omega) (by omega))], Or.inr ⟨fun j hj => i1 j (by omega), rfl⟩, fun g hg => i2.out hg⟩
    · have hk := c_isKnown (g := 2) (h := h2) (p := p) (by omega)
      rw [i2.at] at hk
      have hk2 : FX0_isKnown 2 (nI p) h2 = some (bI (knD F n nw p i)) := hk
      rw [if_neg (lt_f (by omega) (by omega) (by omega)), hk2, Option.bind_some, bI_if]
      cases c : knD F n nw p i with
      | false => exact Or.inr ⟨(nI i, h2), by rw [if_neg (by decide)], Or.inl ⟨i, by omega, i1, c, rfl⟩, fun g hg => i2.out hg⟩
      | true =>
        obtain ⟨h3, d1, d2⟩ := c_days (k := 1) i2.at (daysS_inv b i).2.1 (by decide)
        refine Or.inl ⟨by omega, (nI (i + 1), h3), ?_, rfl, fun j hj => ?_, i2.tr d2⟩
        · rw [if_pos rfl, show (1 : Int32) = nI 1 from rfl, d1, Option.bind_some, nI_add]
        · by_cases y : j = i
          · rw [y]; exact c
          · exact i1 j (by omega)
  obtain ⟨⟨r, h2⟩, k1, k2, k3⟩ := key
  exact ⟨r, h2, by unfold FX4_daysTillForgotten; rw [t1, Option.bind_some, k1]; rfl, k2, k3⟩
theorem r_forgotL {h : HI} {F : Nat → Int32} {n nw p : Nat} (e : tk (h 8 33) = F) (b : BP F n nw) (hp : p < n) : ∃ d h', loopN (SX10_forgot_39 (nI p)) FU (0, h) = some (nI d, h') ∧ d ≤ 60 ∧ (∀ j, j < d → knD F n nw p j = true) ∧ (d < 60 → knD F n nw p d = false) ∧ RkTo h (daysS F n nw d).2 h' := by
  have hn := b.2.1
  have key : ∃ r, loopN (SX10_forgot_39 (nI p)) FU (0, h) = some r ∧ (fun r : Int32 × HI => ∃ d, r.1 = nI d ∧ d ≤ 60 ∧ (∀ j, j < d → knD F n nw p j = true) ∧ (d < 60 → knD F n nw p d = false) ∧ RkTo h (daysS F n nw d).2 r.2) r := by
    refine gloop (f := SX10_forgot_39 (nI p)) (fun i (s : Int32 × HI) => s.1 = nI i ∧ (∀ j, j < i → knD F n nw p j = true) ∧ RkTo h (daysS F n nw i).2 s.2) _ 60 ?_ (k := FU) (by have := FU_lt; omega) (s0 := (0, h)) ⟨rfl, fun j hj => by omega, by rw [show (daysS F n nw 0).2 = tk (h 8 33) from e.symm]; exact RkTo.rf⟩
    rintro i ⟨q, h2⟩ hi ⟨rfl, i1, i2⟩
    dsimp only at i2
    unfold SX10_forgot_39
    dsimp only
    rw [show (60 : Int32) = nI 60 from rfl]
    by_cases z : i = 60
    · exact Or.inr ⟨(nI i, h2), by rw [if_pos (le_t (by omega) (by omega) (by omega))], i, rfl, hi, i1, fun y => by omega, i2⟩
    · have hk := r_isKnown (h := h2) (p := p) (by omega)
      rw [i2.at] at hk
      have hk2 : FX10_isKnown (nI p) h2 = some (bI (knD F n nw p i)) := hk
      rw [if_neg (le_f (by omega) (by omega) (by omega)), hk2, Option.bind_some, bI_if]
      cases c : knD F n nw p i with
      | false => exact Or.inr ⟨(nI i, h2), by rw [if_neg (by decide)], i, rfl, hi, i1, fun _ => c, i2⟩
      | true =>
        obtain ⟨h3, d1, d2⟩ := r_day i2.at (daysS_inv b i).2.1
        refine Or.inl ⟨by omega, (nI (i + 1), h3), ?_, rfl, fun j hj => ?_, i2.tr d2⟩
        · rw [if_pos rfl, d1, Option.bind_some, nI_1]
        · by_cases y : j = i
          · rw [y]; exact c
          · exact i1 j (by omega)
  obtain ⟨⟨r, h2⟩, k1, d, rfl, k3⟩ := key
  exact ⟨d, h2, k1, k3⟩
