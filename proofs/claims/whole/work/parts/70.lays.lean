-- lays, read
def inL (v : Int64) : Bool := !decide (v < 0) && !decide (100 < v)
theorem f_inL (v : Int64) : FX10_in v 0 100 = some (bI (inL v)) := by
  unfold FX10_in inL
  by_cases c : v < 0
  · rw [if_pos (by rw [lg_cmp_lt]; exact c), decide_eq_true c]
    rfl
  · rw [if_neg (by rw [lg_cmp_lt]; exact c), decide_eq_false c]
    by_cases d : 100 < v
    · rw [if_pos (by rw [lg_cmp_gt]; exact d), decide_eq_true d]
      rfl
    · rw [if_neg (by rw [lg_cmp_gt]; exact d), decide_eq_false d]
      rfl
theorem inL_rg {v : Int64} (h : inL v = true) : rg v.toInt32 0 100 := by
  unfold inL at h
  have h1 : ¬ v < 0 := by
    intro c
    rw [decide_eq_true c, Bool.not_true, Bool.false_and] at h
    exact absurd h (by decide)
  have h2 : ¬ 100 < v := by
    intro c
    rw [decide_eq_true c, Bool.not_true, Bool.and_false] at h
    exact absurd h (by decide)
  rw [Int64.lt_iff_toInt_lt] at h1 h2
  have e0 : (0 : Int64).toInt = 0 := by decide
  have e1 : (100 : Int64).toInt = 100 := by decide
  rw [e0] at h1
  rw [e1] at h2
  refine ⟨v.toInt.toNat, by omega, by omega, Int32.toInt_inj.mp ?_⟩
  rw [nI_toInt (by omega), Int64.toInt_toInt32, Int.bmod_eq_of_le (by omega) (by omega)]
  omega
def lyF (V : Nat → Int64) (i : Nat) (x : Int32 × (Nat → Int32)) : Int32 × (Nat → Int32) := if inL (V i) = true then (x.1 + 1, upd x.2 (6 + 6 * i + 4) (V i).toInt32) else x
def lyS (F : Nat → Int32) (V : Nat → Int64) (k : Nat) : Int32 × (Nat → Int32) := foldN (lyF V) k (0, F)
theorem lyS_s (F : Nat → Int32) (V : Nat → Int64) (k : Nat) : lyS F V (k + 1) = lyF V k (lyS F V k) := rfl
theorem lyS_inv {F : Nat → Int32} {V : Nat → Int64} {n nw : Nat} (b : BP F n nw) (k : Nat) (hk : k ≤ n) : BP (lyS F V k).2 n nw ∧ (∀ i, 3 ≤ i → i < 6 → (lyS F V k).2 i = F i) ∧ (∀ i, 138 ≤ i → (lyS F V k).2 i = F i) := by
  induction k with
  | zero => exact ⟨b, fun _ _ _ => rfl, fun _ _ => rfl⟩
  | succ k ih =>
    obtain ⟨j1, j2, j3⟩ := ih (by omega)
    rw [lyS_s]
    unfold lyF
    have hn := b.2.1
    by_cases c : inL (V k) = true
    · rw [if_pos c]
      exact ⟨BP_upP j1 (by omega) (by decide) (inL_rg c), fun i h1 h2 => (up_n (by omega)).trans (j2 i h1 h2), fun i h1 => (up_n (by omega)).trans (j3 i h1)⟩
    · rw [if_neg c]
      exact ⟨j1, j2, j3⟩
theorem c_laysL {h : HI} {L : HL} {F : Nat → Int32} {s m : Nat} (e : vw (h 0) = F) (hs : s < 4) (hm : m ≤ 12) : ∃ h', loopN (SX9_lays_65 (nI s) (nI m) L) FU (0, 0, h) = some ((lyS F (fun i => L 6 31 (40 * s + i)) m).1, h') ∧ BkTo h 0 (lyS F (fun i => L 6 31 (40 * s + i)) m).2 h' := by
  have key : ∃ r, loopN (SX9_lays_65 (nI s) (nI m) L) FU (0, 0, h) = some r ∧ (fun r : Int32 × HI => r.1 = (lyS F (fun i => L 6 31 (40 * s + i)) m).1 ∧ BkTo h 0 (lyS F (fun i => L 6 31 (40 * s + i)) m).2 r.2) r := by
    refine gloop (f := SX9_lays_65 (nI s) (nI m) L) (fun i (t : Int32 × Int32 × HI) => t.1 = (lyS F (fun i => L 6 31 (40 * s + i)) i).1 ∧ t.2.1 = nI i ∧ BkTo h 0 (lyS F (fun i => L 6 31 (40 * s + i)) i).2 t.2.2) _ m ?_ (k := FU) (by have := FU_lt; omega) (s0 := (0, 0, h)) ⟨rfl, rfl, by rw [← e]; exact BkTo.rf⟩
    rintro i ⟨a, b, h1⟩ hi ⟨rfl, rfl, i1⟩
    dsimp only at i1
    unfold SX9_lays_65
    dsimp only
    by_cases z : i = m
    · subst z
      exact Or.inr ⟨_, by rw [if_pos (Int32.le_refl _)], rfl, i1⟩
    · refine Or.inl ⟨by omega, ?_⟩
      rw [if_neg (le_f (by omega) (by omega) (by omega))]
      unfold FX6_at
      rw [i40, gd_ix (show 40 * s + i < 160 by omega) (by decide), Option.bind_some, nC_n (show 40 * s + i < 2 ^ 31 by omega), lyS_s]
      unfold lyF inL
      dsimp only
      by_cases c : (L 6 31 (40 * s + i)) < 0
      · rw [if_pos (by rw [lg_cmp_lt]; exact c), decide_eq_true c, nI_1]
        exact ⟨_, rfl, rfl, rfl, i1⟩
      · rw [if_neg (by rw [lg_cmp_lt]; exact c), decide_eq_false c]
        by_cases d : 100 < (L 6 31 (40 * s + i))
        · rw [if_pos (by rw [lg_cmp_gt]; exact d), decide_eq_true d, nI_1]
          exact ⟨_, rfl, rfl, rfl, i1⟩
        · rw [if_neg (by rw [lg_cmp_gt]; exact d), decide_eq_false d, gd_ix (show i < 12 by omega) (by decide), nm_eq, nC_n (show i < 2 ^ 31 by omega), nI_1]
          refine ⟨_, rfl, rfl, rfl, i1.tr ?_⟩
          have := bk_p (h := h1) (g := 0) (p := i) (k := 4) (x := (L 6 31 (40 * s + i)).toInt32) (by omega) (by decide)
          rw [i1.at] at this
          exact this
  obtain ⟨⟨x, h'⟩, k1, k2, k3⟩ := key
  dsimp only at k2 k3
  subst k2
  exact ⟨h', k1, k3⟩
theorem r_laysL {h : HI} {L : HL} {F : Nat → Int32} {s n nw z : Nat} {V : Nat → Int64} (e : tk (h 8 33) = F) (b : BP F n nw) (hs : s < 4) (ez : h 8 41 s = nI z) (hz : z ≤ 40) (eV : ∀ i, i < 12 → L 8 42 (40 * s + i) = V i) : ∃ h', loopN (SX10_lays_21 (nI s) L) FU (0, 0, h) = some ((lyS F V (if n < z then n else z)).1, h') ∧ RkTo h (lyS F V (if n < z then n else z)).2 h' := by
  have hn := b.2.1
  obtain ⟨m, em⟩ : ∃ m, (if n < z then n else z) = m := ⟨_, rfl⟩
  have m1 : m ≤ n ∧ m ≤ z ∧ (m = n ∨ m = z) := by
    rw [← em]
    split <;> omega
  rw [em]
  have key : ∃ r, loopN (SX10_lays_21 (nI s) L) FU (0, 0, h) = some r ∧ (fun r : Int32 × HI => r.1 = (lyS F V m).1 ∧ RkTo h (lyS F V m).2 r.2) r := by
    refine gloop (f := SX10_lays_21 (nI s) L) (fun i (t : Int32 × Int32 × HI) => t.1 = (lyS F V i).1 ∧ t.2.1 = nI i ∧ RkTo h (lyS F V i).2 t.2.2) _ m ?_ (k := FU) (by have := FU_lt; omega) (s0 := (0, 0, h)) ⟨rfl, rfl, by rw [← e]; exact RkTo.rf⟩
    rintro i ⟨a, c, h1⟩ hi ⟨rfl, rfl, i1⟩
    dsimp only at i1
    have iv := lyS_inv (V := V) b i (by omega)
    have z1 : h1 8 41 s = nI z := by rw [i1.out (by decide)]; exact ez
    have n1 : h1 8 33 0 = nI n := (rk0 i1.at (by decide)).trans iv.1.1
    unfold SX10_lays_21
    dsimp only
    rw [gd_ix hs (by decide), nC_n (show s < 2 ^ 31 by omega), z1, n1]
    by_cases c : i = m
    · refine Or.inr ⟨((lyS F V i).1, h1), ?_, by rw [← c], by rw [← c]; exact i1⟩
      by_cases d : z ≤ i
      · rw [if_pos (le_t d (by omega) (by omega))]
      · rw [if_neg (le_f d (by omega) (by omega)), if_pos (le_t (by omega) (by omega) (by omega))]
    · refine Or.inl ⟨by omega, ?_⟩
      rw [if_neg (le_f (by omega) (by omega) (by omega)), if_neg (le_f (by omega) (by omega) (by omega)), j40, gd_ix (show 40 * s + i < 160 by omega) (by decide), nC_n (show 40 * s + i < 2 ^ 31 by omega), eV i (by omega), f_inL, Option.bind_some, bI_if, lyS_s]
      unfold lyF
      cases q : inL (V i) with
      | false =>
        rw [if_neg (by decide), if_neg (by decide), nI_1]
        exact ⟨_, rfl, rfl, rfl, i1⟩
      | true =>
        rw [if_pos rfl, if_pos rfl, show FX10_at (nI i) 4 = some (nI (6 + 6 * i + 4)) from f_at i 4, Option.bind_some, gd_ix (show 40 * s + i < 160 by omega) (by decide), gd_ix (show 6 + 6 * i + 4 < 150 by omega) (by decide), nm_eq, nC_n (show 6 + 6 * i + 4 < 2 ^ 31 by omega), nI_1]
        refine ⟨_, rfl, rfl, rfl, i1.tr ?_⟩
        have := rk_u (h := h1) (i := 6 + 6 * i + 4) (x := (V i).toInt32) (by omega)
        rw [i1.at] at this
        exact this
  obtain ⟨⟨x, h'⟩, k1, k2, k3⟩ := key
  dsimp only at k2 k3
  subst k2
  exact ⟨h', k1, k3⟩
def OpR (c r : HI → HL → Option (Int32 × HI)) : Prop := ∀ L, EqL L → Ops (fun h => c h L) (fun h => r h L)
theorem lays_ok (a : Int32) : OpR (FX9_lays a) (FX10_lays a) := by
  intro L eL
  refine Ops_two (fun h i => ?_)
  obtain ⟨n, nw, l, d, c, b1, b2, b3, b4, b5, b6⟩ := i.1
  have hn := b1.2.1
  have f0 : h 0 1 6 = nI n := b1.1
  unfold FX9_lays FX10_lays
  cases y : isP 4 a with
  | false =>
    refine Two.of (Two.bad i) ?_ (fun h' e => ?_)
    · rw [c_isSh, y, Option.bind_some, bI_if, if_neg (by decide)]
    · rw [r_wrongF y, Option.bind_some, if_neg (by decide)]
  | true =>
    obtain ⟨s, hs, rfl⟩ := isP4 y
    obtain ⟨z, hz, ez⟩ := sz i hs
    by_cases m : h 6 29 s = 0
    · refine Two.of (Two.tell i (-1000000006) 5 (by decide) (by decide)) ?_ (fun h' e => ?_)
      · rw [c_isSh, y, Option.bind_some, bI_if, if_pos rfl, c_miss hs, decide_eq_true m, Option.bind_some, bI_if, if_pos rfl]
      · rw [r_wrong hs, (sk e hs).1, if_pos m, Option.bind_some, if_neg (by decide)]
    · obtain ⟨k, ek⟩ : ∃ k, (if n < z then n else z) = k := ⟨_, rfl⟩
      have k1 : k ≤ n := by
        rw [← ek]
        split <;> omega
      have ek2 : (if nI n < nI z then nI n else nI z) = nI k := by
        by_cases q : n < z
        · rw [if_pos (lt_t q (by omega) (by omega)), ← ek, if_pos q]
        · rw [if_neg (lt_f q (by omega) (by omega)), ← ek, if_neg q]
      obtain ⟨h1, q1, q2⟩ := c_laysL (L := L) (show vw (h 0) = CV h 0 from rfl) hs (show k ≤ 12 by omega)
      have iv := lyS_inv (V := fun i => L 6 31 (40 * s + i)) b1 k k1
      refine Two.book (F := (lyS (CV h 0) (fun i => L 6 31 (40 * s + i)) k).2) (x := (lyS (CV h 0) (fun i => L 6 31 (40 * s + i)) k).1) (h1 := h1) i (BkI.up iv.1 b2 b3 b4 b5 b6 iv.2.1 iv.2.2) ?_ q2 (fun h' e => ?_)
      · rw [c_isSh, y, Option.bind_some, bI_if, if_pos rfl, c_miss hs, decide_eq_false m, Option.bind_some, bI_if, if_neg (by decide), gd_ix hs (by decide), nC_n (show s < 2 ^ 31 by omega), nm_eq, f0, ez, ek2, q1, Option.bind_some]
      · obtain ⟨h2, u1, u2⟩ := r_laysL (L := L) (V := fun i => L 6 31 (40 * s + i)) (rB e) b1 hs ((sk e hs).2.trans ez) hz (fun j hj => (eL _ (by omega)).symm)
        rw [ek] at u1 u2
        refine ⟨h2, ?_, RkA.of u2⟩
        try dsimp only
        rw [r_wrong hs, (sk e hs).1, if_neg m, Option.bind_some, if_pos rfl, u1, Option.bind_some]
-- read
def RdS (F : Nat → Int32) (n nw z : Nat) (V : Nat → Int64) (e : Nat) : Prop := e ≤ z ∧ (∀ j, j < e → V j = ((daysS F n nw j).2 4).toInt64) ∧ (e < z → ¬ V e = ((daysS F n nw e).2 4).toInt64)
theorem Rd_eq {F : Nat → Int32} {n nw z : Nat} {V : Nat → Int64} {e e' : Nat} (a : RdS F n nw z V e) (b : RdS F n nw z V e') : e = e' := by
  obtain ⟨a1, a2, a3⟩ := a
  obtain ⟨b1, b2, b3⟩ := b
  by_cases c : e < e'
  · exact absurd (b2 e c) (a3 (by omega))
  · by_cases d : e' < e
    · exact absurd (a2 e' d) (b3 (by omega))
    · omega
theorem c_readL {h h0 : HI} {L : HL} {F : Nat → Int32} {g1 s n nw z : Nat} (e : BkTo h0 2 F h) (b : BP F n nw) (hs : s < 4) (ez : h0 6 30 s = nI z) (hz : z ≤ 40) : ∃ k h', loopN (SX4_firstWrong_11 g1 (nI s) L) FU (0, h) = some (if k = z then 0 else 1 + nI k, h') ∧ RdS F n nw z (fun i => L 6 31 (40 * s + i)) k ∧ ∀ g, g ≠ 2 → h' g = h0 g := by
  have key : ∃ r, loopN (SX4_firstWrong_11 g1 (nI s) L) FU (0, h) = some r ∧ (fun r : Int32 × HI => ∃ k, r.1 = (if k = z then 0 else 1 + nI k) ∧ RdS F n nw z (fun i => L 6 31 (40 * s + i)) k ∧ ∀ g, g ≠ 2 → r.2 g = h0 g) r := by
    refine gloop (f := SX4_firstWrong_11 g1 (nI s) L) (fun i (t : Int32 × HI) => i ≤ z ∧ t.1 = nI i ∧ BkTo h0 2 (daysS F n nw i).2 t.2 ∧ ∀ j, j < i → L 6 31 (40 * s + j) = ((daysS F n nw j).2 4).toInt64) _ z ?_ (k := FU) (by have := FU_lt; omega) (s0 := (0, h)) ⟨by omega, rfl, e, fun j hj => by omega⟩
    rintro i ⟨a, h1⟩ hi ⟨-, rfl, i1, i2⟩
    dsimp only at i1
    have z1 : h1 6 30 s = nI z := by rw [i1.out (by decide)]; exact ez
    have f4 : h1 2 0 5 = (daysS F n nw i).2 4 := (bk0 i1.at).2.2.2.2.1
    unfold SX4_firstWrong_11
    dsimp only
    rw [gd_ix hs (by decide), nC_n (show s < 2 ^ 31 by omega), z1]
    by_cases c : i = z
    · subst c
      exact Or.inr ⟨_, by rw [if_pos (Int32.le_refl _)], i, by rw [if_pos rfl], ⟨by omega, i2, fun q => by omega⟩, fun g eg => i1.out eg⟩
    · rw [if_neg (le_f (by omega) (by omega) (by omega))]
      unfold FX6_at
      rw [i40, gd_ix (show 40 * s + i < 160 by omega) (by decide), Option.bind_some, nC_n (show 40 * s + i < 2 ^ 31 by omega), f4]
      by_cases d : L 6 31 (40 * s + i) = ((daysS F n nw i).2 4).toInt64
      · obtain ⟨h2, q1, q2⟩ := c_days (g := 2) (k := 1) i1.at (daysS_inv b i).2.1 (by decide)
        refine Or.inl ⟨by omega, (nI (i + 1), h2), ?_, by omega, rfl, i1.tr q2, fun j hj => ?_⟩
        · rw [if_pos (by rw [lg_cmp_eq]; exact d), show FX0_goDays 2 1 h1 = some h2 from q1, Option.bind_some, nI_1]
        · by_cases f : j = i
          · rw [f]; exact d
          · exact i2 j (by omega)
      · refine Or.inr ⟨(1 + nI i, h1), ?_, i, ?_, ⟨by omega, i2, fun _ => d⟩, fun g eg => i1.out eg⟩
        · rw [if_neg (by rw [lg_cmp_eq]; exact d)]
        · rw [if_neg c]
  obtain ⟨⟨x, h'⟩, k1, k, k2, k3, k4⟩ := key
  dsimp only at k2 k4
  subst k2
  exact ⟨k, h', k1, k3, k4⟩
theorem r_readL {h : HI} {L : HL} {F : Nat → Int32} {s n nw z : Nat} {V : Nat → Int64} (e : tk (h 8 33) = F) (b : BP F n nw) (hs : s < 4) (ez : h 8 41 s = nI z) (hz : z ≤ 40) (eV : ∀ i, i < 40 → L 8 42 (40 * s + i) = V i) : ∃ k h', loopN (SX10_read_40 (nI s) L) FU (0, h) = some (nI k, h') ∧ RdS F n nw z V k ∧ RkTo h (daysS F n nw k).2 h' := by
  have key : ∃ r, loopN (SX10_read_40 (nI s) L) FU (0, h) = some r ∧ (fun r : Int32 × HI => ∃ k, r.1 = nI k ∧ RdS F n nw z V k ∧ RkTo h (daysS F n nw k).2 r.2) r := by
    refine gloop (f := SX10_read_40 (nI s) L) (fun i (t : Int32 × HI) => i ≤ z ∧ t.1 = nI i ∧ RkTo h (daysS F n nw i).2 t.2 ∧ ∀ j, j < i → V j = ((daysS F n nw j).2 4).toInt64) _ z ?_ (k := FU) (by have := FU_lt; omega) (s0 := (0, h)) ⟨by omega, rfl, by rw [← e]; exact RkTo.rf, fun j hj => by omega⟩
    rintro i ⟨a, h1⟩ hi ⟨-, rfl, i1, i2⟩
    dsimp only at i1
    have z1 : h1 8 41 s = nI z := by rw [i1.out (by decide)]; exact ez
    have f4 : h1 8 33 4 = (daysS F n nw i).2 4 := rk0 i1.at (by decide)
    unfold SX10_read_40
    dsimp only
    rw [gd_ix hs (by decide), nC_n (show s < 2 ^ 31 by omega), z1]
    by_cases c : i = z
    · subst c
      exact Or.inr ⟨_, by rw [if_pos (Int32.le_refl _)], i, rfl, ⟨by omega, i2, fun q => by omega⟩, i1⟩
    · rw [if_neg (le_f (by omega) (by omega) (by omega)), j40, gd_ix (show 40 * s + i < 160 by omega) (by decide), nC_n (show 40 * s + i < 2 ^ 31 by omega), f4, eV i (by omega)]
      by_cases d : V i = ((daysS F n nw i).2 4).toInt64
      · obtain ⟨h2, q1, q2⟩ := r_day i1.at (daysS_inv b i).2.1
        refine Or.inl ⟨by omega, (nI (i + 1), h2), ?_, by omega, rfl, i1.tr q2, fun j hj => ?_⟩
        · rw [if_pos (by rw [lg_cmp_eq]; exact d), q1, Option.bind_some, nI_1]
        · by_cases f : j = i
          · rw [f]; exact d
          · exact i2 j (by omega)
      · refine Or.inr ⟨(nI i, h1), ?_, i, rfl, ⟨by omega, i2, fun _ => d⟩, i1⟩
        rw [if_neg (by rw [lg_cmp_eq]; exact d)]
  obtain ⟨⟨x, h'⟩, k1, k, k2, k3, k4⟩ := key
  dsimp only at k2 k4
  subst k2
  exact ⟨k, h', k1, k3, k4⟩
theorem read_ok (a : Int32) : OpR (FX9_read a) (FX10_read a) := by
  intro L eL
  refine Ops_two (fun h i => ?_)
  obtain ⟨n, nw, l, d, c, b1, b2, b3, b4, b5, b6⟩ := i.1
  have hn := b1.2.1
  unfold FX9_read FX10_read
  have g3 : ∀ h', RV h' = CV h → h' 8 33 3 = nI d := fun h' e => (rk0 (rB e) (by decide)).trans b3
  cases y : isP 4 a with
  | false =>
    refine Two.of (Two.bad i) ?_ (fun h' e => ?_)
    · rw [c_isSh, y, Option.bind_some, bI_if, if_neg (by decide)]
    · rw [r_wrongF y, Option.bind_some, if_neg (by decide)]
  | true =>
    obtain ⟨s, hs, rfl⟩ := isP4 y
    obtain ⟨z, hz, ez⟩ := sz i hs
    by_cases m : h 6 29 s = 0
    · refine Two.of (Two.tell i (-1000000006) 5 (by decide) (by decide)) ?_ (fun h' e => ?_)
      · rw [c_isSh, y, Option.bind_some, bI_if, if_pos rfl, c_miss hs, decide_eq_true m, Option.bind_some, bI_if, if_pos rfl]
      · rw [r_wrong hs, (sk e hs).1, if_pos m, Option.bind_some, if_neg (by decide)]
    · have eG : dayGo 40 (CV h 0 3) = decide (d ≤ 59) := by
        unfold dayGo
        rw [b3, show (40 : Int32) = nI 40 from rfl, nI_add, show (99 : Int32) = nI 99 from rfl]
        by_cases y : d ≤ 59
        · rw [decide_eq_true y, decide_eq_true (le_t (by omega) (by omega) (by omega))]
        · rw [decide_eq_false y, decide_eq_false (le_f (by omega) (by omega) (by omega))]
      by_cases w : d ≤ 59
      · obtain ⟨h1, p1, p2⟩ := c_take (h := h) (g := 2) (g1 := 0) (by decide)
        obtain ⟨k, h2, q1, q2, q3⟩ := c_readL (g1 := 0) (L := L) p2 b1 hs ez hz
        refine Two.same (x := if k = z then 0 else 1 + nI k) (h1 := h2) i ?_ (CTo.idle (fun g e _ => q3 g e)) (fun h' e => ?_)
        · rw [c_isSh, y, Option.bind_some, bI_if, if_pos rfl, c_miss hs, decide_eq_false m, Option.bind_some, bI_if, if_neg (by decide), c_mayGo, eG, decide_eq_true w, Option.bind_some, bI_if, if_pos rfl]
          unfold FX4_firstWrong
          rw [p1, Option.bind_some, q1, Option.bind_some, Option.bind_some]
        · obtain ⟨h3, u1, u2, u3⟩ := r_put (rB e)
          have z3 : h3 8 41 s = nI z := by rw [u2.1 8 41 (by decide)]; exact (sk e hs).2.trans ez
          obtain ⟨k', h4, v1, v2, v3⟩ := r_readL (L := L) (V := fun i => L 6 31 (40 * s + i)) u2.2 b1 hs z3 hz (fun j hj => (eL _ (by omega)).symm)
          have ek := Rd_eq q2 v2
          subst ek
          obtain ⟨h5, w1, w2⟩ := r_putsBack (h := h4) (F := CV h 0) (by rw [v3.out (by omega)]; exact u3)
          have z5 : h5 8 41 s = nI z := by rw [w2.out (by decide), v3.out (by decide)]; exact z3
          refine ⟨h5, ?_, RTo.same (by rw [e]; exact (u2.tr (RkA.of v3)).tr (RkA.of w2))⟩
          try dsimp only
          rw [r_wrong hs, (sk e hs).1, if_neg m, Option.bind_some, if_pos rfl, g3 h' e, if_pos (show nI d ≤ 59 from le_t (b := 59) w (by omega) (by decide)), u1, Option.bind_some, v1, Option.bind_some]
          try dsimp only
          unfold JX10_read_84
          rw [w1, Option.bind_some, gd_ix hs (by decide), nC_n (show s < 2 ^ 31 by omega), z5]
          by_cases f : k = z
          · rw [if_pos f, if_pos (by rw [f])]
          · have := q2.1
            rw [if_neg f, if_neg (nI_ne f (by omega) (by omega))]
      · refine Two.of (Two.late i) ?_ (fun h' e => ?_)
        · rw [c_isSh, y, Option.bind_some, bI_if, if_pos rfl, c_miss hs, decide_eq_false m, Option.bind_some, bI_if, if_neg (by decide), c_mayGo, eG, decide_eq_false w, Option.bind_some, bI_if, if_neg (by decide)]
        · rw [r_wrong hs, (sk e hs).1, if_neg m, Option.bind_some, if_pos rfl, g3 h' e, if_neg (show ¬ nI d ≤ 59 from le_f (b := 59) w (by omega) (by decide))]
