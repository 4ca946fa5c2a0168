-- tonight: whose learning brings most
def tnV (F : Nat → Int32) (n nw k p : Nat) : Int32 := (daysS (learnS F p (mi F p)) n nw k).2 4
def tnF (F : Nat → Int32) (n nw k p : Nat) (x : Int32 × Int32) : Int32 × Int32 := if tnV F n nw k p ≤ x.1 then x else (tnV F n nw k p, nI p)
def tnS (F : Nat → Int32) (n nw k i : Nat) : Int32 × Int32 := foldN (tnF F n nw k) i ((daysS F n nw k).2 4, -1)
theorem tnS_s (F : Nat → Int32) (n nw k i : Nat) : tnS F n nw k (i + 1) = tnF F n nw k i (tnS F n nw k i) := rfl
theorem tnS_who {F : Nat → Int32} {n nw k : Nat} (i : Nat) : (tnS F n nw k i).2 = -1 ∨ ∃ p, p < i ∧ (tnS F n nw k i).2 = nI p := by
  induction i with
  | zero => exact Or.inl rfl
  | succ i ih =>
    rw [tnS_s]
    unfold tnF
    split
    · rcases ih with z | ⟨p, z1, z2⟩
      · exact Or.inl z
      · exact Or.inr ⟨p, by omega, z2⟩
    · exact Or.inr ⟨i, by omega, rfl⟩
theorem mi_600 {F : Nat → Int32} {n nw p : Nat} (b : BP F n nw) (hp : p < n) : rg (mi F p) 0 600 := by
  obtain ⟨a, a1, a2, a3⟩ := (b.2.2.2.2.1 p hp).2.2.1
  exact ⟨a, by omega, by omega, a3⟩
theorem c_tonight {h : HI} {F : Nat → Int32} {n nw k : Nat} (e : vw (h 0) = F) (b : BP F n nw) (hk : k ≤ 200) : ∃ h', FX4_worthLearning 0 (nI k) h = some ((tnS F n nw k n).2, h') ∧ ∀ g, g ≠ 2 → h' g = h g := by
  have hn := b.2.1
  obtain ⟨h1, a1, a2⟩ := c_ahead e b hk
  have f4 : h1 2 0 5 = (daysS F n nw k).2 4 := (bk0 a2.at).2.2.2.2.1
  have key : ∃ r, loopN (SX4_worthLearning_20 0 (nI k)) FU ((daysS F n nw k).2 4, -1, 0, h1) = some r ∧ (fun r : Int32 × HI => r.1 = (tnS F n nw k n).2 ∧ ∀ g, g ≠ 2 → r.2 g = h g) r := by
    refine gloop (f := SX4_worthLearning_20 0 (nI k)) (fun i (s : Int32 × Int32 × Int32 × HI) => s.1 = (tnS F n nw k i).1 ∧ s.2.1 = (tnS F n nw k i).2 ∧ s.2.2.1 = nI i ∧ ∀ g, g ≠ 2 → s.2.2.2 g = h g) _ n ?_ (k := FU) (by have := FU_lt; omega) (s0 := ((daysS F n nw k).2 4, -1, 0, h1)) ⟨rfl, rfl, rfl, fun g hg => a2.out hg⟩
    rintro i ⟨s1, s2, q, h2⟩ hi ⟨rfl, rfl, rfl, i2⟩
    dsimp only at i2
    have e2 : vw (h2 0) = F := by rw [i2 0 (by decide), e]
    have f0 : h2 0 1 6 = nI n := ((bk0 e2).1).trans b.1
    unfold SX4_worthLearning_20
    dsimp only
    rw [f0]
    by_cases z : i = n
    · subst z
      exact Or.inr ⟨((tnS F i nw k i).2, h2), by rw [if_pos (Int32.le_refl _)], rfl, i2⟩
    · obtain ⟨h3, t1, t2⟩ := c_take (h := h2) (g := 2) (g1 := 0) (by decide)
      rw [e2] at t2
      have em : h3 2 4 i = mi F i := by rw [← t2.at, vmi (by omega)]
      obtain ⟨h4, l1, l2⟩ := c_learn (m := mi F i) t2.at (show i < 12 by omega) (b.2.2.2.2.1 i (by omega)).2.2.1
      have li := learnS_inv b (show i < n by omega) (mi_600 (p := i) b (by omega))
      obtain ⟨h5, d1, d2⟩ := c_days l2.at li.2.1 hk
      have f5 : h5 2 0 5 = tnV F n nw k i := (bk0 d2.at).2.2.2.2.1
      have fr : ∀ g, g ≠ 2 → h5 g = h g := fun g hg => by rw [d2.out hg, l2.out hg, t2.out hg, i2 g hg]
      rw [if_neg (le_f (by omega) (by omega) (by omega)), t1, Option.bind_some, gd_ix (show i < 12 by omega) (by decide), nC_n (show i < 2 ^ 31 by omega), em, l1, Option.bind_some, d1, Option.bind_some, f5, nm_eq, nI_1]
      refine Or.inl ⟨by omega, ?_⟩
      rw [tnS_s]
      unfold tnF
      by_cases c : tnV F n nw k i ≤ (tnS F n nw k i).1
      · rw [if_pos c, if_pos c]
        exact ⟨_, rfl, rfl, rfl, rfl, fr⟩
      · rw [if_neg c, if_neg c]
        exact ⟨_, rfl, rfl, rfl, rfl, fr⟩
  obtain ⟨⟨r, h2⟩, k1, k2, k3⟩ := key
  dsimp only at k2
  subst k2
  refine ⟨h2, ?_, k3⟩
  unfold FX4_worthLearning
  rw [a1, Option.bind_some, nm_eq, f4, k1]
  rfl
theorem r_score {h : HI} {F G : Nat → Int32} {n nw k : Nat} (e : tk (h 8 33) = F) (b : BP F n nw) (hk : k ≤ 200) (e2 : tk (h 8 35) = G) : ∃ h', FX10_scoreOn (nI k) h = some ((daysS F n nw k).2 4, h') ∧ RkTo h G h' := by
  obtain ⟨h1, d1, d2⟩ := r_days e b hk
  have e3 : tk (h1 8 35) = G := by rw [d2.out (by decide), e2]
  obtain ⟨h2, p1, p2⟩ := r_putsBack e3
  have f4 : h1 8 33 4 = (daysS F n nw k).2 4 := rk0 d2.at (by decide)
  refine ⟨h2, ?_, d2.tr p2⟩
  unfold FX10_scoreOn
  rw [d1, Option.bind_some]
  dsimp only
  rw [nm_eq, f4, p1]
  rfl
theorem r_tonightL {h : HI} {F : Nat → Int32} {n nw k : Nat} (e : tk (h 8 33) = F) (b : BP F n nw) (hk : k ≤ 200) (e2 : tk (h 8 35) = F) : ∃ h', loopN (SX10_tonight_49 (nI k)) FU (-1, (daysS F n nw k).2 4, 0, h) = some ((tnS F n nw k n).2, h') ∧ RkTo h F h' := by
  have hn := b.2.1
  have key : ∃ r, loopN (SX10_tonight_49 (nI k)) FU (-1, (daysS F n nw k).2 4, 0, h) = some r ∧ (fun r : Int32 × HI => r.1 = (tnS F n nw k n).2 ∧ RkTo h F r.2) r := by
    refine gloop (f := SX10_tonight_49 (nI k)) (fun i (s : Int32 × Int32 × Int32 × HI) => s.1 = (tnS F n nw k i).2 ∧ s.2.1 = (tnS F n nw k i).1 ∧ s.2.2.1 = nI i ∧ RkTo h F s.2.2.2) _ n ?_ (k := FU) (by have := FU_lt; omega) (s0 := (-1, (daysS F n nw k).2 4, 0, h)) ⟨rfl, rfl, rfl, by rw [← e]; exact RkTo.rf⟩
    rintro i ⟨s1, s2, q, h2⟩ hi ⟨rfl, rfl, rfl, i2⟩
    dsimp only at i2
    have f0 : h2 8 33 0 = nI n := (rk0 i2.at (by decide)).trans b.1
    unfold SX10_tonight_49
    dsimp only
    rw [f0]
    by_cases z : i = n
    · subst z
      exact Or.inr ⟨((tnS F i nw k i).2, h2), by rw [if_pos (Int32.le_refl _)], rfl, i2⟩
    · have em := its2 (h := h2) (show i < 12 by omega)
      rw [i2.at] at em
      obtain ⟨h3, l1, l2⟩ := r_learn (m := mi F i) i2.at (show i < 12 by omega) (b.2.2.2.2.1 i (by omega)).2.2.1
      have li := learnS_inv b (show i < n by omega) (mi_600 (p := i) b (by omega))
      have e3 : tk (h3 8 35) = F := by rw [l2.out (by decide), i2.out (by decide), e2]
      obtain ⟨h4, d1, d2⟩ := r_score l2.at li.2.1 hk e3
      have d3 : FX10_scoreOn (nI k) h3 = some (tnV F n nw k i, h4) := d1
      rw [if_neg (le_f (by omega) (by omega) (by omega)), em, Option.bind_some, l1, Option.bind_some, d3, Option.bind_some]
      dsimp only
      refine Or.inl ⟨by omega, ?_⟩
      rw [tnS_s]
      unfold tnF JX10_tonight_92
      rw [nI_1]
      by_cases c : tnV F n nw k i ≤ (tnS F n nw k i).1
      · rw [if_pos c, if_pos c, if_pos c]
        exact ⟨_, rfl, rfl, rfl, rfl, (i2.tr l2).tr d2⟩
      · rw [if_neg c, if_neg c, if_neg c]
        exact ⟨_, rfl, rfl, rfl, rfl, (i2.tr l2).tr d2⟩
  obtain ⟨⟨r, h2⟩, k1, k2, k3⟩ := key
  dsimp only at k2
  subst k2
  exact ⟨h2, k1, k3⟩
