-- PLANS: bounds of values; BEST, the fewest minutes, what brings most, what is missed least
theorem rg_mono {x : Int32} {a b a' b' : Nat} (h : rg x a b) (ha : a' ≤ a) (hb : b ≤ b') : rg x a' b' := by
  obtain ⟨n, h1, h2, h3⟩ := h
  exact ⟨n, by omega, by omega, h3⟩
theorem rg_div {x : Int32} {a b : Nat} (d : Nat) (h : rg x a b) (hb : b < 2 ^ 31) (hd : 0 < d) (hd2 : d < 2 ^ 31) : rg (x / nI d) 0 (b / d) := by
  obtain ⟨n, h1, h2, rfl⟩ := h
  exact ⟨n / d, Nat.zero_le _, Nat.div_le_div_right h2, pk_div (by omega) hd hd2⟩
theorem rg_add {x y : Int32} {a b c d : Nat} (h : rg x a b) (k : rg y c d) : rg (x + y) (a + c) (b + d) := by
  obtain ⟨n, h1, h2, rfl⟩ := h
  obtain ⟨m, k1, k2, rfl⟩ := k
  exact ⟨n + m, by omega, by omega, nI_add n m⟩
theorem rg_mul {x y : Int32} {b d : Nat} (h : rg x 0 b) (k : rg y 0 d) : rg (x * y) 0 (b * d) := by
  obtain ⟨n, h1, h2, rfl⟩ := h
  obtain ⟨m, k1, k2, rfl⟩ := k
  exact ⟨n * m, Nat.zero_le _, Nat.mul_le_mul h2 k2, pk_mul n m⟩
theorem rg_lit (n : Nat) : rg (nI n) n n := ⟨n, Nat.le_refl n, Nat.le_refl n, rfl⟩
theorem rg_nn {x : Int32} {a b : Nat} (h : rg x a b) (hb : b < 2 ^ 31) : ¬ x < 0 := by
  obtain ⟨n, h1, h2, rfl⟩ := h
  exact nI_pos (by omega)
theorem gain_rg {F : Nat → Int32} {p w : Nat} {r : Bool} (hp : PI F p) (hw : WI F w) : rg (gainS F p w r) 0 300 := by
  have pl : rg (if tp F p = wt F w then wo F w * sd F p / 10 else 0) 0 99 := by
    split
    · exact rg_mono (rg_div 10 (rg_mul hw.2.1 hp.2.2.2.1) (by decide) (by decide) (by decide)) (by decide) (by decide)
    · exact ⟨0, by decide, by decide, rfl⟩
  unfold gainS
  dsimp only
  generalize (if tp F p = wt F w then wo F w * sd F p / 10 else 0) = x at pl ⊢
  have th : rg (if r = true then x else x / 2) 0 99 := by
    split
    · exact pl
    · exact rg_mono (rg_div 2 pl (by decide) (by decide) (by decide)) (by decide) (by decide)
  generalize (if r = true then x else x / 2) = y at th ⊢
  have q4 : rg (wo F w / 4) 0 99 := rg_mono (rg_div 4 hw.2.1 (by decide) (by decide) (by decide)) (by decide) (by decide)
  split
  · exact rg_mono th (by decide) (by decide)
  split
  · exact rg_mono q4 (by decide) (by decide)
  split
  · split
    · exact rg_mono th (by decide) (by decide)
    · exact rg_mono (rg_div 3 th (by decide) (by decide) (by decide)) (by decide) (by decide)
  split
  · exact rg_mono (rg_add q4 (rg_lit 1)) (by decide) (by decide)
  split
  · split
    · exact rg_mono (rg_mul (rg_mono (rg_lit 3) (by decide) (Nat.le_refl 3)) pl) (by decide) (by decide)
    · exact rg_mono pl (by decide) (by decide)
  · exact rg_mono pl (by decide) (by decide)
theorem by_rg {F : Nat → Int32} {n w : Nat} {set : Int32} {r : Bool} (hP : ∀ p, p < n → PI F p) (hw : WI F w) : rg (byS F n w set r).2 0 300 := by
  rcases (byS_inv (set := set) (r := r) hw.2.1 n).2 with ⟨-, e⟩ | ⟨p, hp, -, e, -⟩
  · rw [e]
    exact rg_mono (rg_div 10 hw.2.1 (by decide) (by decide) (by decide)) (by decide) (by decide)
  · rw [e]
    exact gain_rg (hP p hp) hw
theorem met_rg {F : Nat → Int32} {n w : Nat} {set : Int32} {r md : Bool} (hP : ∀ p, p < n → PI F p) (hw : WI F w) : rg (metS F n w set r md) 0 99 := by
  unfold metS
  have t : rg ((byS F n w set r).2 + (if md = true then wo F w / 5 else 0)) 0 400 := by
    have k : rg (if md = true then wo F w / 5 else 0) 0 99 := by
      split
      · exact rg_mono (rg_div 5 hw.2.1 (by decide) (by decide) (by decide)) (by decide) (by decide)
      · exact ⟨0, by decide, by decide, rfl⟩
    exact rg_mono (rg_add (by_rg hP hw) k) (by decide) (by decide)
  generalize (byS F n w set r).2 + (if md = true then wo F w / 5 else 0) = x at t ⊢
  split
  · next c =>
    obtain ⟨a, -, ha, rfl⟩ := t
    obtain ⟨b, -, hb, e⟩ := hw.2.1
    rw [e, nI_ltI (by omega) (by omega)] at c
    exact ⟨a, by omega, by omega, rfl⟩
  · exact hw.2.1
theorem value_rg {F : Nat → Int32} {n nw : Nat} {set : Int32} (hP : ∀ p, p < n → PI F p) (hW : ∀ w, w < nw → WI F w) (h2 : nw ≤ 12) : rg (valueS F n nw set) 0 1188 := by
  have := foldN_inv (f := fun w a => a + metS F n w set (ropeS F n set) (mendS F n set)) (fun i x => rg x 0 (99 * i)) (n := nw) (a := 0) ⟨0, by decide, by decide, rfl⟩ (fun i x hi hx => rg_mono (rg_add hx (met_rg hP (hW i hi))) (by decide) (by omega))
  exact rg_mono this (by decide) (by omega)
theorem min_0 (F : Nat → Int32) {n : Nat} (hn : n ≤ 12) : minS F n 0 = 0 := by
  unfold minS
  have := foldN_inv (f := fun p a => a + (if bs 0 p = true then mi F p else 0)) (fun i x => x = 0) (n := n) (a := (0 : Int32)) rfl (fun i x hi hx => by subst hx; rw [bs_0 (by omega)]; rfl)
  exact this
-- BEST: (set, value, minutes)
def bestF (F : Nat → Int32) (n nw : Nat) (m : Int32) (i : Nat) (x : Int32 × Int32 × Int32) : Int32 × Int32 × Int32 :=
  if m < minS F n (nI i) then x else if x.2.1 < valueS F n nw (nI i) ∨ valueS F n nw (nI i) = x.2.1 ∧ ¬ x.2.2 ≤ minS F n (nI i) then (nI i, valueS F n nw (nI i), minS F n (nI i)) else x
def bestS (F : Nat → Int32) (n nw : Nat) (m : Int32) (k : Nat) : Int32 × Int32 × Int32 := foldN (fun j x => bestF F n nw m (j + 1) x) k (0, valueS F n nw 0, 0)
theorem bestS_inv {F : Nat → Int32} {n nw : Nat} {m : Int32} (hn : n ≤ 12) (k : Nat) : (bestS F n nw m k).2.1 = valueS F n nw (bestS F n nw m k).1 ∧ (bestS F n nw m k).2.2 = minS F n (bestS F n nw m k).1 ∧ ¬ (bestS F n nw m k).1 < 0 ∨ 2 ^ 31 ≤ k := by
  by_cases hk : 2 ^ 31 ≤ k
  · exact Or.inr hk
  refine Or.inl ?_
  unfold bestS
  refine foldN_inv (fun i (x : Int32 × Int32 × Int32) => x.2.1 = valueS F n nw x.1 ∧ x.2.2 = minS F n x.1 ∧ ¬ x.1 < 0) ⟨rfl, (min_0 F hn).symm, Int32.lt_irrefl⟩ (fun i x hi hx => ?_)
  unfold bestF
  split
  · exact hx
  split
  · exact ⟨rfl, rfl, nI_pos (by omega)⟩
  · exact hx
theorem c_best {F : Nat → Int32} {n nw : Nat} {h : HI} {m : Int32} (c : CH F n nw h) (hn2 : n ≤ 12) (hw2 : nw ≤ 12) : ∃ h', FX1_bestSet m h = some ((bestS F n nw m (2 ^ n - 1)).1, h') ∧ (∀ g, g ≠ 4 → h' g = h g) ∧ CH F n nw h' := by
  have h2n := p2_le hn2
  have h2p : 0 < 2 ^ n := Nat.pow_pos (by decide)
  obtain ⟨h1, e1, e2, e3⟩ := c_value (set := 0) c hn2 hw2
  have key : ∃ r, loopN (SX1_bestSet_14 m) FU (0, valueS F n nw 0, 0, 1, h1) = some r ∧ (fun r : Int32 × HI => r.1 = (bestS F n nw m (2 ^ n - 1)).1 ∧ (∀ g, g ≠ 4 → r.2 g = h g) ∧ CH F n nw r.2) r := by
    refine gloop (f := SX1_bestSet_14 m) (fun i (s : Int32 × Int32 × Int32 × Int32 × HI) => (s.1, s.2.1, s.2.2.1) = bestS F n nw m i ∧ s.2.2.2.1 = nI (i + 1) ∧ (∀ g, g ≠ 4 → s.2.2.2.2 g = h g) ∧ CH F n nw s.2.2.2.2) _ (2 ^ n - 1) ?_ (k := FU) (by have := FU_lt; omega) (s0 := (0, valueS F n nw 0, 0, 1, h1)) ⟨rfl, rfl, e2, e3⟩
    rintro i ⟨a, b, d, q, h2⟩ hi ⟨i0, rfl, i1, i2⟩
    dsimp only at i0 i1 i2
    by_cases z : i = 2 ^ n - 1
    · refine Or.inr ⟨(a, h2), ?_, by rw [← z, ← i0], i1, i2⟩
      simp only [SX1_bestSet_14, i2.1, p2 hn2, nI_leI (show 2 ^ n < 2 ^ 31 by omega) (show i + 1 < 2 ^ 31 by omega)]
      rw [if_pos (by omega)]
    · refine Or.inl ⟨by omega, ?_⟩
      obtain ⟨h3, f1, f2, f3⟩ := c_value (set := nI (i + 1)) i2 hn2 hw2
      have es : bestS F n nw m (i + 1) = bestF F n nw m (i + 1) (a, b, d) := by rw [i0]; rfl
      simp only [SX1_bestSet_14, JX1_bestSet_66, i2.1, p2 hn2, nI_leI (show 2 ^ n < 2 ^ 31 by omega) (show i + 1 < 2 ^ 31 by omega), c_minutes i2 hn2, Option.bind_some, f1, nI_1, es, bestF]
      rw [if_neg (by omega)]
      have fr : ∀ g, g ≠ 4 → h3 g = h g := fun g hg => by rw [f2 g hg]; exact i1 g hg
      by_cases c1 : m < minS F n (nI (i + 1))
      · simp only [c1, if_true]
        exact ⟨_, rfl, rfl, rfl, i1, i2⟩
      · simp only [c1, if_false]
        by_cases c2 : b < valueS F n nw (nI (i + 1))
        · simp only [c2, if_true, true_or]
          exact ⟨_, rfl, rfl, rfl, fr, f3⟩
        · by_cases c3 : valueS F n nw (nI (i + 1)) = b
          · by_cases c4 : d ≤ minS F n (nI (i + 1))
            · subst c3
              simp only [Int32.lt_irrefl, c4, if_true, if_false, not_true, and_false, or_false]
              exact ⟨_, rfl, rfl, rfl, fr, f3⟩
            · subst c3
              simp only [Int32.lt_irrefl, c4, if_true, if_false, not_false_eq_true, and_true, or_true]
              exact ⟨_, rfl, rfl, rfl, fr, f3⟩
          · simp only [c2, c3, if_false, false_and, or_false]
            exact ⟨_, rfl, rfl, rfl, fr, f3⟩
  obtain ⟨⟨x, h'⟩, k1, k2, k3, k4⟩ := key
  dsimp only at k2 k3 k4
  subst k2
  refine ⟨h', ?_, k3, k4⟩
  simp only [FX1_bestSet, e1, Option.bind_some, k1]
/-- the reference: findBest leaves it in three fields -/
theorem r_best {h : HI} {n nw : Nat} {m : Int32} (hn : h 8 33 0 = nI n) (hn2 : n ≤ 12) (hw : h 8 33 1 = nI nw) (hw2 : nw ≤ 12) (ho : ∀ w, w < nw → rg (wo (tk (h 8 33)) w) 0 99) (hm : ¬ m < 0) : ∃ h', FX10_findBest m h = some h' ∧ (∀ g, g ≠ 8 → h' g = h g) ∧ (∀ k, k ≠ 32 → h' 8 k = h 8 k) ∧ (∀ j, j ≠ 5 → j ≠ 6 → j ≠ 7 → h' 8 32 j = h 8 32 j) ∧ (h' 8 32 5, h' 8 32 6, h' 8 32 7) = bestS (tk (h 8 33)) n nw m (2 ^ n - 1) := by
  have h2n := p2_le hn2
  have h2p : 0 < 2 ^ n := Nat.pow_pos (by decide)
  have key : ∃ r, loopN (SX10_findBest_7 m) FU (0, hP1 h 8 32 5 (-1)) = some r ∧ (fun h' : HI => (∀ g, g ≠ 8 → h' g = h g) ∧ (∀ k, k ≠ 32 → h' 8 k = h 8 k) ∧ (∀ j, j ≠ 5 → j ≠ 6 → j ≠ 7 → h' 8 32 j = h 8 32 j) ∧ (h' 8 32 5, h' 8 32 6, h' 8 32 7) = bestS (tk (h 8 33)) n nw m (2 ^ n - 1)) r := by
    refine gloop (f := SX10_findBest_7 m) (fun i (s : Int32 × HI) => s.1 = nI i ∧ (∀ g, g ≠ 8 → s.2 g = h g) ∧ (∀ k, k ≠ 32 → s.2 8 k = h 8 k) ∧ (∀ j, j ≠ 5 → j ≠ 6 → j ≠ 7 → s.2 8 32 j = h 8 32 j) ∧ (i = 0 ∧ s.2 8 32 5 = -1 ∨ 0 < i ∧ (s.2 8 32 5, s.2 8 32 6, s.2 8 32 7) = bestS (tk (h 8 33)) n nw m (i - 1))) _ (2 ^ n) ?_ (k := FU) (by have := FU_lt; omega) (s0 := (0, hP1 h 8 32 5 (-1))) ⟨rfl, fun g hg => hP1_g hg, fun k hk => by dsimp only; exact hP1_k hk, fun j h5 _ _ => by simp [hP1_at, h5], Or.inl ⟨rfl, by simp [hP1_at]⟩⟩
    rintro i ⟨a, h1⟩ hi ⟨rfl, i1, i2, i3, i4⟩
    dsimp only at i1 i2 i3 i4
    have e33 := i2 33 (by decide)
    by_cases z : i = 2 ^ n
    · refine Or.inr ⟨h1, ?_, i1, i2, i3, ?_⟩
      · simp only [SX10_findBest_7, e33, hn, p2 hn2, nI_leI (show 2 ^ n < 2 ^ 31 by omega) (show i < 2 ^ 31 by omega)]
        rw [if_pos (by omega)]
      · rcases i4 with ⟨z1, -⟩ | ⟨-, z1⟩
        · omega
        · rw [z1, z]
    · refine Or.inl ⟨by omega, ?_⟩
      have rm := r_minutes (h := h1) (set := nI i) (by rw [e33]; exact hn) hn2
      have rv := r_value (h := h1) (set := nI i) (by rw [e33]; exact hn) hn2 (by rw [e33]; exact hw) hw2 (by rw [e33]; exact ho)
      rw [e33] at rm rv
      simp only [SX10_findBest_7, JX10_findBest_39, JX10_findBest_79, e33, hn, p2 hn2, nI_leI (show 2 ^ n < 2 ^ 31 by omega) (show i < 2 ^ 31 by omega), rm, rv, Option.bind_some, nI_1, nm_eq]
      rw [if_neg (by omega)]
      -- what is written when a better one is found
      have put : ∀ x y v : Int32, (∀ g, g ≠ 8 → (hP1 (hP1 (hP1 h1 8 32 5 x) 8 32 6 y) 8 32 7 v) g = h g) ∧ (∀ k, k ≠ 32 → (hP1 (hP1 (hP1 h1 8 32 5 x) 8 32 6 y) 8 32 7 v) 8 k = h 8 k) ∧ (∀ j, j ≠ 5 → j ≠ 6 → j ≠ 7 → (hP1 (hP1 (hP1 h1 8 32 5 x) 8 32 6 y) 8 32 7 v) 8 32 j = h 8 32 j) ∧ ((hP1 (hP1 (hP1 h1 8 32 5 x) 8 32 6 y) 8 32 7 v) 8 32 5, (hP1 (hP1 (hP1 h1 8 32 5 x) 8 32 6 y) 8 32 7 v) 8 32 6, (hP1 (hP1 (hP1 h1 8 32 5 x) 8 32 6 y) 8 32 7 v) 8 32 7) = (x, y, v) := by
        intro x y v
        refine ⟨fun g hg => by rw [hP1_g hg, hP1_g hg, hP1_g hg]; exact i1 g hg, fun k hk => by rw [hP1_k hk, hP1_k hk, hP1_k hk]; exact i2 k hk, fun j a5 a6 a7 => by simp [hP1_at, a5, a6, a7, i3 j a5 a6 a7], by simp [hP1_at]⟩
      rcases i4 with ⟨z1, z2⟩ | ⟨z1, z2⟩
      · subst z1
        have m0 : minS (tk (h 8 33)) n (nI 0) = 0 := min_0 _ hn2
        have p := put (nI 0) (valueS (tk (h 8 33)) n nw (nI 0)) 0
        simp only [m0, hm, if_false, z2, show ((-1 : Int32) < 0) = True from eq_true (by decide), if_true]
        exact ⟨_, rfl, rfl, p.1, p.2.1, p.2.2.1, Or.inr ⟨by omega, by rw [p.2.2.2]; rfl⟩⟩
      · obtain ⟨j, rfl⟩ : ∃ j, i = j + 1 := ⟨i - 1, by omega⟩
        rw [Nat.add_sub_cancel] at z2
        have es : bestS (tk (h 8 33)) n nw m (j + 1) = bestF (tk (h 8 33)) n nw m (j + 1) (h1 8 32 5, h1 8 32 6, h1 8 32 7) := by rw [z2]; rfl
        have nn : ¬ h1 8 32 5 < 0 := by
          rcases bestS_inv (F := tk (h 8 33)) (nw := nw) (m := m) hn2 j with q | q
          · rw [← z2] at q; exact q.2.2
          · omega
        have p := put (nI (j + 1)) (valueS (tk (h 8 33)) n nw (nI (j + 1))) (minS (tk (h 8 33)) n (nI (j + 1)))
        by_cases c1 : m < minS (tk (h 8 33)) n (nI (j + 1))
        · simp only [c1, if_true]
          exact ⟨_, rfl, rfl, i1, i2, i3, Or.inr ⟨by omega, by simp only [Nat.add_sub_cancel, es, bestF, c1, if_true]⟩⟩
        · simp only [c1, if_false, nn]
          by_cases c2 : h1 8 32 6 < valueS (tk (h 8 33)) n nw (nI (j + 1))
          · simp only [c2, if_true]
            exact ⟨_, rfl, rfl, p.1, p.2.1, p.2.2.1, Or.inr ⟨by omega, by rw [p.2.2.2]; simp only [Nat.add_sub_cancel, es, bestF, c1, c2, if_false, if_true, true_or]⟩⟩
          · by_cases c3 : valueS (tk (h 8 33)) n nw (nI (j + 1)) = h1 8 32 6
            · by_cases c4 : h1 8 32 7 ≤ minS (tk (h 8 33)) n (nI (j + 1))
              · rw [if_neg c2, if_pos c3, if_pos c4]
                exact ⟨_, rfl, rfl, i1, i2, i3, Or.inr ⟨by omega, by rw [Nat.add_sub_cancel, es, bestF, if_neg c1, if_neg (fun q => q.elim c2 (fun q => q.2 c4))]⟩⟩
              · rw [if_neg c2, if_pos c3, if_neg c4]
                exact ⟨_, rfl, rfl, p.1, p.2.1, p.2.2.1, Or.inr ⟨by omega, by rw [p.2.2.2, Nat.add_sub_cancel, es, bestF, if_neg c1, if_pos (Or.inr ⟨c3, c4⟩)]⟩⟩
            · rw [if_neg c2, if_neg c3]
              exact ⟨_, rfl, rfl, i1, i2, i3, Or.inr ⟨by omega, by rw [Nat.add_sub_cancel, es, bestF, if_neg c1, if_neg (fun q => q.elim c2 (fun q => c3 q.1))]⟩⟩
  obtain ⟨h', k1, k2⟩ := key
  refine ⟨h', ?_, k2⟩
  simp only [FX10_findBest, nm_eq, k1, Option.bind_some]
