-- Choice.lookAt makes the tables
theorem f_under' {g : Nat} {h h0 : HI} (e : h g = h0 g) {p : Nat} {w : Int32} (hp : p < 12) (hk : rg (kd (vw (h0 g)) p) 0 5) (hw : rg w 0 5) : FX5_isUnder g (nI p) w h = some (bI (underS (kd (vw (h0 g)) p) w)) := by
  rw [← e] at hk ⊢
  exact f_under hp hk hw
theorem c_gain' {g : Nat} {h h0 : HI} (e : h g = h0 g) {p w : Nat} {r : Bool} (hp : p < 12) (hw : w < 12) : FX0_gainOf g (nI p) (nI w) (bI r) h = some (gainS (vw (h0 g)) p w r) := by
  rw [← e]
  exact c_gain hp hw
theorem c_look {g : Nat} {h : HI} {n nw : Nat} (hg : g ≠ 4) (hn : h g 1 6 = nI n) (hn2 : n ≤ 12) (hw : h g 8 5 = nI nw) (hw2 : nw ≤ 12) (hP : ∀ p, p < n → rg (kd (vw (h g)) p) 0 5) : ∃ h', FX1_lookAt g h = some h' ∧ (∀ g', g' ≠ 4 → h' g' = h g') ∧ CH (vw (h g)) n nw h' := by
  have hg4 : ¬ 4 = g := fun z => hg z.symm
  -- the phrases
  have l1 : ∀ h4 : HI, (∀ g', g' ≠ 4 → h4 g' = h g') → h4 4 18 7 = nI n → h4 4 18 8 = nI nw → h4 4 18 5 = 0 → h4 4 18 6 = 0 → ∃ h', loopN (SX1_lookAt_34 g) FU (0, h4) = some h' ∧ ((∀ g', g' ≠ 4 → h' g' = h g') ∧ h' 4 18 7 = nI n ∧ h' 4 18 8 = nI nw ∧ (∀ p, p < n → h' 4 22 p = mi (vw (h g)) p) ∧ h' 4 18 5 = mkS (fun p => decide (kd (vw (h g)) p = 2) || decide (kd (vw (h g)) p = 4)) n ∧ h' 4 18 6 = mkS (fun p => decide (kd (vw (h g)) p = 4)) n) := by
    intro h4 j1 j2 j3 j4 j5
    refine gloop (f := SX1_lookAt_34 g) (fun i (s : Int32 × HI) => s.1 = nI i ∧ (∀ g', g' ≠ 4 → s.2 g' = h g') ∧ s.2 4 18 7 = nI n ∧ s.2 4 18 8 = nI nw ∧ (∀ p, p < i → s.2 4 22 p = mi (vw (h g)) p) ∧ s.2 4 18 5 = mkS (fun p => decide (kd (vw (h g)) p = 2) || decide (kd (vw (h g)) p = 4)) i ∧ s.2 4 18 6 = mkS (fun p => decide (kd (vw (h g)) p = 4)) i) (fun h' : HI => (∀ g', g' ≠ 4 → h' g' = h g') ∧ h' 4 18 7 = nI n ∧ h' 4 18 8 = nI nw ∧ (∀ p, p < n → h' 4 22 p = mi (vw (h g)) p) ∧ h' 4 18 5 = mkS (fun p => decide (kd (vw (h g)) p = 2) || decide (kd (vw (h g)) p = 4)) n ∧ h' 4 18 6 = mkS (fun p => decide (kd (vw (h g)) p = 4)) n) n ?_ (k := FU) (by have := FU_lt; omega) (s0 := (0, h4)) ⟨rfl, j1, j2, j3, fun p hp => by omega, j4, j5⟩
    rintro i ⟨a, h1⟩ hi ⟨rfl, i1, i2, i3, i4, i5, i6⟩
    dsimp only at i1 i2 i3 i4 i5 i6
    by_cases z : i = n
    · subst z
      refine Or.inr ⟨h1, ?_, i1, i2, i3, i4, i5, i6⟩
      simp only [SX1_lookAt_34, i2, Int32.le_refl, if_true]
    · have hi2 : i < n := by omega
      refine Or.inl ⟨hi2, ?_⟩
      have hmi : h1 g 4 i = mi (vw (h g)) i := by rw [i1 g hg, vmi (by omega)]
      have e5 : (hP1 h1 4 22 i (mi (vw (h g)) i)) g = h g := by rw [hP1_g hg]; exact i1 g hg
      have u2 := f_under' (w := 2) e5 (show i < 12 by omega) (hP i hi2) ⟨2, by decide, by decide, rfl⟩
      rw [(und2 (hP i hi2)).1] at u2
      have e7 : ∀ x : Int32, (hP1 (hP1 h1 4 22 i (mi (vw (h g)) i)) 4 18 5 x) g = h g := fun x => by rw [hP1_g hg]; exact e5
      have u4 := fun x => f_under' (w := 4) (e7 x) (show i < 12 by omega) (hP i hi2) ⟨4, by decide, by decide, rfl⟩
      simp only [(und2 (hP i hi2)).2] at u4
      simp only [SX1_lookAt_34, JX1_lookAt_81, i2, nI_le12 hn2 (show i ≤ 12 by omega), gd_ix (show i < 12 by omega) (by decide), nC_n (show i < 2 ^ 31 by omega), nm_eq, hmi, u2, u4, Option.bind_some, bI_if, nI_1]
      rw [if_neg (by omega)]
      cases k2 : (decide (kd (vw (h g)) i = 2) || decide (kd (vw (h g)) i = 4)) <;> cases k4 : decide (kd (vw (h g)) i = 4) <;>
        (refine ⟨_, rfl, ?_⟩
         refine ⟨by simp, fun g' hg' => by simp only [if_true, if_false, Bool.false_eq_true, hP1_g hg']; exact i1 g' hg', ?_, ?_, ?_, ?_, ?_⟩
         · simp [hP1_at, i2]
         · simp [hP1_at, i3]
         · intro p hp
           by_cases y : p = i
           · subst y; simp [hP1_at]
           · simp [hP1_at, y, i4 p (by omega)]
         · rw [mkS_s, k2]; simp [hP1_at, i5]
         · rw [mkS_s, k4]; simp [hP1_at, i6])
  -- the wants
  have l2 : ∀ h4 : HI, ((∀ g', g' ≠ 4 → h4 g' = h g') ∧ h4 4 18 7 = nI n ∧ h4 4 18 8 = nI nw) → ∃ h', loopN (SX1_lookAt_121 g) FU (0, h4) = some h' ∧ ((∀ g', g' ≠ 4 → h' g' = h g') ∧ h' 4 18 = h4 4 18 ∧ h' 4 22 = h4 4 22 ∧ (∀ w, w < nw → h' 4 21 w = wo (vw (h g)) w) ∧ ∀ w p, w < nw → p < n → h' 4 19 (w * 12 + p) = gainS (vw (h g)) p w false ∧ h' 4 20 (w * 12 + p) = gainS (vw (h g)) p w true) := by
    rintro h4 ⟨j1, j2, j3⟩
    refine gloop (f := SX1_lookAt_121 g) (fun i (s : Int32 × HI) => s.1 = nI i ∧ (∀ g', g' ≠ 4 → s.2 g' = h g') ∧ s.2 4 18 = h4 4 18 ∧ s.2 4 22 = h4 4 22 ∧ (∀ w, w < i → s.2 4 21 w = wo (vw (h g)) w) ∧ ∀ w p, w < i → p < n → s.2 4 19 (w * 12 + p) = gainS (vw (h g)) p w false ∧ s.2 4 20 (w * 12 + p) = gainS (vw (h g)) p w true) (fun h' : HI => (∀ g', g' ≠ 4 → h' g' = h g') ∧ h' 4 18 = h4 4 18 ∧ h' 4 22 = h4 4 22 ∧ (∀ w, w < nw → h' 4 21 w = wo (vw (h g)) w) ∧ ∀ w p, w < nw → p < n → h' 4 19 (w * 12 + p) = gainS (vw (h g)) p w false ∧ h' 4 20 (w * 12 + p) = gainS (vw (h g)) p w true) nw ?_ (k := FU) (by have := FU_lt; omega) (s0 := (0, h4)) ⟨rfl, j1, rfl, rfl, fun p hp => by omega, fun w p hp => by omega⟩
    rintro i ⟨a, h1⟩ hi ⟨rfl, i1, i2, i3, i4, i5⟩
    dsimp only at i1 i2 i3 i4 i5
    by_cases z : i = nw
    · subst z
      refine Or.inr ⟨h1, ?_, i1, i2, i3, i4, i5⟩
      simp only [SX1_lookAt_121, i2, j3, Int32.le_refl, if_true]
    · have hi2 : i < nw := by omega
      refine Or.inl ⟨hi2, ?_⟩
      have hwo : h1 g 10 i = wo (vw (h g)) i := by rw [i1 g hg, vwo (by omega)]
      have inner : ∃ h', loopN (SX1_lookAt_146 g (nI i)) FU (0, hP1 h1 4 21 i (wo (vw (h g)) i)) = some h' ∧ ((∀ g', g' ≠ 4 → h' g' = h g') ∧ h' 4 18 = h4 4 18 ∧ h' 4 22 = h4 4 22 ∧ (∀ w, w < i + 1 → h' 4 21 w = wo (vw (h g)) w) ∧ ∀ w p, w < i + 1 → p < n → h' 4 19 (w * 12 + p) = gainS (vw (h g)) p w false ∧ h' 4 20 (w * 12 + p) = gainS (vw (h g)) p w true) := by
        refine gloop (f := SX1_lookAt_146 g (nI i)) (fun q (s : Int32 × HI) => s.1 = nI q ∧ (∀ g', g' ≠ 4 → s.2 g' = h g') ∧ s.2 4 18 = h4 4 18 ∧ s.2 4 22 = h4 4 22 ∧ (∀ w, w < i + 1 → s.2 4 21 w = wo (vw (h g)) w) ∧ ∀ w p, w < i ∧ p < n ∨ w = i ∧ p < q → s.2 4 19 (w * 12 + p) = gainS (vw (h g)) p w false ∧ s.2 4 20 (w * 12 + p) = gainS (vw (h g)) p w true) (fun h' : HI => (∀ g', g' ≠ 4 → h' g' = h g') ∧ h' 4 18 = h4 4 18 ∧ h' 4 22 = h4 4 22 ∧ (∀ w, w < i + 1 → h' 4 21 w = wo (vw (h g)) w) ∧ ∀ w p, w < i + 1 → p < n → h' 4 19 (w * 12 + p) = gainS (vw (h g)) p w false ∧ h' 4 20 (w * 12 + p) = gainS (vw (h g)) p w true) n ?_ (k := FU) (by have := FU_lt; omega) (s0 := (0, hP1 h1 4 21 i (wo (vw (h g)) i))) ⟨rfl, fun g' hg' => by dsimp only; rw [hP1_g hg']; exact i1 g' hg', by dsimp only; rw [hP1_k (by decide)]; exact i2, by dsimp only; rw [hP1_k (by decide)]; exact i3, fun w hw' => ?_, fun w p hwp => ?_⟩
        · rintro q ⟨a, h2⟩ hq ⟨rfl, k1, k2, k3, k4, k5⟩
          dsimp only at k1 k2 k3 k4 k5
          by_cases y : q = n
          · subst y
            refine Or.inr ⟨h2, ?_, k1, k2, k3, k4, fun w p hw' hp' => k5 w p (by omega)⟩
            simp only [SX1_lookAt_146, k2, j2, Int32.le_refl, if_true]
          · have hq2 : q < n := by omega
            refine Or.inl ⟨hq2, ?_⟩
            have e12 : nI i * 12 + nI q = nI (i * 12 + q) := by rw [show (12 : Int32) = nI 12 from rfl, pk_mul, nI_add]
            have g0 := c_gain' (r := false) (k1 g hg) (show q < 12 by omega) (show i < 12 by omega)
            have eA : (hP1 h2 4 19 (i * 12 + q) (gainS (vw (h g)) q i false)) g = h g := by rw [hP1_g hg]; exact k1 g hg
            have g1 := c_gain' (r := true) eA (show q < 12 by omega) (show i < 12 by omega)
            rw [show bI false = (0 : Int32) from rfl] at g0
            rw [show bI true = (1 : Int32) from rfl] at g1
            simp only [SX1_lookAt_146, k2, j2, nI_le12 hn2 (show q ≤ 12 by omega), g0, g1, Option.bind_some, e12, gd_ix (show i * 12 + q < 144 by omega) (by decide), nC_n (show i * 12 + q < 2 ^ 31 by omega), nm_eq, nI_1]
            rw [if_neg (by omega)]
            refine ⟨_, rfl, rfl, fun g' hg' => by dsimp only; rw [hP1_g hg', hP1_g hg']; exact k1 g' hg', ?_, ?_, ?_, ?_⟩
            · dsimp only; rw [hP1_k (by decide), hP1_k (by decide)]; exact k2
            · dsimp only; rw [hP1_k (by decide), hP1_k (by decide)]; exact k3
            · intro w hw'; dsimp only; rw [hP1_k (by decide), hP1_k (by decide)]; exact k4 w hw'
            · intro w p hwp
              dsimp only
              by_cases x : w = i ∧ p = q
              · rw [x.1, x.2]; simp [hP1_at]
              · have hne : ¬ w * 12 + p = i * 12 + q := by omega
                have := k5 w p (by omega)
                simp [hP1_at, hne, this.1, this.2]
        · dsimp only
          by_cases x : w = i
          · subst x; simp [hP1_at]
          · rw [hP1_at, if_neg (by omega)]; exact i4 w (by omega)
        · dsimp only
          rw [hP1_k (by decide), hP1_k (by decide)]
          exact i5 w p (by omega) (by omega)
      obtain ⟨h', e1, e2⟩ := inner
      simp only [SX1_lookAt_121, i2, j3, nI_le12 hw2 (show i ≤ 12 by omega), gd_ix (show i < 12 by omega) (by decide), nC_n (show i < 2 ^ 31 by omega), nm_eq, hwo, e1, Option.bind_some, nI_1]
      rw [if_neg (by omega)]
      exact ⟨_, rfl, rfl, e2.1, e2.2.1, e2.2.2.1, e2.2.2.2.1, e2.2.2.2.2⟩
  unfold FX1_lookAt
  simp only [nm_eq]
  obtain ⟨h', e1, e2, e3, e4, e5, e6, e7⟩ := l1 (hP1 (hP1 (hP1 (hP1 h 4 18 7 (h g 1 6)) 4 18 8 ((hP1 h 4 18 7 (h g 1 6)) g 8 5)) 4 18 5 0) 4 18 6 0) (fun g' hg' => by rw [hP1_g hg', hP1_g hg', hP1_g hg', hP1_g hg']) (by simp [hP1_at, hn]) (by simp [hP1_at, hw, hg]) (by simp [hP1_at]) (by simp [hP1_at])
  obtain ⟨h2, d1, d2, d3, d4, d5, d6⟩ := l2 h' ⟨e2, e3, e4⟩
  rw [e1, Option.bind_some, d1, Option.bind_some]
  refine ⟨h2, rfl, d2, ?_⟩
  unfold CH
  rw [d3, d4]
  exact ⟨e3, e4, e5, d5, d6, e6, e7⟩
