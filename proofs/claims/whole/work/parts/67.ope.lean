-- gain, met, value, by, best, greedy, next, spare, minutesFor
theorem gain_ok (a b s : Int32) : Ops (FX9_gain a b s) (FX10_gain a b s) := by
  refine Ops_two (fun h i => ?_)
  obtain ⟨n, nw, l, d, c, b1, b2, b3, b4, b5, b6⟩ := i.1
  have hn := b1.2.1
  have hw := b1.2.2.2.1
  unfold FX9_gain FX10_gain
  refine Two.ask (c_isP a h) (q_isP i a) (fun _ => Two.bad i) (fun z => ?_)
  refine Two.ask (c_isW b h) (q_isW i b) (fun _ => Two.bad i) (fun y => ?_)
  refine Two.ask (c_isS s h) (q_isS i s) (fun _ => Two.bad i) (fun _ => ?_)
  rw [b1.1] at z
  obtain ⟨p, hp, rfl⟩ := isP_nat (by omega) z
  rw [b1.2.2.1] at y
  obtain ⟨w, hw2, rfl⟩ := isP_nat (by omega) y
  have hp2 : p < 12 := by omega
  have hw3 : w < 12 := by omega
  refine Two.pure (x := gainS (CV h 0) p w (ropeS (CV h 0) n s)) i ?_ (fun h' e => ?_)
  · rw [c_rope (g := 0) (n := n) b1.1 hn b1.K, Option.bind_some, c_gain hp2 hw3, Option.bind_some]
    rfl
  · rw [r_rope (n := n) ((rk0 (rB e) (by decide)).trans b1.1) hn, Option.bind_some, r_gain hp2 hw3, Option.bind_some, rB e]
theorem met_ok (b s : Int32) : Ops (FX9_met b s) (FX10_met b s) := by
  refine Ops_two (fun h i => ?_)
  obtain ⟨n, nw, l, d, c, b1, b2, b3, b4, b5, b6⟩ := i.1
  have hn := b1.2.1
  have hw := b1.2.2.2.1
  unfold FX9_met FX10_met
  refine Two.ask (c_isW b h) (q_isW i b) (fun _ => Two.bad i) (fun y => ?_)
  refine Two.ask (c_isS s h) (q_isS i s) (fun _ => Two.bad i) (fun _ => ?_)
  rw [b1.2.2.1] at y
  obtain ⟨w, hw2, rfl⟩ := isP_nat (by omega) y
  have hw3 : w < 12 := by omega
  refine Two.pure (x := metS (CV h 0) n w s (ropeS (CV h 0) n s) (mendS (CV h 0) n s)) i ?_ (fun h' e => ?_)
  · rw [c_rope (g := 0) (n := n) b1.1 hn b1.K, Option.bind_some, c_mend (g := 0) (n := n) b1.1 hn b1.K, Option.bind_some, c_gainsMost (g := 0) (n := n) b1.1 hn hw3, Option.bind_some, c_met (g := 0) hn hw3 (b1.O w hw2), Option.bind_some]
    rfl
  · have g0 : h' 8 33 0 = nI n := (rk0 (rB e) (by decide)).trans b1.1
    rw [r_rope g0 hn, Option.bind_some, r_mend g0 hn, Option.bind_some, r_met g0 hn hw3 (by rw [rB e]; exact b1.O w hw2), Option.bind_some, rB e]
theorem look0 {h : HI} {n nw : Nat} (b1 : BP (CV h 0) n nw) : ∃ h1, FX1_lookAt 0 h = some h1 ∧ (∀ g, g ≠ 4 → h1 g = h g) ∧ CH (CV h 0) n nw h1 := c_look (g := 0) (by decide) b1.1 b1.2.1 b1.2.2.1 b1.2.2.2.1 b1.K
theorem CTo.four {h h' : HI} (o : ∀ g, g ≠ 4 → h' g = h g) : CTo h (CV h) h' := CTo.idle (fun g _ e => o g e)
theorem fr4 {h h1 h2 : HI} (o : ∀ g, g ≠ 4 → h1 g = h g) (o2 : ∀ g, g ≠ 4 → h2 g = h1 g) : ∀ g, g ≠ 4 → h2 g = h g := fun g e => (o2 g e).trans (o g e)
theorem BP.V {F : Nat → Int32} {n nw : Nat} (b : BP F n nw) : ∀ s, rg (valueS F n nw s) 0 1188 := fun _ => value_rg b.2.2.2.2.1 b.2.2.2.2.2.1 b.2.2.2.1
theorem value_ok (s : Int32) : Ops (FX9_value s) (FX10_value s) := by
  refine Ops_two (fun h i => ?_)
  obtain ⟨n, nw, l, d, c, b1, b2, b3, b4, b5, b6⟩ := i.1
  have hn := b1.2.1
  have hw := b1.2.2.2.1
  unfold FX9_value FX10_value
  refine Two.ask (c_isS s h) (q_isS i s) (fun _ => Two.bad i) (fun _ => ?_)
  obtain ⟨h1, p1, p2, p3⟩ := look0 b1
  obtain ⟨h2, q1, q2, q3⟩ := c_value (set := s) p3 hn hw
  refine Two.same (x := valueS (CV h 0) n nw s) (h1 := h2) i ?_ (CTo.four (fr4 p2 q2)) (fun h' e => ⟨h', ?_, RTo.rf⟩)
  · rw [p1, Option.bind_some, q1, Option.bind_some]
  · have g0 : h' 8 33 0 = nI n := (rk0 (rB e) (by decide)).trans b1.1
    have g1 : h' 8 33 1 = nI nw := (rk0 (rB e) (by decide)).trans b1.2.2.1
    rw [r_value g0 hn g1 hw (by rw [rB e]; exact b1.O), Option.bind_some, rB e]
theorem by_ok (b s : Int32) : Ops (FX9_by b s) (FX10_by b s) := by
  refine Ops_two (fun h i => ?_)
  obtain ⟨n, nw, l, d, c, b1, b2, b3, b4, b5, b6⟩ := i.1
  have hn := b1.2.1
  have hw := b1.2.2.2.1
  unfold FX9_by FX10_by
  refine Two.ask (c_isW b h) (q_isW i b) (fun _ => Two.bad i) (fun y => ?_)
  refine Two.ask (c_isS s h) (q_isS i s) (fun _ => Two.bad i) (fun _ => ?_)
  rw [b1.2.2.1] at y
  obtain ⟨w, hw2, rfl⟩ := isP_nat (by omega) y
  have hw3 : w < 12 := by omega
  refine Two.orNone (x := (byS (CV h 0) n w s (ropeS (CV h 0) n s)).1) (h1 := h) i ?_ CTo.rf (fun h' e => ⟨h', ?_, RTo.rf⟩)
  · rw [c_rope (g := 0) (n := n) b1.1 hn b1.K, Option.bind_some, c_gainsMost (g := 0) (n := n) b1.1 hn hw3, Option.bind_some]
    rfl
  · have g0 : h' 8 33 0 = nI n := (rk0 (rB e) (by decide)).trans b1.1
    rw [r_by g0 hn hw3 (by rw [rB e]; exact b1.O w hw2), Option.bind_some, rB e]
theorem RTo.idle {h h' : HI} (o : ∀ g, g ≠ 8 → h' g = h g) (o2 : ∀ k, k ≠ 32 → k ≠ 35 → k ≠ 37 → k ≠ 38 → k ≠ 43 → h' 8 k = h 8 k) (o4 : h' 8 32 4 = h 8 32 4) (o12 : h' 8 32 12 = h 8 32 12) : RTo h (RV h) h' := by
  refine ⟨o, row_ext ?_ ?_ ?_ ?_ ?_ ?_ ?_ ?_ (fun i => rfl)⟩
  · show tk (h' 8 33) = tk (h 8 33)
    rw [o2 33 (by decide) (by decide) (by decide) (by decide) (by decide)]
  · show (if h' 8 32 4 = 0 then fun _ => 0 else tk (h' 8 34)) = (if h 8 32 4 = 0 then fun _ => 0 else tk (h 8 34))
    rw [o4, o2 34 (by decide) (by decide) (by decide) (by decide) (by decide)]
  · show (fun _ : Nat => h' 8 32 4) = fun _ => h 8 32 4
    rw [o4]
  · show cut 7 (h' 8 36) = cut 7 (h 8 36)
    rw [o2 36 (by decide) (by decide) (by decide) (by decide) (by decide)]
  · show (fun _ : Nat => h' 8 32 12) = fun _ => h 8 32 12
    rw [o12]
  · show cut 120 (h' 8 39) = cut 120 (h 8 39)
    rw [o2 39 (by decide) (by decide) (by decide) (by decide) (by decide)]
  · show cut 4 (h' 8 40) = cut 4 (h 8 40)
    rw [o2 40 (by decide) (by decide) (by decide) (by decide) (by decide)]
  · show cut 4 (h' 8 41) = cut 4 (h 8 41)
    rw [o2 41 (by decide) (by decide) (by decide) (by decide) (by decide)]
theorem best_ok (a b : Int32) : Ops (FX9_best a b) (FX10_best a b) := by
  refine Ops_two (fun h i => ?_)
  obtain ⟨n, nw, l, d, c, b1, b2, b3, b4, b5, b6⟩ := i.1
  have hn := b1.2.1
  have hw := b1.2.2.2.1
  unfold FX9_best FX10_best
  refine Two.ask (f_within a 0 720) (fun h' e => f_in (a := 0) (b := 720) 0 720 rfl rfl) (fun _ => Two.bad i) (fun y => ?_)
  refine Two.ask (f_within b 0 2) (fun h' e => f_in (a := 0) (b := 2) 0 2 rfl rfl) (fun _ => Two.bad i) (fun _ => ?_)
  obtain ⟨k, k1, k2, rfl⟩ := wi_nat (a := 0) (b := 720) (by decide) y (by decide)
  obtain ⟨h1, p1, p2, p3⟩ := look0 b1
  obtain ⟨h2, q1, q2, q3⟩ := c_best (m := nI k) p3 hn hw
  have iv := bestS_inv (F := CV h 0) (nw := nw) (m := nI k) hn (2 ^ n - 1)
  have hb := p2_le hn
  rcases iv with ⟨v1, v2, -⟩ | v
  · obtain ⟨h3, w1, w2, w3⟩ := c_value (set := (bestS (CV h 0) n nw (nI k) (2 ^ n - 1)).1) q3 hn hw
    have hr : ∀ h', RV h' = CV h → ∃ h2, FX10_findBest (nI k) h' = some h2 ∧ (h2 8 32 5, h2 8 32 6, h2 8 32 7) = bestS (CV h 0) n nw (nI k) (2 ^ n - 1) ∧ RTo h' (RV h') h2 := by
      intro h' e
      have g0 : h' 8 33 0 = nI n := (rk0 (rB e) (by decide)).trans b1.1
      have g1 : h' 8 33 1 = nI nw := (rk0 (rB e) (by decide)).trans b1.2.2.1
      obtain ⟨h4, u1, u2, u3, u4, u5⟩ := r_best (m := nI k) g0 hn g1 hw (by rw [rB e]; exact b1.O) (nI_nn (by omega))
      rw [rB e] at u5
      exact ⟨h4, u1, u5, RTo.idle u2 (fun k e1 _ _ _ _ => u3 k e1) (u4 4 (by decide) (by decide) (by decide)) (u4 12 (by decide) (by decide) (by decide))⟩
    by_cases c0 : b = 0
    · refine Two.same (x := (bestS (CV h 0) n nw (nI k) (2 ^ n - 1)).2.1) (h1 := h3) i ?_ (CTo.four (fr4 (fr4 p2 q2) w2)) (fun h' e => ?_)
      · rw [p1, Option.bind_some, q1, Option.bind_some]
        try dsimp only
        rw [if_pos c0, w1, Option.bind_some, v1]
      · obtain ⟨h4, u1, u2, u3⟩ := hr h' e
        refine ⟨h4, ?_, u3⟩
        try dsimp only
        rw [u1, Option.bind_some, if_pos c0, ← u2]
    · by_cases c1 : b = 1
      · refine Two.same (x := (bestS (CV h 0) n nw (nI k) (2 ^ n - 1)).1) (h1 := h2) i ?_ (CTo.four (fr4 p2 q2)) (fun h' e => ?_)
        · rw [p1, Option.bind_some, q1, Option.bind_some]
          try dsimp only
          rw [if_neg c0, if_pos c1]
        · obtain ⟨h4, u1, u2, u3⟩ := hr h' e
          refine ⟨h4, ?_, u3⟩
          try dsimp only
          rw [u1, Option.bind_some, if_neg c0, if_pos c1, ← u2]
      · refine Two.same (x := (bestS (CV h 0) n nw (nI k) (2 ^ n - 1)).2.2) (h1 := h2) i ?_ (CTo.four (fr4 p2 q2)) (fun h' e => ?_)
        · rw [p1, Option.bind_some, q1, Option.bind_some]
          try dsimp only
          rw [if_neg c0, if_neg c1, c_minutes q3 hn, Option.bind_some, v2]
        · obtain ⟨h4, u1, u2, u3⟩ := hr h' e
          refine ⟨h4, ?_, u3⟩
          try dsimp only
          rw [u1, Option.bind_some, if_neg c0, if_neg c1, ← u2]
  · omega
theorem greedy_ok (a b : Int32) : Ops (FX9_greedy a b) (FX10_greedy a b) := by
  refine Ops_two (fun h i => ?_)
  obtain ⟨n, nw, l, d, c, b1, b2, b3, b4, b5, b6⟩ := i.1
  have hn := b1.2.1
  have hw := b1.2.2.2.1
  unfold FX9_greedy FX10_greedy
  refine Two.ask (f_within a 0 720) (fun h' e => f_in (a := 0) (b := 720) 0 720 rfl rfl) (fun _ => Two.bad i) (fun y => ?_)
  refine Two.ask (f_within b 0 1) (fun h' e => f_in (a := 0) (b := 1) 0 1 rfl rfl) (fun _ => Two.bad i) (fun _ => ?_)
  obtain ⟨K, g1, g2, g3⟩ := gr_end (F := CV h 0) (nw := nw) (m := a) hn b1.V
  obtain ⟨h1, p1, p2, p3⟩ := look0 b1
  obtain ⟨h2, q1, q2, q3⟩ := c_greedy (m := a) p3 hn hw b1.V g1 g2 g3
  obtain ⟨h3, w1, w2, w3⟩ := c_value (set := (grS (CV h 0) n nw a K).1) q3 hn hw
  have hr : ∀ h', RV h' = CV h → FX10_most 0 a 1 h' = some (fnd (CV h 0) n nw (0, a)) ∧ loopN (SX10_greedy_44 b h') FU (0, a, fnd (CV h 0) n nw (0, a)) = some (grS (CV h 0) n nw a K).1 ∧ FX10_valueOf (grS (CV h 0) n nw a K).1 h' = some (valueS (CV h 0) n nw (grS (CV h 0) n nw a K).1) := by
    intro h' e
    have e0 : h' 8 33 0 = nI n := (rk0 (rB e) (by decide)).trans b1.1
    have e1 : h' 8 33 1 = nI nw := (rk0 (rB e) (by decide)).trans b1.2.2.1
    have E := rB e
    have O' : ∀ w, w < nw → rg (wo (tk (h' 8 33)) w) 0 99 := by rw [E]; exact b1.O
    have V' : ∀ s, rg (valueS (tk (h' 8 33)) n nw s) 0 1188 := by rw [E]; exact b1.V
    refine ⟨?_, ?_, ?_⟩
    · have := r_most (set := 0) (lim := a) (few := true) e0 hn e1 hw O' V'
      rw [E] at this
      exact this
    · have := r_greedy (m := a) (wh := b) (K := K) e0 hn e1 hw O' V' g1 (by rw [E]; exact g2) (by rw [E]; exact g3)
      rw [E] at this
      exact this
    · rw [r_value e0 hn e1 hw O', E]
  by_cases c0 : b = 0
  · refine Two.same (x := valueS (CV h 0) n nw (grS (CV h 0) n nw a K).1) (h1 := h3) i ?_ (CTo.four (fr4 (fr4 p2 q2) w2)) (fun h' e => ⟨h', ?_, RTo.rf⟩)
    · rw [p1, Option.bind_some, q1, Option.bind_some]
      try dsimp only
      rw [if_pos c0, w1, Option.bind_some]
    · obtain ⟨u1, u2, u3⟩ := hr h' e
      try dsimp only
      rw [u1, Option.bind_some, u2, Option.bind_some, if_pos c0, u3, Option.bind_some]
  · refine Two.same (x := (grS (CV h 0) n nw a K).1) (h1 := h2) i ?_ (CTo.four (fr4 p2 q2)) (fun h' e => ⟨h', ?_, RTo.rf⟩)
    · rw [p1, Option.bind_some, q1, Option.bind_some]
      try dsimp only
      rw [if_neg c0]
    · obtain ⟨u1, u2, u3⟩ := hr h' e
      try dsimp only
      rw [u1, Option.bind_some, u2, Option.bind_some, if_neg c0]
theorem next_ok (s : Int32) : Ops (FX9_next s) (FX10_next s) := by
  refine Ops_two (fun h i => ?_)
  obtain ⟨n, nw, l, d, c, b1, b2, b3, b4, b5, b6⟩ := i.1
  have hn := b1.2.1
  have hw := b1.2.2.2.1
  unfold FX9_next FX10_next
  refine Two.ask (c_isS s h) (q_isS i s) (fun _ => Two.bad i) (fun _ => ?_)
  obtain ⟨h1, p1, p2, p3⟩ := look0 b1
  obtain ⟨h2, q1, q2, q3⟩ := c_brings (set := s) p3 hn hw (fun p hp => (b1.2.2.2.2.1 p hp).2.2.1)
  refine Two.orNone (x := (mostS (CV h 0) n nw s 60 false n).1) (h1 := h2) i ?_ (CTo.four (fr4 p2 q2)) (fun h' e => ⟨h', ?_, RTo.rf⟩)
  · rw [p1, Option.bind_some, q1, Option.bind_some]
  · have e0 : h' 8 33 0 = nI n := (rk0 (rB e) (by decide)).trans b1.1
    have e1 : h' 8 33 1 = nI nw := (rk0 (rB e) (by decide)).trans b1.2.2.1
    have := r_most (set := s) (lim := 60) (few := false) e0 hn e1 hw (by rw [rB e]; exact b1.O) (by rw [rB e]; exact b1.V)
    rw [rB e] at this
    rw [show FX10_most s 60 0 h' = some (mostS (CV h 0) n nw s 60 false n).1 from this, Option.bind_some]
theorem spare_ok (s : Int32) : Ops (FX9_spare s) (FX10_spare s) := by
  refine Ops_two (fun h i => ?_)
  obtain ⟨n, nw, l, d, c, b1, b2, b3, b4, b5, b6⟩ := i.1
  have hn := b1.2.1
  have hw := b1.2.2.2.1
  unfold FX9_spare FX10_spare
  refine Two.ask (c_isS s h) (q_isS i s) (fun _ => Two.bad i) (fun _ => ?_)
  obtain ⟨h1, p1, p2, p3⟩ := look0 b1
  obtain ⟨h2, q1, q2, q3⟩ := c_spare (set := s) p3 hn hw
  refine Two.orNone (x := (spS (CV h 0) n nw s n).1) (h1 := h2) i ?_ (CTo.four (fr4 p2 q2)) (fun h' e => ⟨h', ?_, RTo.rf⟩)
  · rw [p1, Option.bind_some, q1, Option.bind_some]
  · have e0 : h' 8 33 0 = nI n := (rk0 (rB e) (by decide)).trans b1.1
    have e1 : h' 8 33 1 = nI nw := (rk0 (rB e) (by decide)).trans b1.2.2.1
    rw [r_spare e0 hn e1 hw (by rw [rB e]; exact b1.O) (by rw [rB e]; exact b1.V), Option.bind_some, rB e]
theorem minutesFor_ok (v : Int32) : Ops (FX9_minutesFor v) (FX10_minutesFor v) := by
  refine Ops_two (fun h i => ?_)
  obtain ⟨n, nw, l, d, c, b1, b2, b3, b4, b5, b6⟩ := i.1
  have hn := b1.2.1
  have hw := b1.2.2.2.1
  unfold FX9_minutesFor FX10_minutesFor
  by_cases z : 0 ≤ v
  · simp only [if_pos z]
    obtain ⟨h1, p1, p2, p3⟩ := look0 b1
    obtain ⟨h2, q1, q2, q3⟩ := c_few (v := v) p3 hn hw
    refine Two.orNone (x := fewS (CV h 0) n nw v (2 ^ n)) (h1 := h2) i ?_ (CTo.four (fr4 p2 q2)) (fun h' e => ⟨h', ?_, RTo.rf⟩)
    · rw [p1, Option.bind_some, q1, Option.bind_some]
    · have e0 : h' 8 33 0 = nI n := (rk0 (rB e) (by decide)).trans b1.1
      have e1 : h' 8 33 1 = nI nw := (rk0 (rB e) (by decide)).trans b1.2.2.1
      rw [r_few e0 hn e1 hw (by rw [rB e]; exact b1.O), Option.bind_some, rB e]
  · simp only [if_neg z]
    exact Two.bad i
