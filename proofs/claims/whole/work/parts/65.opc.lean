-- learn, evening, line, now, on, forgot, useless, tonight
theorem learn_ok (a m : Int32) : Ops (FX9_learn a m) (FX10_learn a m) := by
  refine Ops_two (fun h i => ?_)
  obtain ⟨n, nw, l, d, c, b1, b2, b3, b4, b5, b6⟩ := i.1
  have hn := b1.2.1
  unfold FX9_learn FX10_learn
  refine Two.ask (c_isP a h) (q_isP i a) (fun _ => Two.bad i) (fun z => ?_)
  refine Two.ask (f_within m 1 600) (fun h' e => f_in (a := 1) (b := 600) 1 600 rfl rfl) (fun _ => Two.bad i) (fun y => ?_)
  rw [b1.1] at z
  obtain ⟨p, hp, rfl⟩ := isP_nat (by omega) z
  obtain ⟨k, k1, k2, rfl⟩ := wi_nat (a := 1) (b := 600) (by decide) y (by decide)
  have hm := (b1.2.2.2.2.1 p hp).2.2.1
  have hp2 : p < 12 := by omega
  obtain ⟨h1, q1, q2⟩ := c_learn (g := 0) (m := nI k) (show vw (h 0) = CV h 0 from rfl) hp2 hm
  have s := learnS_inv b1 hp (m := nI k) ⟨k, by omega, by omega, rfl⟩
  have sv : hd (learnS (CV h 0) p (nI k)) p = learnV (CV h 0) p (nI k) := up_s
  refine Two.book (F := learnS (CV h 0) p (nI k)) (x := learnV (CV h 0) p (nI k)) (h1 := h1) i (BkI.up s.2.1 b2 b3 b4 b5 b6 (fun j _ hj => s.2.2.1 j hj) s.2.2.2) ?_ q2 (fun h' e => ?_)
  · rw [q1, Option.bind_some, gd_ix hp2 (by decide), nC_n (by omega)]
    rw [← q2.at, vhd hp2] at sv
    rw [sv]
  · obtain ⟨h2, u1, u2⟩ := r_learn (m := nI k) (rB e) hp2 hm
    refine ⟨h2, ?_, RkA.of u2⟩
    try dsimp only
    rw [u1, Option.bind_some, its4 hp2, Option.bind_some, u2.at, sv]
theorem evening_ok (a : Int32) : Ops (FX9_evening a) (FX10_evening a) := by
  refine Ops_two (fun h i => ?_)
  obtain ⟨n, nw, l, d, c, b1, b2, b3, b4, b5, b6⟩ := i.1
  unfold FX9_evening FX10_evening
  refine Two.ask (f_within a 0 600) (fun h' e => f_in (a := 0) (b := 600) 0 600 rfl rfl) (fun _ => Two.bad i) (fun y => ?_)
  obtain ⟨k, k1, k2, rfl⟩ := wi_nat (a := 0) (b := 600) (by decide) y (by decide)
  have hk : rg (nI k) 0 600 := ⟨k, k1, k2, rfl⟩
  obtain ⟨h1, q1, q2⟩ := c_evening (g := 0) (show vw (h 0) = CV h 0 from rfl) b1 b2 hk
  have s := evS_inv b1 b2 hk l (Nat.le_refl l)
  refine Two.book (F := (evS (CV h 0) (nI k) l).2) (x := (evS (CV h 0) (nI k) l).1) (h1 := h1) i (BkI.up s.1 b2 b3 b4 b5 b6 (fun j _ hj => s.2.2.1 j hj) s.2.2.2.1) ?_ q2 (fun h' e => ?_)
  · rw [q1, Option.bind_some]
  · obtain ⟨h2, u1, u2⟩ := r_evening (rB e) b1 b2 hk
    refine ⟨h2, ?_, RkA.of u2⟩
    try dsimp only
    rw [u1, Option.bind_some]
theorem BP.up2 {F : Nat → Int32} {n nw : Nat} {x : Int32} (b : BP F n nw) (hx : rg x 1 100) : BP (upd F 2 x) n nw :=
  ⟨by rw [up_n (by decide)]; exact b.1, b.2.1, by rw [up_n (by decide)]; exact b.2.2.1, b.2.2.2.1, fun p hp => PI_cong (fun a ha => up_n (by omega)) (b.2.2.2.2.1 p hp), fun w hw => WI_cong (fun a ha => up_n (by omega)) (b.2.2.2.2.2.1 w hw), by rw [up_s]; exact hx⟩
theorem line_ok (a : Int32) : Ops (FX9_line a) (FX10_line a) := by
  refine Ops_two (fun h i => ?_)
  obtain ⟨n, nw, l, d, c, b1, b2, b3, b4, b5, b6⟩ := i.1
  unfold FX9_line FX10_line
  refine Two.ask (f_within a 1 100) (fun h' e => f_in (a := 1) (b := 100) 1 100 rfl rfl) (fun _ => Two.bad i) (fun y => ?_)
  obtain ⟨k, k1, k2, rfl⟩ := wi_nat (a := 1) (b := 100) (by decide) y (by decide)
  refine Two.book (F := upd (CV h 0) 2 (nI k)) (x := CV h 0 2) (h1 := hP1 h 0 0 3 (nI k)) i (BkI.up (b1.up2 ⟨k, k1, k2, rfl⟩) b2 b3 b4 b5 b6 (fun j h1 h2 => up_n (by omega)) (fun j hj => up_n (by omega))) rfl (bk_6 (m := 2) (by decide)) (fun h' e => ?_)
  refine ⟨hP1 h' 8 33 2 (nI k), ?_, ?_⟩
  · try dsimp only
    rw [nm_eq, nm_eq, rk0 (rB e) (show 2 < 150 by decide)]
  · rw [← rB e]
    exact RkA.of (rk_u (by decide))
theorem r_nowL {h : HI} {F : Nat → Int32} {nw : Nat} (e : tk (h 8 33) = F) (hw : F 1 = nI nw) (hw2 : nw ≤ 12) : loopN (SX10_now_57 h) FU (0, 0) = some (nI (cnN F (F 3) nw)) := by
  have e1 : h 8 33 1 = nI nw := (rk0 e (by decide)).trans hw
  have e3 : h 8 33 3 = F 3 := rk0 e (by decide)
  refine for_loop (f := SX10_now_57 h) (fun i => (nI (cnN F (F 3) i), nI i)) nw _ ?_ ?_ FU (by have := FU_lt; omega)
  · intro i hi
    have es : cnN F (F 3) (i + 1) = if wy F i = F 3 then cnN F (F 3) i + 1 else cnN F (F 3) i := rfl
    unfold SX10_now_57
    try dsimp only
    rw [e1, if_neg (le_f (by omega) (by omega) (by omega)), wnt2 (by omega), Option.bind_some, e, e3, es]
    by_cases z : wy F i = F 3
    · rw [if_pos z, if_pos z, nm_eq, show (1 : Int32) = nI 1 from rfl, nI_add, nI_add]
    · rw [if_neg z, if_neg z, nm_eq, Int32.add_zero, show (1 : Int32) = nI 1 from rfl, nI_add]
  · unfold SX10_now_57
    try dsimp only
    rw [e1, if_pos (le_t (Nat.le_refl _) (by omega) (by omega))]
theorem now_ok (a : Int32) : Ops (FX9_now a) (FX10_now a) := by
  refine Ops_two (fun h i => ?_)
  obtain ⟨n, nw, l, d, c, b1, b2, b3, b4, b5, b6⟩ := i.1
  unfold FX9_now FX10_now
  by_cases a0 : a = 0
  · simp only [if_pos a0]
    exact Two.pure (x := CV h 0 3) i rfl (fun h' e => by rw [rk0 (rB e) (show 3 < 150 by decide)])
  simp only [if_neg a0]
  by_cases a1 : a = 1
  · simp only [if_pos a1]
    exact Two.pure (x := CV h 0 2) i rfl (fun h' e => by rw [rk0 (rB e) (show 2 < 150 by decide)])
  simp only [if_neg a1]
  by_cases a2 : a = 2
  · simp only [if_pos a2]
    exact Two.pure (x := CV h 0 4) i rfl (fun h' e => by rw [rk0 (rB e) (show 4 < 150 by decide)])
  simp only [if_neg a2]
  by_cases a3 : a = 3
  · simp only [if_pos a3]
    refine Two.pure (x := nI (cnN (CV h 0) (CV h 0 3) nw)) i ?_ (fun h' e => ?_)
    · rw [show h 0 0 4 = CV h 0 3 from rfl, c_many (show vw (h 0) = CV h 0 from rfl) b1.2.2.1 b1.2.2.2.1, Option.bind_some]
    · rw [r_nowL (rB e) b1.2.2.1 b1.2.2.2.1, Option.bind_some]
  · simp only [if_neg a3]
    exact Two.bad i
theorem CTo.trial {h h' : HI} {F : Nat → Int32} (b : BkTo h 2 F h') : CTo h (CV h) h' := CTo.idle (fun g e _ => b.out e)
theorem on_ok (a b : Int32) : Ops (FX9_on a b) (FX10_on a b) := by
  refine Ops_two (fun h i => ?_)
  obtain ⟨n, nw, l, d, c, b1, b2, b3, b4, b5, b6⟩ := i.1
  have hn := b1.2.1
  unfold FX9_on FX10_on
  refine Two.ask (f_within a 0 60) (fun h' e => f_in (a := 0) (b := 60) 0 60 rfl rfl) (fun _ => Two.bad i) (fun y => ?_)
  refine Two.ask (f_within b 0 2) (fun h' e => f_in (a := 0) (b := 2) 0 2 rfl rfl) (fun _ => Two.bad i) (fun y2 => ?_)
  refine Two.askn (c_mayGo a h) (q_late a) (fun _ => Two.late i) (fun z => ?_)
  obtain ⟨k, k1, k2, rfl⟩ := wi_nat (a := 0) (b := 60) (by decide) y (by decide)
  obtain ⟨h1, q1, q2⟩ := c_ahead (k := k) (show vw (h 0) = CV h 0 from rfl) b1 (by omega)
  have s := daysS_inv b1 k
  have f0 := bk0 q2.at
  have g0 : h1 2 1 6 = nI n := f0.1.trans s.2.1.1
  refine Two.same (x := if b = 0 then (daysS (CV h 0) n nw k).2 4 else if b = 1 then knS (daysS (CV h 0) n nw k).2 n else sumS (daysS (CV h 0) n nw k).2 n) (h1 := h1) i ?_ (CTo.trial q2) (fun h' e => ?_)
  · rw [q1, Option.bind_some]
    by_cases c0 : b = 0
    · rw [if_pos c0, if_pos c0, f0.2.2.2.2.1]
    · rw [if_neg c0, if_neg c0]
      by_cases c1 : b = 1
      · rw [if_pos c1, if_pos c1, c_known g0 hn, Option.bind_some, q2.at]
      · rw [if_neg c1, if_neg c1, g0, c_sum hn, Option.bind_some, q2.at]
  · obtain ⟨h2, u1, u2, u3⟩ := r_put (rB e)
    obtain ⟨h3, v1, v2⟩ := r_days (k := k) u2.2 b1 (by omega)
    obtain ⟨h4, w1, w2⟩ := r_putsBack (h := h3) (F := CV h 0) (by rw [v2.out (by omega)]; exact u3)
    have g3 : h3 8 33 0 = nI n := (rk0 v2.at (by decide)).trans s.2.1.1
    refine ⟨h4, ?_, RTo.same (by rw [e]; exact (u2.tr (RkA.of v2)).tr (RkA.of w2))⟩
    try dsimp only
    rw [u1, Option.bind_some, v1, Option.bind_some]
    try dsimp only
    by_cases c0 : b = 0
    · rw [if_pos c0, if_pos c0, nm_eq, w1, Option.bind_some, rk0 v2.at (show 4 < 150 by decide)]
    · rw [if_neg c0, if_neg c0]
      by_cases c1 : b = 1
      · rw [if_pos c1, if_pos c1, r_known g3 hn, Option.bind_some, w1, Option.bind_some, v2.at]
      · rw [if_neg c1, if_neg c1, r_sum g3 hn, Option.bind_some, w1, Option.bind_some, v2.at]
theorem useless_ok (a : Int32) : Ops (FX9_useless a) (FX10_useless a) := by
  refine Ops_two (fun h i => ?_)
  obtain ⟨n, nw, l, d, c, b1, b2, b3, b4, b5, b6⟩ := i.1
  have hn := b1.2.1
  unfold FX9_useless FX10_useless
  refine Two.ask (f_within a 1 60) (fun h' e => f_in (a := 1) (b := 60) 1 60 rfl rfl) (fun _ => Two.bad i) (fun y => ?_)
  refine Two.askn (c_mayGo a h) (q_late a) (fun _ => Two.late i) (fun z => ?_)
  obtain ⟨k, k1, k2, rfl⟩ := wi_nat (a := 1) (b := 60) (by decide) y (by decide)
  obtain ⟨h1, q1, q2⟩ := c_never (k := k) (show vw (h 0) = CV h 0 from rfl) b1 (by omega)
  refine Two.same (x := mkS (fun p => decide (us (daysS (CV h 0) n nw k).2 p = us (CV h 0) p)) n) (h1 := h1) i ?_ (CTo.trial q2) (fun h' e => ?_)
  · rw [q1, Option.bind_some]
  · obtain ⟨h2, u1, u2, u3⟩ := r_put (rB e)
    obtain ⟨h3, v1, v2⟩ := r_days (k := k) u2.2 b1 (by omega)
    obtain ⟨h4, w1, w2⟩ := r_putsBack (h := h3) (F := CV h 0) (by rw [v2.out (by omega)]; exact u3)
    have g4 : h4 8 33 0 = nI n := (rk0 w2.at (by decide)).trans b1.1
    refine ⟨h4, ?_, RTo.same (by rw [e]; exact (u2.tr (RkA.of v2)).tr (RkA.of w2))⟩
    try dsimp only
    rw [u1, Option.bind_some, v1, Option.bind_some]
    try dsimp only
    rw [w1, Option.bind_some, g4, useless_eq b1 k2]
theorem tonight_ok (a : Int32) : Ops (FX9_tonight a) (FX10_tonight a) := by
  refine Ops_two (fun h i => ?_)
  obtain ⟨n, nw, l, d, c, b1, b2, b3, b4, b5, b6⟩ := i.1
  have hn := b1.2.1
  unfold FX9_tonight FX10_tonight
  refine Two.ask (f_within a 1 60) (fun h' e => f_in (a := 1) (b := 60) 1 60 rfl rfl) (fun _ => Two.bad i) (fun y => ?_)
  refine Two.askn (c_mayGo a h) (q_late a) (fun _ => Two.late i) (fun z => ?_)
  obtain ⟨k, k1, k2, rfl⟩ := wi_nat (a := 1) (b := 60) (by decide) y (by decide)
  obtain ⟨h1, q1, q2⟩ := c_tonight (k := k) (show vw (h 0) = CV h 0 from rfl) b1 (by omega)
  refine Two.orNone (x := (tnS (CV h 0) n nw k n).2) (h1 := h1) i ?_ (CTo.idle (fun g e _ => q2 g e)) (fun h' e => ?_)
  · rw [q1, Option.bind_some]
  · obtain ⟨h2, u1, u2, u3⟩ := r_put (rB e)
    obtain ⟨h3, v1, v2⟩ := r_score (k := k) u2.2 b1 (by omega) u3
    obtain ⟨h4, w1, w2⟩ := r_tonightL (h := h3) (k := k) v2.at b1 (by omega) (by rw [v2.out (by omega)]; exact u3)
    refine ⟨h4, ?_, RTo.same (by rw [e]; exact (u2.tr (RkA.of v2)).tr (RkA.of w2))⟩
    try dsimp only
    rw [u1, Option.bind_some, v1, Option.bind_some]
    try dsimp only
    rw [w1, Option.bind_some]
theorem forgot_ok (a : Int32) : Ops (FX9_forgot a) (FX10_forgot a) := by
  refine Ops_two (fun h i => ?_)
  obtain ⟨n, nw, l, d, c, b1, b2, b3, b4, b5, b6⟩ := i.1
  have hn := b1.2.1
  unfold FX9_forgot FX10_forgot
  refine Two.ask (c_isP a h) (q_isP i a) (fun _ => Two.bad i) (fun z => ?_)
  rw [b1.1] at z
  obtain ⟨p, hp, rfl⟩ := isP_nat (by omega) z
  have hp2 : p < 12 := by omega
  have g3 : ∀ h', RV h' = CV h → h' 8 33 3 = nI d := fun h' e => (rk0 (rB e) (by decide)).trans b3
  have eG : dayGo 60 (CV h 0 3) = decide (d ≤ 39) := by
    unfold dayGo
    rw [b3, show (60 : Int32) = nI 60 from rfl, nI_add, show (99 : Int32) = nI 99 from rfl]
    by_cases y : d ≤ 39
    · rw [decide_eq_true y, decide_eq_true (le_t (by omega) (by omega) (by omega))]
    · rw [decide_eq_false y, decide_eq_false (le_f (by omega) (by omega) (by omega))]
  by_cases y : d ≤ 39
  · obtain ⟨r, h1, q1, q2, q3⟩ := c_forgot (show vw (h 0) = CV h 0 from rfl) b1 hp
    refine Two.orNone (x := r) (h1 := h1) i ?_ (CTo.idle (fun g e _ => q3 g e)) (fun h' e => ?_)
    · rw [c_mayGo, eG, decide_eq_true y, Option.bind_some, bI_if, if_pos rfl, q1, Option.bind_some]
    · obtain ⟨h2, u1, u2, u3⟩ := r_put (rB e)
      obtain ⟨m, h3, v1, v2, v3, v4, v5⟩ := r_forgotL u2.2 b1 hp
      obtain ⟨h4, w1, w2⟩ := r_putsBack (h := h3) (F := CV h 0) (by rw [v5.out (by omega)]; exact u3)
      refine ⟨h4, ?_, RTo.same (by rw [e]; exact (u2.tr (RkA.of v5)).tr (RkA.of w2))⟩
      try dsimp only
      rw [g3 h' e, if_pos (show nI d ≤ 39 from le_t (b := 39) y (by omega) (by decide)), u1, Option.bind_some, v1, Option.bind_some]
      try dsimp only
      unfold JX10_forgot_64
      rw [r_isKnown hp2, v5.at, Option.bind_some, bI_if]
      have kD : (!decide (hd (daysS (CV h 0) n nw m).2 p < (daysS (CV h 0) n nw m).2 2)) = knD (CV h 0) n nw p m := rfl
      rw [kD]
      cases kz : knD (CV h 0) n nw p m with
      | false =>
        have er : r = nI m := by
          rcases q2 with ⟨m', c1, c2, c3, c4⟩ | ⟨c1, c2⟩
          · rw [c4]
            by_cases lt : m' < m
            · rw [v3 m' lt] at c3
              exact absurd c3 (by decide)
            · by_cases gt : m < m'
              · rw [c2 m gt] at kz
                exact absurd kz (by decide)
              · rw [show m' = m by omega]
          · rw [c1 m v2] at kz
            exact absurd kz (by decide)
        rw [if_neg (by decide)]
        unfold JX10_forgot_77
        rw [w1, Option.bind_some, if_neg (by decide), er, if_pos (Int32.not_lt.mp (nI_nn (by omega)))]
      | true =>
        have em : m = 60 := by
          by_cases lt : m < 60
          · rw [v4 lt] at kz
            exact absurd kz (by decide)
          · omega
        have er : r = -1 := by
          rcases q2 with ⟨m', c1, c2, c3, c4⟩ | ⟨c1, c2⟩
          · by_cases lt : m' < m
            · rw [v3 m' lt] at c3
              exact absurd c3 (by decide)
            · rw [show m' = m by omega, kz] at c3
              exact absurd c3 (by decide)
          · exact c2
        rw [if_pos rfl]
        unfold JX10_forgot_77
        rw [w1, Option.bind_some, if_pos rfl, er, if_neg (by decide)]
  · refine Two.of (Two.late i) ?_ (fun h' e => ?_)
    · rw [c_mayGo, eG, decide_eq_false y, Option.bind_some, bI_if, if_neg (by decide)]
    · rw [g3 h' e, if_neg (show ¬ nI d ≤ 39 from le_f (b := 39) y (by omega) (by decide))]
