-- items: wants, the line
section Wants
variable {h0 k0 : HI} {B : Nat → Int32} {T : Nat}
theorem b_w152 {s : Nat} {k : HI} (a1 a2 a3 a4 a5 : Int32) (g : BR k0 s k) : JX10_wantItem_152 a1 a2 a3 a4 a5 k = some k := by
  unfold JX10_wantItem_152
  rw [g.fl.1, if_neg (by decide)]
theorem b_w140 {s : Nat} {k : HI} (a1 a2 a3 a4 s0 : Int32) (g : BR k0 s k) : ∃ k', JX10_wantItem_140 a1 a2 a3 a4 s0 k = some k' ∧ BR k0 s k' := by
  unfold JX10_wantItem_140
  by_cases c : s0 = 0
  · rw [if_pos c, b_w152 _ _ _ _ _ g]
    exact ⟨k, rfl, g⟩
  · obtain ⟨k', n1, n2⟩ := b_needs 1 g
    rw [if_neg c, n1, Option.bind_some, b_w152 _ _ _ _ _ n2]
    exact ⟨k', rfl, n2⟩
theorem b_w124 {s : Nat} {k : HI} (a1 a2 a3 a4 : Int32) (g : BR k0 s k) : ∃ k', JX10_wantItem_124 a1 a2 a3 a4 k = some k' ∧ BR k0 s k' := by
  unfold JX10_wantItem_124
  rw [b_word g, Option.bind_some, if_neg (show ¬ lg_cmp 0 3659220 = 0 from z_cmp (n := 3659220) (by decide) (by decide))]
  exact b_w140 a1 a2 a3 a4 0 g
theorem b_w112 {s : Nat} {k : HI} (a1 a2 a3 s0 : Int32) (g : BR k0 s k) : ∃ k', JX10_wantItem_112 a1 a2 a3 s0 k = some k' ∧ BR k0 s k' := by
  unfold JX10_wantItem_112
  by_cases c : s0 = 0
  · rw [if_pos c]
    exact b_w124 a1 a2 a3 s0 g
  · obtain ⟨k', n1, n2⟩ := b_needs 1 g
    rw [if_neg c, n1, Option.bind_some]
    exact b_w124 a1 a2 a3 s0 n2
theorem b_wH {s : Nat} {k : HI} (a1 a2 t : Int32) (g : BR k0 s k) : ∃ k', (Option.bind (FX10_word k) fun r12 => if (lg_cmp r12 9095769) = 0 then JX10_wantItem_112 a1 a2 t 1 k else JX10_wantItem_112 a1 a2 t 0 k) = some k' ∧ BR k0 s k' := by
  rw [b_word g, Option.bind_some, if_neg (show ¬ lg_cmp 0 9095769 = 0 from z_cmp (n := 9095769) (by decide) (by decide))]
  exact b_w112 a1 a2 t 0 g
theorem b_w81 {s : Nat} {k : HI} (a1 a2 s1 : Int32) (g : BR k0 s k) : ∃ k', JX10_wantItem_81 a1 a2 s1 k = some k' ∧ BR k0 s k' := by
  obtain ⟨k', n1, n2⟩ := b_needs s1 g
  unfold JX10_wantItem_81
  rw [n1, Option.bind_some, b_number 0 99 n2, Option.bind_some, nm_eq]
  exact b_wH a1 a2 (k' 8 32 15) n2
theorem b_wD {s : Nat} {k : HI} (a1 t : Int32) (g : BR k0 s k) : ∃ k', (Option.bind (FX10_word k) fun r8 => if (lg_cmp r8 4153) = 0 then JX10_wantItem_81 a1 t 1 k else JX10_wantItem_81 a1 t 0 k) = some k' ∧ BR k0 s k' := by
  rw [b_word g, Option.bind_some, if_neg (show ¬ lg_cmp 0 4153 = 0 from z_cmp (n := 4153) (by decide) (by decide))]
  exact b_w81 a1 t 0 g
theorem b_w49 {s : Nat} {k : HI} (a1 s1 : Int32) (g : BR k0 s k) : ∃ k', JX10_wantItem_49 a1 s1 k = some k' ∧ BR k0 s k' := by
  obtain ⟨k', n1, n2⟩ := b_needs s1 g
  unfold JX10_wantItem_49
  rw [n1, Option.bind_some, b_number 0 99 n2, Option.bind_some, nm_eq]
  exact b_wD a1 (k' 8 32 15) n2
theorem b_wW {s : Nat} {k : HI} (t : Int32) (g : BR k0 s k) : ∃ k', (Option.bind (FX10_word k) fun r4 => if (lg_cmp r4 24627848) = 0 then JX10_wantItem_49 t 1 k else JX10_wantItem_49 t 0 k) = some k' ∧ BR k0 s k' := by
  rw [b_word g, Option.bind_some, if_neg (show ¬ lg_cmp 0 24627848 = 0 from z_cmp (n := 24627848) (by decide) (by decide))]
  exact b_w49 t 0 g
/-- the want as it stands in the book at the end -/
def endW (F : Nat → Int32) (nw : Nat) (a1 a2 a3 : Int32) (p q : Bool) : Nat → Int32 := upd (upd (newW F nw a1 a2 a3) (78 + 5 * nw + 3) (bI p)) (78 + 5 * nw + 4) (bI q)
theorem bI_rg (b : Bool) : rg (bI b) 0 1 := by
  cases b with
  | false => exact ⟨0, by decide, by decide, rfl⟩
  | true => exact ⟨1, by decide, by decide, rfl⟩
theorem endW_inv {F : Nat → Int32} {n nw l d c : Nat} {a1 a2 a3 : Int32} {p q : Bool} (b1 : BP F n nw) (b2 : OI F n l) (b3 : F 3 = nI d) (b4 : d ≤ 99) (b5 : F 4 = nI c) (b6 : c ≤ 1188 * d) (hw : nw < 12) (r1 : rg a1 0 9) (r2 : rg a2 0 99) (r3 : rg a3 0 99) : BkI (endW F nw a1 a2 a3 p q) := by
  obtain ⟨n', nw', l', d', c', g1, g2, g3, g4, g5, g6⟩ := newW_inv b1 b2 b3 b4 b5 b6 hw r1 r2 r3
  have e1 : newW F nw a1 a2 a3 1 = nI (nw + 1) := up_s
  have e2 := g1.2.2.1
  rw [e1] at e2
  have e3 := (nI_eq (by omega) (by have := g1.2.2.2.1; omega)).mp e2
  unfold endW
  exact BkI.up (BP_upW (BP_upW g1 (show nw < nw' by omega) (k := 3) (by decide) (bI_rg p)) (show nw < nw' by omega) (k := 4) (by decide) (bI_rg q)) g2 g3 g4 g5 g6 (fun i h1 h2 => by rw [up_n (by omega), up_n (by omega)]) (fun i h1 => by rw [up_n (by omega), up_n (by omega)])
theorem r_end {k : HI} {F : Nat → Int32} {nw : Nat} {a1 a2 a3 : Int32} {p q : Bool} (e : tk (k 8 33) = F) (e1 : F 1 = nI nw) (hw : nw < 12) (f : k 8 32 16 = 0) : ∃ k', JX10_wantItem_152 a1 a2 a3 (bI p) (bI q) k = some k' ∧ RkTo k (endW F nw a1 a2 a3 p q) k' := by
  obtain ⟨⟨z, k1⟩, r1, r2, r3⟩ := r_newW (a1 := a1) (a2 := a2) (a3 := a3) e e1 hw
  dsimp only at r2 r3
  subst r2
  have i5 : ∀ j : Nat, (78 : Int32) + 5 * nI nw + nI j = nI (78 + 5 * nw + j) := fun j => by rw [show (78 : Int32) = nI 78 from rfl, show (5 : Int32) = nI 5 from rfl, pk_mul, nI_add, nI_add]
  have key : ∀ x : Int32, x = bI p → ∃ k', JX10_wantItem_191 (bI q) (nI nw) ((78 + (5 * nI nw)) + 3) x k1 = some k' ∧ RkTo k (endW F nw a1 a2 a3 p q) k' := by
    intro x ex
    unfold JX10_wantItem_191
    rw [show (78 : Int32) + 5 * nI nw + 3 = nI (78 + 5 * nw + 3) from i5 3, show (78 : Int32) + 5 * nI nw + 4 = nI (78 + 5 * nw + 4) from i5 4, gd_ix (show 78 + 5 * nw + 3 < 150 by omega) (by decide), nC_n (show 78 + 5 * nw + 3 < 2 ^ 31 by omega), ex]
    refine rkS r3 (78 + 5 * nw + 3) (by omega) (fun k2 v2 => ?_)
    rw [gd_ix (show 78 + 5 * nw + 4 < 150 by omega) (by decide), gd_ix (show 78 + 5 * nw + 4 < 150 by omega) (by decide), nC_n (show 78 + 5 * nw + 4 < 2 ^ 31 by omega), bI_if]
    unfold endW
    cases q with
    | true =>
      rw [if_pos rfl]
      exact rkS v2 (78 + 5 * nw + 4) (by omega) (fun k3 v3 => ⟨k3, rfl, v3⟩)
    | false =>
      rw [if_neg (by decide)]
      exact rkS v2 (78 + 5 * nw + 4) (by omega) (fun k3 v3 => ⟨k3, rfl, v3⟩)
  unfold JX10_wantItem_152
  rw [f, if_pos rfl, r1, Option.bind_some]
  dsimp only
  rw [bI_if]
  cases p with
  | true =>
    rw [if_pos rfl]
    exact key 1 rfl
  | false =>
    rw [if_neg (by decide)]
    exact key 0 rfl
/-- behind the day: both flags, and the want is there -/
theorem J_wEnd (cx : PC h0 k0 B T) {F : Nat → Int32} {s e s0 n nw l d c : Nat} {h k : HI} {a1 a2 a3 : Int32} (b1 : BP F n nw) (b2 : OI F n l) (b3 : F 3 = nI d) (b4 : d ≤ 99) (b5 : F 4 = nI c) (b6 : c ≤ 1188 * d) (hw : nw < 12) (r1 : rg a1 0 9) (r2 : rg a2 0 99) (r3 : rg a3 0 99) (hs : s0 < s) (g : Gd h0 k0 B T F F s e h k) : ∃ r h' k', (Option.bind (FX8_add 2 a1 a2 a3 h) fun (r13, h14) => Option.bind (FX2_takeWord 11 h14) fun (r15, h16) => if r15 = 0 then JX2_readWant_108 2 r13 r13 0 h16 else JX2_readWant_108 2 r13 r13 1 h16) = some (r, h') ∧ (Option.bind (FX10_word k) fun r12 => if (lg_cmp r12 9095769) = 0 then JX10_wantItem_112 a1 a2 a3 1 k else JX10_wantItem_112 a1 a2 a3 0 k) = some k' ∧ Out h0 k0 B T s0 r h' k' := by
  obtain ⟨⟨y, h1⟩, c1, c2, c3⟩ := c_addW (g := 2) (a1 := a1) (a2 := a2) (a3 := a3) g.2.1.at b1.2.2.1 hw
  dsimp only at c2 c3
  subst c2
  have g1 : Gd h0 k0 B T (newW F nw a1 a2 a3) F s e h1 k := ⟨g.1, g.2.1.bk c3, g.2.2⟩
  rw [c1, Option.bind_some]
  dsimp only
  -- the second word, given the first
  have key : ∀ (p : Bool) (s1 e1 : Nat) (h2 k2 : HI), s0 < s1 → Gd h0 k0 B T (newW F nw a1 a2 a3) F s1 e1 h2 k2 → ∃ r h' k', JX2_readWant_108 2 (nI nw) (nI nw) (bI p) h2 = some (r, h') ∧ JX10_wantItem_124 a1 a2 a3 (bI p) k2 = some k' ∧ Out h0 k0 B T s0 r h' k' := by
    intro p s1 e1 h2 k2 s1l g2
    unfold JX2_readWant_108 JX10_wantItem_124
    rw [gd_ix hw (by decide), nC_n (by omega)]
    have bs3 := bk_w (h := h2) (g := 2) (p := nw) (k := 3) (x := bI p) hw (by decide)
    rw [g2.2.1.at] at bs3
    have g3 : Gd h0 k0 B T (upd (newW F nw a1 a2 a3) (78 + 5 * nw + 3) (bI p)) F s1 e1 (hP1 h2 2 12 nw (bI p)) k2 := ⟨g2.1, g2.2.1.bk bs3, g2.2.2⟩
    rw [nm_eq]
    obtain ⟨b, v, v1, v2, v3, v4⟩ := J_tw cx 12 (by decide) g3
    have v2' : lg_cmp v 3659220 = 0 ↔ b = true := v2
    rw [v1, Option.bind_some]
    have fin : ∀ (q : Bool) (s4 e4 : Nat) (h4 k4 : HI), s0 < s4 → Gd h0 k0 B T (upd (newW F nw a1 a2 a3) (78 + 5 * nw + 3) (bI p)) F s4 e4 h4 k4 → ∃ k', JX10_wantItem_152 a1 a2 a3 (bI p) (bI q) k4 = some k' ∧ Out h0 k0 B T s0 1 (hP1 h4 2 13 nw (bI q)) k' := by
      intro q s4 e4 h4 k4 s4l g4
      obtain ⟨k', u1, u2⟩ := r_end (a1 := a1) (a2 := a2) (a3 := a3) (p := p) (q := q) g4.2.2.at b1.2.2.1 hw g4.2.2.fl.1
      have bs4 := bk_w (h := h4) (g := 2) (p := nw) (k := 4) (x := bI q) hw (by decide)
      rw [g4.2.1.at] at bs4
      exact ⟨k', u1, Or.inl ⟨rfl, endW F nw a1 a2 a3 p q, s4, e4, s4l, endW_inv b1 b2 b3 b4 b5 b6 hw r1 r2 r3, g4.1, g4.2.1.bk bs4, g4.2.2.rk u2⟩⟩
    cases b with
    | false =>
      obtain ⟨k', u1, u2⟩ := fin false s1 e1 _ k2 s1l g3
      rw [v3 rfl, Option.bind_some, if_neg (fun z => absurd (v2'.mp z) (by decide))]
      dsimp only
      rw [if_pos rfl, gd_ix hw (by decide), nm_eq]
      refine ⟨1, _, k', rfl, ?_, u2⟩
      unfold JX10_wantItem_140
      rw [if_pos rfl]
      exact u1
    | true =>
      obtain ⟨sT, s4, e4, h4, k4, w1, w2, w3, w4⟩ := v4 rfl
      obtain ⟨k', u1, u2⟩ := fin true s4 e4 h4 k4 (by have := (En_le g2.1).1; omega) w4
      rw [w1, Option.bind_some, if_pos (v2'.mpr rfl)]
      dsimp only
      rw [if_neg (by decide), gd_ix hw (by decide), nm_eq]
      refine ⟨1, _, k', rfl, ?_, u2⟩
      unfold JX10_wantItem_140
      rw [if_neg (by decide), w2, Option.bind_some]
      exact u1
  obtain ⟨b, v, v1, v2, v3, v4⟩ := J_tw cx 11 (by decide) g1
  have v2' : lg_cmp v 9095769 = 0 ↔ b = true := v2
  rw [v1, Option.bind_some]
  unfold JX10_wantItem_112
  cases b with
  | false =>
    rw [v3 rfl, Option.bind_some, if_neg (fun z => absurd (v2'.mp z) (by decide))]
    dsimp only
    rw [if_pos rfl, if_pos rfl]
    exact key false s e h1 k hs g1
  | true =>
    obtain ⟨sT, s4, e4, h4, k4, w1, w2, w3, w4⟩ := v4 rfl
    rw [w1, Option.bind_some, if_pos (v2'.mpr rfl)]
    dsimp only
    rw [if_neg (by decide), if_neg (by decide), w2, Option.bind_some]
    exact key true s4 e4 h4 k4 (by have := (En_le g1.1).1; omega) w4
theorem m1lt : (-1 : Int32) < 0 := by decide
theorem J_want (cx : PC h0 k0 B T) {F : Nat → Int32} {s e : Nat} {h k : HI} (bk : BkI F) (sT : s < T) (g : Gd h0 k0 B T F F s e h k) : ∃ r h' k', FX2_readWant 2 h = some (r, h') ∧ FX10_wantItem k = some k' ∧ Out h0 k0 B T s r h' k' := by
  obtain ⟨n, nw, l, d, c, b1, b2, b3, b4, b5, b6⟩ := bk
  have hw := b1.2.2.2.1
  have cn : h 2 8 5 = nI nw := (bk0 g.2.1.at).2.1.trans b1.2.2.1
  have rn : k 8 33 1 = nI nw := (rk0 g.2.2.at (by decide)).trans b1.2.2.1
  unfold FX2_readWant FX10_wantItem FX8_isFull JX10_wantItem_17
  rw [cn, rn]
  by_cases f : nw < 12
  · rw [if_pos (show nI nw < 12 from lt_t (b := 12) f (by omega) (by decide)), Option.bind_some, if_pos rfl, if_neg (show ¬ 12 ≤ nI nw from le_f (a := 12) (by omega) (by decide) (by omega))]
    obtain ⟨s1, e1, h1, k1, a1, a2, a3, a4⟩ := J_adv cx (a := 1) (by decide) g
    have se := En_lt g.1 sT
    rw [a1, Option.bind_some, a2, Option.bind_some]
    rcases J_num cx (lo := 0) (hi := 9) (by decide) (by decide) a4 with ⟨x, s2, e2, h2, k2, x1, x2, x3, x4, x5, x6, x7⟩ | ⟨k2, x1, x2, x3⟩
    · rw [show FX2_takeNumber 0 9 h1 = some (nI x, h2) from x3, Option.bind_some, show FX10_number 0 9 k1 = some k2 from x4, Option.bind_some, nm_eq, x5]
      dsimp only
      rw [if_neg (nI_nn (by omega))]
      have rt : rg (nI x) 0 9 := ⟨x, x1, x2, rfl⟩
      have s2l : s < s2 := by have := (En_le a4.1).1; omega
      obtain ⟨b, v, v1, v2, v3, v4⟩ := J_tw cx 9 (by decide) x7
      have v2' : lg_cmp v 24627848 = 0 ↔ b = true := v2
      rw [v1, Option.bind_some]
      cases b with
      | false =>
        rw [v3 rfl, Option.bind_some]
        dsimp only
        rw [if_pos rfl, if_neg (fun z => absurd (v2'.mp z) (by decide))]
        obtain ⟨k3, n1, n2⟩ := r_needs0 cx x7.1 x7.2.2
        unfold JX10_wantItem_49
        rw [n1, Option.bind_some, b_number 0 99 n2, Option.bind_some, nm_eq]
        obtain ⟨k4, q1, q2⟩ := b_wD (nI x) (k3 8 32 15) n2
        exact ⟨0, h2, k4, rfl, q1, Or.inr ⟨rfl, s2, x7.2.1.f, q2⟩⟩
      | true =>
        obtain ⟨sT2, s3, e3, h3, k3, w1, w2, w3, w4⟩ := v4 rfl
        rw [w1, Option.bind_some]
        dsimp only
        rw [if_neg (by decide), if_pos (v2'.mpr rfl)]
        unfold JX10_wantItem_49
        rw [w2, Option.bind_some]
        rcases J_num cx (lo := 0) (hi := 99) (by decide) (by decide) w4 with ⟨y, s4, e4, h4, k4, y1, y2, y3, y4, y5, y6, y7⟩ | ⟨k4, y1, y2, y3⟩
        · rw [show FX2_takeNumber 0 99 h3 = some (nI y, h4) from y3, Option.bind_some, show FX10_number 0 99 k3 = some k4 from y4, Option.bind_some, nm_eq, y5]
          dsimp only
          rw [if_neg (nI_nn (by omega))]
          have ry : rg (nI y) 0 99 := ⟨y, y1, y2, rfl⟩
          have s4l : s < s4 := by have := (En_le x7.1).1; have := (En_le w4.1).1; omega
          obtain ⟨b', v', v1', v2x, v3', v4'⟩ := J_tw cx 10 (by decide) y7
          have v2y : lg_cmp v' 4153 = 0 ↔ b' = true := v2x
          rw [v1', Option.bind_some]
          cases b' with
          | false =>
            rw [v3' rfl, Option.bind_some]
            dsimp only
            rw [if_pos rfl, if_neg (fun z => absurd (v2y.mp z) (by decide))]
            obtain ⟨k5, n1, n2⟩ := r_needs0 cx y7.1 y7.2.2
            unfold JX10_wantItem_81
            rw [n1, Option.bind_some, b_number 0 99 n2, Option.bind_some, nm_eq]
            obtain ⟨k6, q1, q2⟩ := b_wH (nI x) (nI y) (k5 8 32 15) n2
            exact ⟨0, h4, k6, rfl, q1, Or.inr ⟨rfl, s4, y7.2.1.f, q2⟩⟩
          | true =>
            obtain ⟨sT3, s5, e5, h5, k5, w1', w2', w3', w4'⟩ := v4' rfl
            rw [w1', Option.bind_some]
            dsimp only
            rw [if_neg (by decide), if_pos (v2y.mpr rfl)]
            unfold JX10_wantItem_81
            rw [w2', Option.bind_some]
            rcases J_num cx (lo := 0) (hi := 99) (by decide) (by decide) w4' with ⟨z, s6, e6, h6, k6, z1, z2, z3, z4, z5, z6, z7⟩ | ⟨k6, z1, z2, z3⟩
            · rw [show FX2_takeNumber 0 99 h5 = some (nI z, h6) from z3, Option.bind_some, show FX10_number 0 99 k5 = some k6 from z4, Option.bind_some, nm_eq, z5]
              dsimp only
              rw [if_pos (nn (by omega))]
              exact J_wEnd cx b1 b2 b3 b4 b5 b6 f rt ry ⟨z, z1, z2, rfl⟩ (by have := (En_le y7.1).1; have := (En_le w4'.1).1; omega) z7
            · rw [show FX2_takeNumber 0 99 h5 = some (-1, h5) from z1, Option.bind_some, show FX10_number 0 99 k5 = some k6 from z2, Option.bind_some, nm_eq]
              dsimp only
              rw [if_neg neg1]
              obtain ⟨k7, q1, q2⟩ := b_wH (nI x) (nI y) (k6 8 32 15) z3
              exact ⟨0, h5, k7, rfl, q1, Or.inr ⟨rfl, s5, w4'.2.1.f, q2⟩⟩
        · rw [show FX2_takeNumber 0 99 h3 = some (-1, h3) from y1, Option.bind_some, show FX10_number 0 99 k3 = some k4 from y2, Option.bind_some, nm_eq]
          dsimp only
          rw [if_pos m1lt]
          obtain ⟨k5, q1, q2⟩ := b_wD (nI x) (k4 8 32 15) y3
          exact ⟨0, h3, k5, rfl, q1, Or.inr ⟨rfl, s3, w4.2.1.f, q2⟩⟩
    · rw [show FX2_takeNumber 0 9 h1 = some (-1, h1) from x1, Option.bind_some, show FX10_number 0 9 k1 = some k2 from x2, Option.bind_some, nm_eq]
      dsimp only
      rw [if_pos m1lt]
      obtain ⟨k3, q1, q2⟩ := b_wW (k2 8 32 15) x3
      exact ⟨0, h1, k3, rfl, q1, Or.inr ⟨rfl, s1, a4.2.1.f, q2⟩⟩
  · have f12 : nw = 12 := by omega
    subst f12
    rw [if_neg (by decide), Option.bind_some, if_neg (by decide), if_pos (show (12 : Int32) ≤ nI 12 by decide)]
    obtain ⟨k1, n1, n2⟩ := r_needs0 cx g.1 g.2.2
    rw [n1, Option.bind_some, b_number 0 9 n2, Option.bind_some, nm_eq]
    obtain ⟨k3, q1, q2⟩ := b_wW (k1 8 32 15) n2
    exact ⟨0, h, k3, rfl, q1, Or.inr ⟨rfl, s, g.2.1.f, q2⟩⟩
theorem J_line (cx : PC h0 k0 B T) {F : Nat → Int32} {s e : Nat} {h k : HI} (bk : BkI F) (sT : s < T) (g : Gd h0 k0 B T F F s e h k) : ∃ r h' k', FX2_readLine 2 h = some (r, h') ∧ (Option.bind (FX10_perhaps 1 1 100 0 k) fun (r5, h6) => nm (hP1 h6 8 33 2 r5) fun h7 => some h7) = some k' ∧ Out h0 k0 B T s r h' k' := by
  obtain ⟨n, nw, l, d, c, b1, b2, b3, b4, b5, b6⟩ := bk
  have se := En_lt g.1 sT
  obtain ⟨s1, e1, h1, k1, a1, a2, a3, a4⟩ := J_adv cx (a := 1) (by decide) g
  unfold FX2_readLine FX10_perhaps
  rw [a1, Option.bind_some, if_neg (by decide), a2, Option.bind_some]
  rcases J_num cx (lo := 1) (hi := 100) (by decide) (by decide) a4 with ⟨x, s2, e2, h2, k2, x1, x2, x3, x4, x5, x6, x7⟩ | ⟨k2, x1, x2, x3⟩
  · rw [show FX2_takeNumber 1 100 h1 = some (nI x, h2) from x3, Option.bind_some, show FX10_number 1 100 k1 = some k2 from x4, Option.bind_some, Option.bind_some]
    dsimp only
    rw [if_pos (nn (by omega)), nm_eq, nm_eq, x5]
    have c3 := bk_6 (h := h2) (g := 2) (m := 2) (x := nI x) (by decide)
    rw [x7.2.1.at] at c3
    have r3 := rk_u (h := k2) (i := 2) (x := nI x) (by decide)
    rw [x7.2.2.at] at r3
    exact ⟨1, _, _, rfl, rfl, Or.inl ⟨rfl, upd F 2 (nI x), s2, e2, by have := (En_le a4.1).1; omega, BkI.up (b1.up2 ⟨x, x1, x2, rfl⟩) b2 b3 b4 b5 b6 (fun j h1 h2 => up_n (by omega)) (fun j hj => up_n (by omega)), x7.1, x7.2.1.bk c3, x7.2.2.rk r3⟩⟩
  · rw [show FX2_takeNumber 1 100 h1 = some (-1, h1) from x1, Option.bind_some, show FX10_number 1 100 k1 = some k2 from x2, Option.bind_some, Option.bind_some]
    dsimp only
    rw [if_neg neg1, nm_eq]
    exact ⟨0, h1, _, rfl, rfl, Or.inr ⟨rfl, s1, a4.2.1.f, x3.p33⟩⟩
end Wants
