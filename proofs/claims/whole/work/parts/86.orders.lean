-- items: the order
section Orders
variable {h0 k0 : HI} {B : Nat → Int32} {T : Nat}
theorem GC.val {F : Nat → Int32} {s e : Nat} {h : HI} (g : GC h0 B T F s e h) (d : Dg B T s = true) : h 5 26 4 = nI (mn (vN B s (e - s))) := by
  obtain ⟨u, w, rfl, g1, g2, g3, g4, g5, g6⟩ := g
  rw [hPF_s]
  exact g6 d
theorem knd2 {s : Nat} : knd B T s = 2 ↔ Dg B T s = true := by
  unfold knd
  cases q : Dg B T s with
  | true =>
    rw [if_pos (Dg_T q), if_neg (fun z => LD z q), if_pos rfl]
    exact ⟨fun _ => rfl, fun _ => rfl⟩
  | false =>
    refine ⟨fun z => ?_, fun z => absurd z (by decide)⟩
    by_cases c : s < T
    · rw [if_pos c] at z
      split at z
      · exact absurd z (by decide)
      · rw [if_neg (by decide)] at z
        split at z
        · exact absurd z (by decide)
        · exact absurd z (by decide)
    · rw [if_neg c] at z
      exact absurd z (by decide)
theorem c_numO (cx : PC h0 k0 B T) {F : Nat → Int32} {s e n : Nat} {h : HI} (hn : n ≤ 12) (en : En B T s e) (g : GC h0 B T F s e h) : (Dg B T s = true ∧ vN B s (e - s) < n ∧ ∃ h', FX7_advance h = some h' ∧ FX2_takeNumber 0 (nI n - 1) h = some (nI (vN B s (e - s)), h')) ∨ ((Dg B T s = false ∨ n ≤ vN B s (e - s)) ∧ FX2_takeNumber 0 (nI n - 1) h = some (-1, h)) := by
  obtain ⟨s', e', h', a1, -⟩ := c_advG cx en g
  unfold FX2_takeNumber
  rw [g.kd.1]
  cases q : Dg B T s with
  | false =>
    rw [if_neg (fun z => by rw [knd2, q] at z; exact absurd z (by decide))]
    exact Or.inr ⟨Or.inl rfl, rfl⟩
  | true =>
    have bm : mn (vN B s (e - s)) ≤ 1000 := by unfold mn; split <;> omega
    rw [if_pos (knd2.mpr q), g.val q, f_within, wi_isP (by omega), Option.bind_some, bI_if]
    by_cases c : vN B s (e - s) < n
    · have em : mn (vN B s (e - s)) = vN B s (e - s) := by unfold mn; rw [if_pos (by omega)]
      refine Or.inl ⟨rfl, c, h', a1, ?_⟩
      rw [em, show isP (nI n) (nI (vN B s (e - s))) = true from ?_, if_pos rfl, nm_eq, a1, Option.bind_some]
      unfold isP
      rw [decide_eq_false (nI_nn (by omega)), decide_eq_false (le_f (by omega) (by omega) (by omega))]
      rfl
    · refine Or.inr ⟨Or.inr (by omega), ?_⟩
      have em : n ≤ mn (vN B s (e - s)) := by unfold mn; split <;> omega
      rw [show isP (nI n) (nI (mn (vN B s (e - s)))) = false from ?_, if_neg (by decide)]
      unfold isP
      rw [decide_eq_true (le_t em (by omega) (by omega)), Bool.not_true, Bool.and_false]
theorem r_oneL {h : HI} {s e : Nat} {w : Nat → Int32} (hB : ∀ i, i < 120 → h 8 39 i = B i) (hT : T ≤ 120) (w12 : w 12 = nI T) (w13 : w 13 = nI s) (w14 : w 14 = nI e) (eT : e ≤ 120) (l : ∀ j, s ≤ j → j < e → Dg B T j = true) (d : Dg B T s = true) (se : s ≤ e) : loopN (SX10_orderOne_7 (hPF h 8 32 w)) FU (0, nI s) = some (nI (vN B s (e - s))) := by
  have sT := Dg_T d
  refine for_loop (f := SX10_orderOne_7 (hPF h 8 32 w)) (fun i => (nI (vN B s i), nI (s + i))) (e - s) _ ?_ ?_ FU (by have := FU_lt; omega)
  · intro i hi
    have b9 := vN_le l i (by omega)
    obtain ⟨dv, d1, d2, d3⟩ := Dg_v (l (s + i) (by omega) (by omega))
    have ev : vN B s (i + 1) = if vN B s i ≤ 999 then 10 * vN B s i + dv else vN B s i := by
      rw [← d3]
      rfl
    unfold SX10_orderOne_7
    dsimp only
    rw [hPF_s, w14, if_neg (le_f (by omega) (by omega) (by omega)), w13, r_byte hB hT w12 (by omega), Option.bind_some, r_dgb, tpA_dg, d, Option.bind_some, bI_if, if_pos rfl, gd_ix (show s + i < 120 by omega) (by decide), nC_n (by omega), hPF_n (by decide), hB _ (by omega), d2, nm_eq, nI_1, show (10 : Int32) = nI 10 from rfl, pk_mul, nI_add, show (48 : Int32) = nI 48 from rfl, pk_sub (by omega), show 10 * vN B s i + (48 + dv) - 48 = 10 * vN B s i + dv by omega, ev]
    by_cases c : vN B s i ≤ 999
    · rw [if_pos c, if_pos (show nI (vN B s i) ≤ 999 from le_t (b := 999) c (by omega) (by decide))]
      rfl
    · rw [if_neg c, if_neg (show ¬ nI (vN B s i) ≤ 999 from le_f (b := 999) c (by omega) (by decide))]
      rfl
  · unfold SX10_orderOne_7
    dsimp only
    rw [hPF_s, w14, if_pos (le_t (by omega) (by omega) (by omega))]
theorem byte_any (cx : PC h0 k0 B T) {s : Nat} {r w : Nat → Int32} (o : Ots k0 w) (hs : s ≤ 120) : ∃ x, FX10_byteAt (nI s) (hPF (hPF k0 8 33 r) 8 32 w) = some x := by
  have tT := cx.2.2.1
  by_cases c : s ≤ T
  · exact ⟨_, r_byte (cx.r r) tT (o.len cx) c⟩
  · unfold FX10_byteAt
    rw [hPF_s, o.len cx, if_pos (le_t (by omega) (by omega) (by omega))]
    exact ⟨_, rfl⟩
theorem one_any (cx : PC h0 k0 B T) {s e : Nat} {r w : Nat → Int32} (o : Ots k0 w) (w13 : w 13 = nI s) (w14 : w 14 = nI e) (hs : s ≤ 120) (he : e ≤ 120) : ∃ x, loopN (SX10_orderOne_7 (hPF (hPF k0 8 33 r) 8 32 w)) FU (0, nI s) = some x := by
  obtain ⟨y, hy⟩ := byte_any cx (r := r) o hs
  have key : ∃ x, loopN (SX10_orderOne_7 (hPF (hPF k0 8 33 r) 8 32 w)) FU (0, nI s) = some x ∧ True := by
    refine gloop (f := SX10_orderOne_7 (hPF (hPF k0 8 33 r) 8 32 w)) (fun i (x : Int32 × Int32) => x.2 = nI (s + i) ∧ s + i ≤ 240) _ (e - s) ?_ (k := FU) (by have := FU_lt; omega) ⟨rfl, by omega⟩
    rintro i ⟨a, b⟩ hi ⟨rfl, i1⟩
    unfold SX10_orderOne_7
    dsimp only
    rw [hPF_s, w14, w13, hy, Option.bind_some, r_dgb, Option.bind_some, bI_if]
    by_cases c : e ≤ s + i
    · exact Or.inr ⟨a, by rw [if_pos (le_t c (by omega) (by omega))], trivial⟩
    · rw [if_neg (le_f c (by omega) (by omega)), gd_ix (show s + i < 120 by omega) (by decide), nm_eq, nI_1]
      cases wi y 48 57 with
      | false =>
        rw [if_neg (by decide)]
        exact Or.inr ⟨a, rfl, trivial⟩
      | true =>
        rw [if_pos rfl]
        by_cases d : a ≤ 999
        · rw [if_pos d]
          exact Or.inl ⟨by omega, _, rfl, rfl, by omega⟩
        · rw [if_neg d]
          exact Or.inl ⟨by omega, _, rfl, rfl, by omega⟩
  obtain ⟨x, k1, -⟩ := key
  exact ⟨x, k1⟩
theorem b_o97 {s : Nat} {k : HI} (a1 s1 : Int32) (g : BR k0 s k) : ∃ k', JX10_orderOne_97 a1 s1 k = some k' ∧ BR k0 s k' := by
  obtain ⟨k', n1, n2⟩ := b_needs s1 g
  unfold JX10_orderOne_97
  rw [n1, Option.bind_some, n2.fl.1, if_neg (by decide)]
  exact ⟨k', rfl, n2⟩
theorem b_orderOne (cx : PC h0 k0 B T) {s : Nat} {k : HI} (g : BR k0 s k) (k5 : k 8 33 5 = 0) : ∃ k', FX10_orderOne k = some k' ∧ BR k0 s k' := by
  have g' := g
  obtain ⟨r, w, rfl, g1, ⟨e, e1, e2⟩, g3, g4, g5⟩ := g
  obtain ⟨x, hx⟩ := one_any cx (r := r) g5 g1 e2 g3 e1
  obtain ⟨y, hy⟩ := byte_any cx (r := r) g5 g3
  obtain ⟨ka, a1, a2⟩ := b_o97 x 0 g'
  obtain ⟨kb, b1, b2⟩ := b_o97 x 1 g'
  obtain ⟨q, q1, -⟩ := r_place (h := hPF (hPF k0 8 33 r) 8 32 w) x (F := tk (hPF (hPF k0 8 33 r) 8 32 w 8 33)) rfl (l := 0) (by rw [tk_lt (by decide)]; exact k5) (by decide)
  have ip : FX10_isPhrase x (hPF (hPF k0 8 33 r) 8 32 w) = some (bI (wi x 0 (hPF (hPF k0 8 33 r) 8 32 w 8 33 0 - 1))) := by
    unfold FX10_isPhrase
    rw [f_in (a := 0) (b := (hPF (hPF k0 8 33 r) 8 32 w 8 33 0 - 1).toInt64) 0 (hPF (hPF k0 8 33 r) 8 32 w 8 33 0 - 1) rfl rfl, Option.bind_some, gd_B]
  unfold FX10_orderOne JX10_orderOne_61 JX10_orderOne_96
  rw [nm_eq, hPF_s, g1, hx, Option.bind_some, hy, Option.bind_some, r_dgb, Option.bind_some, bI_if, ip, Option.bind_some, bI_if, q1, Option.bind_some]
  split
  · split
    · split
      · exact ⟨ka, a1, a2⟩
      · exact ⟨kb, b1, b2⟩
    · exact ⟨ka, a1, a2⟩
  · exact ⟨ka, a1, a2⟩
theorem b_ordLoop {s m : Nat} {k : HI} (g : BR k0 s k) : loopN SX10_orderItem_31 (m + 1) k = some k := by
  have step : SX10_orderItem_31 k = some (Sum.inr k) := by
    unfold SX10_orderItem_31
    dsimp only
    rw [g.fl.1, if_neg (by decide)]
  rw [loopN, step]
theorem FU_succ : ∃ m, FU = m + 1 ∧ 4000 < m := ⟨FU - 1, by have := FU_lt; omega, by have := FU_lt; omega⟩
theorem b_orderItem (cx : PC h0 k0 B T) {s : Nat} {k : HI} (s1 : Int32) (g : BR k0 s k) : ∃ k', JX10_orderItem_17 s1 k = some k' ∧ BR k0 s k' := by
  obtain ⟨k1, n1, n2⟩ := b_needs s1 g
  obtain ⟨k2, o1, o2⟩ := b_orderOne cx (n2.p33 (j := 5) (x := 0)) hP1_s
  obtain ⟨m, em, -⟩ := FU_succ
  unfold JX10_orderItem_17
  rw [n1, Option.bind_some, nm_eq, o1, Option.bind_some, em, b_ordLoop o2, Option.bind_some]
  exact ⟨k2, rfl, o2⟩
/-- one number of the order -/
theorem J_one (cx : PC h0 k0 B T) {F : Nat → Int32} {s e n nw l : Nat} {h k : HI} (a : Int32) (b1 : BP F n nw) (b2 : OI F n l) (g : Gd h0 k0 B T F F s e h k) : (Dg B T s = true ∧ ∃ v s' e' h' k', v < n ∧ (∀ i, i < l → ¬ od F i = nI v) ∧ JX2_readOrder_40 2 a h = some (Sum.inl (a + 1, h')) ∧ FX10_orderOne k = some k' ∧ e ≤ s' ∧ Gd h0 k0 B T (addS F l (nI v)) (addS F l (nI v)) s' e' h' k') ∨ (∃ k', JX2_readOrder_40 2 a h = some (Sum.inr (0, h)) ∧ FX10_orderOne k = some k' ∧ BR k0 s k') := by
  have hn := b1.2.1
  have hl := b2.2.1
  have tT := cx.2.2.1
  have le := En_le g.1
  have cn : h 2 1 6 = nI n := (bk0 g.2.1.at).1.trans b1.1
  have rn : k 8 33 0 = nI n := (rk0 g.2.2.at (by decide)).trans b1.1
  -- the reference, when it fails
  have bad : ∃ k', JX10_orderOne_96 (if Dg B T s = true then nI (vN B s (e - s)) else 0) k = some k' ∧ BR k0 s k' := by
    obtain ⟨k', n1, n2⟩ := r_needs0 cx g.1 g.2.2
    unfold JX10_orderOne_96 JX10_orderOne_97
    rw [n1, Option.bind_some, n2.fl.1, if_neg (by decide)]
    exact ⟨k', rfl, n2⟩
  have start : ∃ x, loopN (SX10_orderOne_7 k) FU (0, nI s) = some x ∧ (Dg B T s = true → x = nI (vN B s (e - s))) ∧ FX10_byteAt (nI s) k = some (tpA B T s) ∧ k 8 32 13 = nI s := by
    obtain ⟨r, w, rfl, g1, g2, g3, g4, g5⟩ := g.2.2
    cases q : Dg B T s with
    | true => exact ⟨_, r_oneL (cx.r r) tT (g5.len cx) g2 g3 (by omega) (En_D g.1 q) q le.1, fun _ => rfl, r_byte (cx.r r) tT (g5.len cx) (by omega), by rw [hPF_s]; exact g2⟩
    | false =>
      obtain ⟨x, hx⟩ := one_any cx (r := r) g5 g2 g3 (by omega) (by omega)
      exact ⟨x, hx, fun z => absurd z (by decide), r_byte (cx.r r) tT (g5.len cx) (by omega), by rw [hPF_s]; exact g2⟩
  obtain ⟨x, x1, x2, x3, x4⟩ := start
  have fl := c_numO cx hn g.1 g.2.1
  unfold JX2_readOrder_40 FX10_orderOne JX10_orderOne_61
  rw [nm_eq, x4, x1, Option.bind_some, x3, Option.bind_some, r_dgb, tpA_dg, Option.bind_some, bI_if, g.2.1.kd.1]
  cases q : Dg B T s with
  | false =>
    rw [if_neg (fun z => by rw [knd2, q] at z; exact absurd z (by decide)), if_neg (by decide)]
    rcases fl with ⟨q1, -⟩ | ⟨-, f1⟩
    · rw [q] at q1
      exact absurd q1 (by decide)
    · refine Or.inr ?_
      obtain ⟨k', n1, n2⟩ := r_needs0 cx g.1 g.2.2
      refine ⟨k', ?_, ?_, n2⟩
      · unfold JX2_readOrder_70
        rw [cn, f1, Option.bind_some]
        dsimp only
        rw [if_neg neg1]
      · unfold JX10_orderOne_96 JX10_orderOne_97
        rw [n1, Option.bind_some, n2.fl.1, if_neg (by decide)]
  | true =>
    rw [if_pos (knd2.mpr q), if_pos rfl, g.2.1.val q, x2 q, r_isP (n := n) (nI (vN B s (e - s))) (h := k) (show RV k 0 0 = nI n from rn) hn, Option.bind_some, bI_if, show RV k 0 0 = nI n from rn]
    rw [q, if_pos rfl] at bad
    have b9 := vN_le (En_D g.1 q) (e - s) (by omega)
    have bm : mn (vN B s (e - s)) ≤ 1000 := by unfold mn; split <;> omega
    obtain ⟨rc, p1, p2⟩ := c_place (nI (mn (vN B s (e - s)))) g.2.1.at b2.1 (by omega)
    obtain ⟨rr, s1, s2⟩ := r_place (nI (vN B s (e - s))) g.2.2.at b2.1 (by omega)
    rw [p1, Option.bind_some]
    by_cases c : vN B s (e - s) < n
    · have em : mn (vN B s (e - s)) = vN B s (e - s) := by unfold mn; rw [if_pos (by omega)]
      rw [em] at p2
      have ip : isP (nI n) (nI (vN B s (e - s))) = true := by
        unfold isP
        rw [decide_eq_false (nI_nn (by omega)), decide_eq_false (le_f (by omega) (by omega) (by omega))]
        rfl
      have er := Pl_eq b2 p2 s2
      subst er
      rw [ip, if_pos rfl, s1, Option.bind_some]
      rcases p2 with ⟨i, i1, i2, i3⟩ | ⟨i1, i2⟩
      · refine Or.inr ?_
        obtain ⟨k', n1, n2⟩ := bad
        exact ⟨k', by rw [i3, if_neg (nI_nn (by omega))], by rw [i3, if_pos (nn (by omega))]; exact n1, n2⟩
      · refine Or.inl ⟨rfl, ?_⟩
        rw [i2, if_pos m1lt, if_neg neg1]
        rcases fl with ⟨-, -, h', a1, a2⟩ | ⟨f1, -⟩
        · have room : l < n := OI_room b2 hn c i1
          obtain ⟨s', e', h'', c1, c2, c3, c4⟩ := c_advG cx g.1 g.2.1
          rw [a1] at c1
          have eh := Option.some.inj c1
          subst eh
          obtain ⟨s'', e'', k', d1, d2, d3, d4, -⟩ := r_needs1 cx (a := 1) (by decide) g.1 g.2.2
          have es := Sk_eq c2 d2
          subst es
          have ee := En_eq c3 d3
          subst ee
          obtain ⟨h2, u1, u2⟩ := c_append (x := nI (vN B s (e - s))) c4.at b2.1 (by omega) i1
          have fin : ∃ k2, JX10_orderOne_97 (nI (vN B s (e - s))) 1 k = some k2 ∧ RkTo k' (addS F l (nI (vN B s (e - s)))) k2 := by
            unfold JX10_orderOne_97 addS
            rw [d1, Option.bind_some, d4.fl.1, if_pos rfl, (rk0 d4.at (show 5 < 150 by decide)).trans b2.1, i138, gd_ix (show 138 + l < 150 by omega) (by decide), nC_n (by omega)]
            refine rkS (b := show RkTo k' F k' by have q := RkTo.rf (h := k'); rw [d4.at] at q; exact q) (138 + l) (by omega) (fun k3 v3 => ?_)
            rw [show k3 8 33 5 = nI l from (rk0 v3.at (by decide)).trans ((up_n (by omega)).trans b2.1), nI_1]
            exact rkS v3 5 (by decide) (fun k4 v4 => ⟨k4, rfl, v4⟩)
          obtain ⟨k2, w1, w2⟩ := fin
          refine ⟨vN B s (e - s), s', e', h2, k2, c, i1, ?_, w1, c2.1, c3, c4.bk u2, d4.rk w2⟩
          unfold JX2_readOrder_70
          rw [cn, a2, Option.bind_some]
          dsimp only
          rw [if_pos (nn (by omega)), u1, Option.bind_some]
        · rcases f1 with f1 | f1
          · rw [q] at f1
            exact absurd f1 (by decide)
          · omega
    · have em : n ≤ mn (vN B s (e - s)) := by unfold mn; split <;> omega
      have ip : isP (nI n) (nI (vN B s (e - s))) = false := by
        unfold isP
        rw [decide_eq_true (le_t (by omega) (by omega) (by omega)), Bool.not_true, Bool.and_false]
      rw [ip, if_neg (show ¬ false = true by decide)]
      obtain ⟨k', n1, n2⟩ := bad
      refine Or.inr ⟨k', ?_, n1, n2⟩
      rcases p2 with ⟨i, i1, i2, i3⟩ | ⟨i1, i2⟩
      · obtain ⟨p, pn, pe⟩ := b2.2.2.1 i i1
        rw [pe] at i2
        have := (nI_eq (by omega) (by omega)).mp i2
        omega
      · rw [i2, if_pos m1lt]
        unfold JX2_readOrder_70
        rcases fl with ⟨-, f1, -⟩ | ⟨-, f1⟩
        · omega
        · rw [cn, f1, Option.bind_some]
          dsimp only
          rw [if_neg neg1]
theorem J_ordL (cx : PC h0 k0 B T) {n nw s0 d c : Nat} (b4 : d ≤ 99) (b6 : c ≤ 1188 * d) : ∀ (j kc kr l s e : Nat) (F : Nat → Int32) (h k : HI), n - l ≤ j → j < kc → j + 1 < kr → 1 ≤ l → BP F n nw → OI F n l → F 3 = nI d → F 4 = nI c → s0 < s → Gd h0 k0 B T F F s e h k → ∃ r h' k', loopN (SX2_readOrder_17 2) kc (nI l, h) = some (r, h') ∧ loopN SX10_orderItem_31 kr k = some k' ∧ Out h0 k0 B T s0 r h' k' := by
  intro j
  induction j with
  | zero =>
    intro kc kr l s e F h k hj hc hr hl b1 b2 b3 b5 hs g
    have hn := b1.2.1
    have hl2 := b2.2.1
    obtain ⟨mc, rfl⟩ : ∃ mc, kc = mc + 1 := ⟨kc - 1, by omega⟩
    obtain ⟨mr, rfl⟩ : ∃ mr, kr = mr + 2 := ⟨kr - 2, by omega⟩
    have by1 : FX10_byteAt (k 8 32 13) k = some (tpA B T s) := by
      have q := g.2.2.fl.2.1
      obtain ⟨r, w, rfl, g1, g2, g3, g4, g5⟩ := g.2.2
      rw [q]
      exact r_byte (cx.r r) cx.2.2.1 (g5.len cx) (by have := En_le g.1; omega)
    cases q : Dg B T s with
    | false =>
      refine ⟨1, h, k, ?_, ?_, Or.inl ⟨rfl, F, s, e, hs, ⟨n, nw, l, d, c, b1, b2, b3, b4, b5, b6⟩, g⟩⟩
      · unfold loopN SX2_readOrder_17
        dsimp only
        rw [if_neg (show ¬ 12 < nI l from lt_f (a := 12) (by omega) (by decide) (by omega)), if_neg (show ¬ nI l ≤ 0 from le_f (b := 0) (by omega) (by omega) (by decide)), g.2.1.kd.1, if_neg (fun z => by rw [knd2, q] at z; exact absurd z (by decide))]
      · unfold loopN SX10_orderItem_31
        dsimp only
        rw [g.2.2.fl.1, if_pos rfl, by1, Option.bind_some, r_dgb, tpA_dg, q, Option.bind_some, bI_if, if_neg (by decide)]
    | true =>
      rcases J_one cx (nI l) b1 b2 g with ⟨-, v, s', e', h', k', v1, v2, -⟩ | ⟨k', o1, o2, o3⟩
      · have := OI_room b2 hn v1 v2
        omega
      · refine ⟨0, h, k', ?_, ?_, Or.inr ⟨rfl, s, g.2.1.f, o3⟩⟩
        · unfold loopN SX2_readOrder_17
          dsimp only
          rw [if_neg (show ¬ 12 < nI l from lt_f (a := 12) (by omega) (by decide) (by omega)), if_neg (show ¬ nI l ≤ 0 from le_f (b := 0) (by omega) (by omega) (by decide)), g.2.1.kd.1, if_pos (knd2.mpr q), o1]
        · have step : SX10_orderItem_31 k = some (Sum.inl k') := by
            unfold SX10_orderItem_31
            dsimp only
            rw [g.2.2.fl.1, if_pos rfl, by1, Option.bind_some, r_dgb, tpA_dg, q, Option.bind_some, bI_if, if_pos rfl, o2, Option.bind_some]
          show loopN SX10_orderItem_31 (mr + 1 + 1) k = some k'
          rw [loopN, step]
          exact b_ordLoop o3
  | succ j ih =>
    intro kc kr l s e F h k hj hc hr hl b1 b2 b3 b5 hs g
    have hn := b1.2.1
    have hl2 := b2.2.1
    obtain ⟨mc, rfl⟩ : ∃ mc, kc = mc + 1 := ⟨kc - 1, by omega⟩
    obtain ⟨mr, rfl⟩ : ∃ mr, kr = mr + 2 := ⟨kr - 2, by omega⟩
    have by1 : FX10_byteAt (k 8 32 13) k = some (tpA B T s) := by
      have q := g.2.2.fl.2.1
      obtain ⟨r, w, rfl, g1, g2, g3, g4, g5⟩ := g.2.2
      rw [q]
      exact r_byte (cx.r r) cx.2.2.1 (g5.len cx) (by have := En_le g.1; omega)
    cases q : Dg B T s with
    | false =>
      refine ⟨1, h, k, ?_, ?_, Or.inl ⟨rfl, F, s, e, hs, ⟨n, nw, l, d, c, b1, b2, b3, b4, b5, b6⟩, g⟩⟩
      · unfold loopN SX2_readOrder_17
        dsimp only
        rw [if_neg (show ¬ 12 < nI l from lt_f (a := 12) (by omega) (by decide) (by omega)), if_neg (show ¬ nI l ≤ 0 from le_f (b := 0) (by omega) (by omega) (by decide)), g.2.1.kd.1, if_neg (fun z => by rw [knd2, q] at z; exact absurd z (by decide))]
      · unfold loopN SX10_orderItem_31
        dsimp only
        rw [g.2.2.fl.1, if_pos rfl, by1, Option.bind_some, r_dgb, tpA_dg, q, Option.bind_some, bI_if, if_neg (by decide)]
    | true =>
      have rstep : ∀ k', FX10_orderOne k = some k' → SX10_orderItem_31 k = some (Sum.inl k') := by
        intro k' o2
        unfold SX10_orderItem_31
        dsimp only
        rw [g.2.2.fl.1, if_pos rfl, by1, Option.bind_some, r_dgb, tpA_dg, q, Option.bind_some, bI_if, if_pos rfl, o2, Option.bind_some]
      have cstep : SX2_readOrder_17 2 (nI l, h) = JX2_readOrder_40 2 (nI l) h := by
        unfold SX2_readOrder_17
        dsimp only
        rw [if_neg (show ¬ 12 < nI l from lt_f (a := 12) (by omega) (by decide) (by omega)), if_neg (show ¬ nI l ≤ 0 from le_f (b := 0) (by omega) (by omega) (by decide)), g.2.1.kd.1, if_pos (knd2.mpr q)]
      rcases J_one cx (nI l) b1 b2 g with ⟨-, v, s', e', h', k', v1, v2, v3, v4, v5, v6⟩ | ⟨k', o1, o2, o3⟩
      · have room := OI_room b2 hn v1 v2
        obtain ⟨r, h2, k2, z1, z2, z3⟩ := ih mc (mr + 1) (l + 1) s' e' (addS F l (nI v)) h' k' (by omega) (by omega) (by omega) (by omega) (b1.of addS_low) (addS_OI b2 room v1 v2) (by rw [addS_low 3 (by decide) (by decide)]; exact b3) (by rw [addS_low 4 (by decide) (by decide)]; exact b5) (by have := En_le g.1; omega) v6
        refine ⟨r, h2, k2, ?_, ?_, z3⟩
        · rw [loopN, cstep, v3, nI_1]
          exact z1
        · show loopN SX10_orderItem_31 (mr + 1 + 1) k = some k2
          rw [loopN, rstep k' v4]
          exact z2
      · refine ⟨0, h, k', ?_, ?_, Or.inr ⟨rfl, s, g.2.1.f, o3⟩⟩
        · rw [loopN, cstep, o1]
        · show loopN SX10_orderItem_31 (mr + 1 + 1) k = some k'
          rw [loopN, rstep k' o2]
          exact b_ordLoop o3
theorem J_order (cx : PC h0 k0 B T) {F : Nat → Int32} {s e : Nat} {h k : HI} (bk : BkI F) (sT : s < T) (g : Gd h0 k0 B T F F s e h k) : ∃ r h' k', FX2_readOrder 2 h = some (r, h') ∧ JX10_orderItem_17 1 k = some k' ∧ Out h0 k0 B T s r h' k' := by
  obtain ⟨n, nw, l, d, c, b1, b2, b3, b4, b5, b6⟩ := bk
  have hn := b1.2.1
  have se := En_lt g.1 sT
  obtain ⟨m, em, em4⟩ := FU_succ
  obtain ⟨s1, e1, h1, k1, a1, a2, a3, a4⟩ := J_adv cx (a := 1) (by decide) g
  have c3 := bk_6 (h := h1) (g := 2) (m := 5) (x := 0) (by decide)
  rw [a4.2.1.at] at c3
  have r3 := rk_u (h := k1) (i := 5) (x := 0) (by decide)
  rw [a4.2.2.at] at r3
  have g2 : Gd h0 k0 B T (upd F 5 0) (upd F 5 0) s1 e1 (hP1 h1 2 14 1 0) (hP1 k1 8 33 5 0) := ⟨a4.1, a4.2.1.bk c3, a4.2.2.rk r3⟩
  have b1' : BP (upd F 5 0) n nw := b1.of (fun x _ h2 => up_n h2)
  have b2' : OI (upd F 5 0) n 0 := ⟨up_s, by omega, fun i hi => by omega, fun i j hi => by omega⟩
  have b3' : upd F 5 0 3 = nI d := by rw [up_n (by decide)]; exact b3
  have b5' : upd F 5 0 4 = nI c := by rw [up_n (by decide)]; exact b5
  unfold FX2_readOrder JX10_orderItem_17
  rw [a1, Option.bind_some, nm_eq, a2, Option.bind_some, nm_eq]
  have cstep : SX2_readOrder_17 2 (0, hP1 h1 2 14 1 0) = JX2_readOrder_40 2 0 (hP1 h1 2 14 1 0) := by
    unfold SX2_readOrder_17
    dsimp only
    rw [if_neg (by decide), if_pos (by decide)]
  rcases J_one cx 0 b1' b2' g2 with ⟨-, v, s', e', h', k', v1, v2, v3, v4, v5, v6⟩ | ⟨k', o1, o2, o3⟩
  · obtain ⟨r, h2, k2, z1, z2, z3⟩ := J_ordL cx (n := n) (nw := nw) (s0 := s) b4 b6 12 m (m + 1) 1 s' e' (addS (upd F 5 0) 0 (nI v)) h' k' (by omega) (by omega) (by omega) (by omega) (b1'.of addS_low) (addS_OI b2' (by omega) v1 v2) (by rw [addS_low 3 (by decide) (by decide)]; exact b3') (by rw [addS_low 4 (by decide) (by decide)]; exact b5') (by have := En_le a4.1; omega) v6
    refine ⟨r, h2, k2, ?_, ?_, z3⟩
    · rw [em, loopN, cstep, v3, show (0 : Int32) + 1 = nI 1 from rfl]
      dsimp only
      rw [z1, Option.bind_some]
    · rw [v4, Option.bind_some, em, z2, Option.bind_some]
  · refine ⟨0, hP1 h1 2 14 1 0, k', ?_, ?_, Or.inr ⟨rfl, s1, g2.2.1.f, o3⟩⟩
    · rw [em, loopN, cstep, o1]
      rfl
    · rw [o2, Option.bind_some, em, b_ordLoop o3, Option.bind_some]
end Orders
