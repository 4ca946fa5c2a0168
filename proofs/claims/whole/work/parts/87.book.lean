-- items, the book told in a text
section Book
variable {h0 k0 : HI} {B : Nat → Int32} {T : Nat}
def knm (b : Nat → Bool) : Int32 := if b 0 = true then 0 else if b 1 = true then 1 else if b 2 = true then 2 else if b 3 = true then 3 else if b 4 = true then 4 else if b 5 = true then 5 else -1
theorem knm_v (b : Nat → Bool) : (∃ i, i < 6 ∧ b i = true ∧ knm b = nI i) ∨ ((∀ i, i < 6 → b i = false) ∧ knm b = -1) := by
  unfold knm
  cases q0 : b 0 with
  | true => exact Or.inl ⟨0, by decide, q0, by rw [if_pos rfl]; rfl⟩
  | false =>
    rw [if_neg (show ¬ false = true by decide)]
    cases q1 : b 1 with
    | true => exact Or.inl ⟨1, by decide, q1, by rw [if_pos rfl]; rfl⟩
    | false =>
      rw [if_neg (show ¬ false = true by decide)]
      cases q2 : b 2 with
      | true => exact Or.inl ⟨2, by decide, q2, by rw [if_pos rfl]; rfl⟩
      | false =>
        rw [if_neg (show ¬ false = true by decide)]
        cases q3 : b 3 with
        | true => exact Or.inl ⟨3, by decide, q3, by rw [if_pos rfl]; rfl⟩
        | false =>
          rw [if_neg (show ¬ false = true by decide)]
          cases q4 : b 4 with
          | true => exact Or.inl ⟨4, by decide, q4, by rw [if_pos rfl]; rfl⟩
          | false =>
            rw [if_neg (show ¬ false = true by decide)]
            cases q5 : b 5 with
            | true => exact Or.inl ⟨5, by decide, q5, by rw [if_pos rfl]; rfl⟩
            | false =>
              rw [if_neg (show ¬ false = true by decide)]
              refine Or.inr ⟨fun i hi => ?_, rfl⟩
              match i, hi with
              | 0, _ => exact q0
              | 1, _ => exact q1
              | 2, _ => exact q2
              | 3, _ => exact q3
              | 4, _ => exact q4
              | 5, _ => exact q5
theorem c_kind {h : HI} {b : Nat → Bool} (w1 : ∀ i, i < 15 → FX7_isWord i h = some (bI (b i))) : FX2_kindNamed h = some (knm b) := by
  unfold FX2_kindNamed knm
  rw [w1 0 (by decide), w1 1 (by decide), w1 2 (by decide), w1 3 (by decide), w1 4 (by decide), w1 5 (by decide)]
  simp only [Option.bind_some, bI_if]
  generalize b 0 = x0
  generalize b 1 = x1
  generalize b 2 = x2
  generalize b 3 = x3
  generalize b 4 = x4
  generalize b 5 = x5
  cases x0 <;> cases x1 <;> cases x2 <;> cases x3 <;> cases x4 <;> cases x5 <;> rfl
theorem r_kind {k : HI} {b : Nat → Bool} {v : Int64} (v1 : FX10_word k = some v) (v2 : ∀ i, i < 15 → (lg_cmp v (lN (wK.getD i 0)) = 0 ↔ b i = true)) : FX10_kindHere k = some (knm b) := by
  unfold FX10_kindHere knm
  rw [v1, Option.bind_some]
  have e0 : lg_cmp v 545850981 = 0 ↔ b 0 = true := v2 0 (by decide)
  by_cases q0 : b 0 = true
  · rw [if_pos q0, if_pos (e0.mpr q0)]
  rw [if_neg q0, if_neg (fun z => q0 (e0.mp z))]
  have e1 : lg_cmp v 21243335 = 0 ↔ b 1 = true := v2 1 (by decide)
  by_cases q1 : b 1 = true
  · rw [if_pos q1, if_pos (e1.mpr q1)]
  rw [if_neg q1, if_neg (fun z => q1 (e1.mp z))]
  have e2 : lg_cmp v 605701 = 0 ↔ b 2 = true := v2 2 (by decide)
  by_cases q2 : b 2 = true
  · rw [if_pos q2, if_pos (e2.mpr q2)]
  rw [if_neg q2, if_neg (fun z => q2 (e2.mp z))]
  have e3 : lg_cmp v 492210354 = 0 ↔ b 3 = true := v2 3 (by decide)
  by_cases q3 : b 3 = true
  · rw [if_pos q3, if_pos (e3.mpr q3)]
  rw [if_neg q3, if_neg (fun z => q3 (e3.mp z))]
  have e4 : lg_cmp v 14141236679 = 0 ↔ b 4 = true := v2 4 (by decide)
  by_cases q4 : b 4 = true
  · rw [if_pos q4, if_pos (e4.mpr q4)]
  rw [if_neg q4, if_neg (fun z => q4 (e4.mp z))]
  have e5 : lg_cmp v 723752404 = 0 ↔ b 5 = true := v2 5 (by decide)
  by_cases q5 : b 5 = true
  · rw [if_pos q5, if_pos (e5.mpr q5)]
  rw [if_neg q5, if_neg (fun z => q5 (e5.mp z))]
theorem Out_B {s0 : Nat} {r : Int32} {h k : HI} (o : Out h0 k0 B T s0 r h k) : isB r = true := by
  rcases o with ⟨rfl, -⟩ | ⟨rfl, -⟩ <;> rfl
theorem J_item (cx : PC h0 k0 B T) {F : Nat → Int32} {s e : Nat} {h k : HI} (bk : BkI F) (g : Gd h0 k0 B T F F s e h k) : ∃ r h' k', FX2_readItem 2 h = some (r, h') ∧ FX10_item k = some k' ∧ Out h0 k0 B T s r h' k' := by
  obtain ⟨w1, v, v1, v2⟩ := J_word cx g
  have sT : ∀ i, isW B T s e i = true → s < T := fun i q => by
    unfold isW at q
    rw [Bool.and_eq_true] at q
    exact Lt_T q.1
  unfold FX2_readItem FX10_item
  rw [c_kind w1, r_kind v1 v2, Option.bind_some, Option.bind_some]
  rcases knm_v (isW B T s e) with ⟨i, i1, i2, i3⟩ | ⟨i1, i2⟩
  · rw [i3, if_neg (nI_nn (by omega)), if_neg (nI_nn (by omega))]
    obtain ⟨r, h', k', p1, p2, p3⟩ := J_phrase cx (a := nI i) bk ⟨i, by omega, by omega, rfl⟩ (sT i i2) g
    rw [p1, Option.bind_some, p2, Option.bind_some]
    dsimp only
    rw [Out_B p3, gd_1]
    exact ⟨r, h', k', rfl, rfl, p3⟩
  · rw [i2, if_pos m1lt, if_pos m1lt, w1 8 (by decide), Option.bind_some, bI_if, v1, Option.bind_some]
    have e8 : lg_cmp v 755156 = 0 ↔ isW B T s e 8 = true := v2 8 (by decide)
    cases q8 : isW B T s e 8 with
    | true =>
      rw [if_pos rfl, if_pos (e8.mpr q8)]
      obtain ⟨r, h', k', p1, p2, p3⟩ := J_want cx bk (sT 8 q8) g
      rw [p1, Option.bind_some, p2, Option.bind_some]
      dsimp only
      rw [Out_B p3, gd_1]
      exact ⟨r, h', k', rfl, rfl, p3⟩
    | false =>
      rw [if_neg (show ¬ false = true by decide), if_neg (fun z => by rw [e8, q8] at z; exact absurd z (by decide)), w1 13 (by decide), Option.bind_some, bI_if, Option.bind_some]
      have e13 : lg_cmp v 402885 = 0 ↔ isW B T s e 13 = true := v2 13 (by decide)
      cases q13 : isW B T s e 13 with
      | true =>
        rw [if_pos rfl, if_pos (e13.mpr q13)]
        obtain ⟨r, h', k', p1, p2, p3⟩ := J_line cx bk (sT 13 q13) g
        rw [p1, Option.bind_some]
        dsimp only
        rw [Out_B p3, gd_1]
        exact ⟨r, h', k', rfl, p2, p3⟩
      | false =>
        rw [if_neg (show ¬ false = true by decide), if_neg (fun z => by rw [e13, q13] at z; exact absurd z (by decide)), w1 14 (by decide), Option.bind_some, bI_if]
        unfold FX10_orderItem
        rw [v1, Option.bind_some]
        have e14 : lg_cmp v 16322738 = 0 ↔ isW B T s e 14 = true := v2 14 (by decide)
        cases q14 : isW B T s e 14 with
        | true =>
          rw [if_pos rfl, if_pos (e14.mpr q14)]
          obtain ⟨r, h', k', p1, p2, p3⟩ := J_order cx bk (sT 14 q14) g
          rw [p1, Option.bind_some, p2, Option.bind_some]
          dsimp only
          refine ⟨r, h', k', ?_, rfl, p3⟩
          rcases p3 with ⟨rfl, -⟩ | ⟨rfl, -⟩
          · rw [if_neg (by decide)]
          · rw [if_pos rfl]
        | false =>
          rw [if_neg (show ¬ false = true by decide), if_neg (fun z => by rw [e14, q14] at z; exact absurd z (by decide))]
          obtain ⟨k1, n1, n2⟩ := r_needs0 cx g.1 g.2.2
          obtain ⟨k2, o1, o2⟩ := b_orderOne cx (n2.p33 (j := 5) (x := 0)) hP1_s
          obtain ⟨m, em, -⟩ := FU_succ
          unfold JX10_orderItem_17
          rw [n1, Option.bind_some, nm_eq, o1, Option.bind_some, em, b_ordLoop o2, Option.bind_some, Option.bind_some]
          exact ⟨0, h, k2, rfl, rfl, Or.inr ⟨rfl, s, g.2.1.f, o2⟩⟩
theorem b_item (cx : PC h0 k0 B T) {s : Nat} {k : HI} (g : BR k0 s k) : ∃ k', FX10_item k = some k' ∧ BR k0 s k' := by
  obtain ⟨k', o1, o2⟩ := b_orderItem cx 0 g
  refine ⟨k', ?_, o2⟩
  unfold FX10_item FX10_kindHere FX10_orderItem
  rw [b_word g, Option.bind_some, if_neg (show ¬ lg_cmp 0 545850981 = 0 from z_cmp (n := 545850981) (by decide) (by decide)), if_neg (show ¬ lg_cmp 0 21243335 = 0 from z_cmp (n := 21243335) (by decide) (by decide)), if_neg (show ¬ lg_cmp 0 605701 = 0 from z_cmp (n := 605701) (by decide) (by decide)), if_neg (show ¬ lg_cmp 0 492210354 = 0 from z_cmp (n := 492210354) (by decide) (by decide)), if_neg (show ¬ lg_cmp 0 14141236679 = 0 from z_cmp (n := 14141236679) (by decide) (by decide)), if_neg (show ¬ lg_cmp 0 723752404 = 0 from z_cmp (n := 723752404) (by decide) (by decide)), Option.bind_some, if_pos m1lt, Option.bind_some, if_neg (show ¬ lg_cmp 0 755156 = 0 from z_cmp (n := 755156) (by decide) (by decide)), Option.bind_some, if_neg (show ¬ lg_cmp 0 402885 = 0 from z_cmp (n := 402885) (by decide) (by decide)), Option.bind_some, if_neg (show ¬ lg_cmp 0 16322738 = 0 from z_cmp (n := 16322738) (by decide) (by decide)), o1, Option.bind_some]
def BOut (h0 k0 : HI) (B : Nat → Int32) (T : Nat) (x y : Int32) (h k : HI) : Prop := (∃ m F s e, x = nI m ∧ y = nI m ∧ m ≤ 120 ∧ BkI F ∧ Gd h0 k0 B T F F s e h k) ∨ (∃ s, x = -1 - nI s ∧ s ≤ 120 ∧ GCf h0 T s h ∧ BR k0 s k)
theorem GCf.at {s : Nat} {h : HI} (g : GCf h0 T s h) : h 5 26 3 = nI s := by
  obtain ⟨u, w, rfl, g1, g2⟩ := g
  rw [hPF_s]
  exact g2
theorem BR.le {s : Nat} {k : HI} (g : BR k0 s k) : s ≤ 120 := by
  obtain ⟨r, w, rfl, g1, g2, g3, g4, g5⟩ := g
  exact g3
theorem knd59 {s : Nat} (hs : s < T) (h : B s = 59) : knd B T s = 3 := by
  unfold knd Lt Dg
  rw [h, if_pos hs, if_neg (by rw [show wi 59 97 122 = false by decide, Bool.and_false]; decide), if_neg (by rw [show wi 59 48 57 = false by decide, Bool.and_false]; decide), if_pos rfl]
theorem kndN {s : Nat} (hs : s < T) (h : ¬ B s = 59) : ¬ knd B T s = 3 ∧ ¬ knd B T s = 0 := by
  unfold knd
  rw [if_pos hs]
  split
  · decide
  · split
    · decide
    · decide
theorem J_bookL (cx : PC h0 k0 B T) : ∀ (j kc kr c s e : Nat) (F : Nat → Int32) (h k : HI), T - s ≤ j → j < kc → j + 1 < kr → 1 ≤ c → 2 * (c - 1) ≤ s → BkI F → Gd h0 k0 B T F F s e h k → ∃ x h' y k', loopN (SX2_readBook_9 2) kc (nI c, h) = some (x, h') ∧ (Option.bind (FX10_item k) fun k1 => loopN SX10_book_24 kr (nI c, k1)) = some (y, k') ∧ BOut h0 k0 B T x y h' k' := by
  intro j
  induction j with
  | zero =>
    intro kc kr c s e F h k hj hc hr c1 c2 bk g
    have tT := cx.2.2.1
    have le := En_le g.1
    obtain ⟨mc, rfl⟩ : ∃ mc, kc = mc + 1 := ⟨kc - 1, by omega⟩
    obtain ⟨mr, rfl⟩ : ∃ mr, kr = mr + 2 := ⟨kr - 2, by omega⟩
    obtain ⟨r, h1, k1, p1, p2, p3⟩ := J_item cx bk g
    rw [p2, Option.bind_some]
    rcases p3 with ⟨rfl, F', s', e', sl, bk', g'⟩ | ⟨rfl, s', gf, br⟩
    · have := En_le g'.1
      omega
    · refine ⟨-1 - nI s', h1, nI c, k1, ?_, ?_, Or.inr ⟨s', rfl, br.le, gf, br⟩⟩
      · have step : SX2_readBook_9 2 (nI c, h) = some (Sum.inr (-1 - nI s', h1)) := by
          unfold SX2_readBook_9
          dsimp only
          rw [if_neg (show ¬ 120 < nI c from lt_f (a := 120) (by omega) (by decide) (by omega)), p1, Option.bind_some]
          dsimp only
          rw [if_pos rfl, gf.at]
        rw [loopN, step]
      · have step : SX10_book_24 (nI c, k1) = some (Sum.inr (nI c, k1)) := by
          unfold SX10_book_24
          dsimp only
          rw [br.fl.1, if_neg (by decide)]
        rw [loopN, step]
  | succ j ih =>
    intro kc kr c s e F h k hj hc hr c1 c2 bk g
    have tT := cx.2.2.1
    have le := En_le g.1
    obtain ⟨mc, rfl⟩ : ∃ mc, kc = mc + 1 := ⟨kc - 1, by omega⟩
    obtain ⟨mr, rfl⟩ : ∃ mr, kr = mr + 2 := ⟨kr - 2, by omega⟩
    obtain ⟨r, h1, k1, p1, p2, p3⟩ := J_item cx bk g
    rw [p2, Option.bind_some]
    rcases p3 with ⟨rfl, F', s', e', sl, bk', g'⟩ | ⟨rfl, s', gf, br⟩
    · have le' := En_le g'.1
      have cs : SX2_readBook_9 2 (nI c, h) = if knd B T s' = 0 then some (Sum.inr (nI c, h1)) else if knd B T s' = 3 then Option.bind (FX7_advance h1) fun h4 => some (Sum.inl (nI (c + 1), h4)) else some (Sum.inr (-1 - nI s', h1)) := by
        unfold SX2_readBook_9
        dsimp only
        rw [if_neg (show ¬ 120 < nI c from lt_f (a := 120) (by omega) (by decide) (by omega)), p1, Option.bind_some]
        dsimp only
        rw [if_neg (by decide)]
        have k2 := g'.2.1.kd.1
        by_cases z0 : knd B T s' = 0
        · rw [if_pos z0, if_pos (show h1 5 26 2 = 0 from k2.trans z0)]
        · rw [if_neg z0, if_neg (show ¬ h1 5 26 2 = 0 from fun z => z0 (k2.symm.trans z))]
          by_cases z3 : knd B T s' = 3
          · rw [if_pos z3, if_pos (show h1 5 26 2 = 3 from k2.trans z3), nI_1]
          · rw [if_neg z3, if_neg (show ¬ h1 5 26 2 = 3 from fun z => z3 (k2.symm.trans z)), g'.2.1.kd.2]
      have by1 : FX10_byteAt (k1 8 32 13) k1 = some (tpA B T s') ∧ k1 8 32 12 = nI T := by
        have q := g'.2.2.fl.2.1
        obtain ⟨r, w, rfl, g1, g2, g3, g4, g5⟩ := g'.2.2
        rw [q]
        exact ⟨r_byte (cx.r r) tT (g5.len cx) (by omega), by rw [hPF_s]; exact g5.len cx⟩
      by_cases z : s' < T
      · have zT : ¬ k1 8 32 12 ≤ k1 8 32 13 := by
          rw [by1.2, g'.2.2.fl.2.1]
          exact le_f (by omega) (by omega) (by omega)
        by_cases y : B s' = 59
        · obtain ⟨s2, e2, h2, k2, a1, a2, a3, a4⟩ := J_adv cx (a := 1) (by decide) g'
          have sl2 := En_lt g'.1 z
          obtain ⟨x, h', yy, k', z1, z2, z3⟩ := ih mc (mr + 1) (c + 1) s2 e2 F' h2 k2 (by omega) (by omega) (by omega) (by omega) (by omega) bk' a4
          refine ⟨x, h', yy, k', ?_, ?_, z3⟩
          · rw [loopN, cs, knd59 z y, if_neg (by decide), if_pos rfl, a1, Option.bind_some]
            exact z1
          · have step : SX10_book_24 (nI c, k1) = Option.bind (FX10_item k2) fun h10 => some (Sum.inl (nI (c + 1), h10)) := by
              unfold SX10_book_24
              dsimp only
              rw [g'.2.2.fl.1, if_pos rfl, if_neg zT, by1.1, Option.bind_some]
              unfold tpA
              rw [if_pos z, if_pos y, a2, Option.bind_some, nI_1]
            show loopN SX10_book_24 (mr + 1 + 1) (nI c, k1) = some (yy, k')
            rw [loopN, step]
            cases it : FX10_item k2 with
            | none =>
              rw [it] at z2
              exact absurd z2 (by simp)
            | some k3 =>
              rw [it, Option.bind_some] at z2
              rw [Option.bind_some]
              exact z2
        · obtain ⟨kn3, kn0⟩ := kndN z y
          obtain ⟨k2, n1, n2⟩ := r_needs0 cx g'.1 g'.2.2
          obtain ⟨k3, i1, i2⟩ := b_item cx n2
          refine ⟨-1 - nI s', h1, nI (c + 1), k3, ?_, ?_, Or.inr ⟨s', rfl, by omega, g'.2.1.f, i2⟩⟩
          · rw [loopN, cs, if_neg kn0, if_neg kn3]
          · have step : SX10_book_24 (nI c, k1) = some (Sum.inl (nI (c + 1), k3)) := by
              unfold SX10_book_24
              dsimp only
              rw [g'.2.2.fl.1, if_pos rfl, if_neg zT, by1.1, Option.bind_some]
              unfold tpA
              rw [if_pos z, if_neg y, n1, Option.bind_some, i1, Option.bind_some, nI_1]
            have step2 : SX10_book_24 (nI (c + 1), k3) = some (Sum.inr (nI (c + 1), k3)) := by
              unfold SX10_book_24
              dsimp only
              rw [i2.fl.1, if_neg (by decide)]
            show loopN SX10_book_24 (mr + 1 + 1) (nI c, k1) = _
            rw [loopN, step]
            dsimp only
            rw [loopN, step2]
      · refine ⟨nI c, h1, nI c, k1, ?_, ?_, Or.inl ⟨c, F', s', e', rfl, rfl, by omega, bk', g'⟩⟩
        · rw [loopN, cs, if_pos (by unfold knd; rw [if_neg z])]
        · have step : SX10_book_24 (nI c, k1) = some (Sum.inr (nI c, k1)) := by
            unfold SX10_book_24
            dsimp only
            rw [g'.2.2.fl.1, if_pos rfl, if_pos (by rw [by1.2, g'.2.2.fl.2.1]; exact le_t (by omega) (by omega) (by omega))]
          rw [loopN, step]
    · refine ⟨-1 - nI s', h1, nI c, k1, ?_, ?_, Or.inr ⟨s', rfl, br.le, gf, br⟩⟩
      · have step : SX2_readBook_9 2 (nI c, h) = some (Sum.inr (-1 - nI s', h1)) := by
          unfold SX2_readBook_9
          dsimp only
          rw [if_neg (show ¬ 120 < nI c from lt_f (a := 120) (by omega) (by decide) (by omega)), p1, Option.bind_some]
          dsimp only
          rw [if_pos rfl, gf.at]
        rw [loopN, step]
      · have step : SX10_book_24 (nI c, k1) = some (Sum.inr (nI c, k1)) := by
          unfold SX10_book_24
          dsimp only
          rw [br.fl.1, if_neg (by decide)]
        rw [loopN, step]
end Book
