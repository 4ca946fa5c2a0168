-- the operations of the order
/-- both sides by one relation: the class finds an answer, the reference gives it -/
theorem Ops_rel {c r : HI → Option (Int32 × HI)} (D : (Nat → Nat → Int32) → Int32 → (Nat → Nat → Int32) → Prop) (hc : ∀ h, AI (CV h) → ∃ x A' h', c h = some (x, h') ∧ CTo h A' h' ∧ D (CV h) x A') (hr : ∀ h x A', AI (RV h) → D (RV h) x A' → ∃ h', r h = some (x, h') ∧ RTo h A' h') (hI : ∀ A x A', AI A → D A x A' → AI A') : Ops c r := by
  intro h ⟨e, i⟩
  obtain ⟨x, A', h1, c1, c2, c3⟩ := hc h i
  have e1 : RV h1 = CV h := (RV_other c2.1).trans e.symm
  obtain ⟨h2, r1, r2⟩ := hr h1 x A' (by rw [e1]; exact i) (by rw [e1]; exact c3)
  refine ⟨x, h1, h2, c1, r1, ?_, ?_⟩
  · rw [CV_other r2.1, c2.2, r2.2]
  · rw [CV_other r2.1, c2.2]
    exact hI _ _ _ i c3
theorem AI_book {A : Nat → Nat → Int32} {F : Nat → Int32} (i : AI A) (b : BkI F) : AI (cU A 0 F) := by
  obtain ⟨i1, i2, i3, i4⟩ := i
  refine ⟨by rw [cU_s]; exact b, ?_, ?_, ?_⟩
  · rw [cU_n (by decide), cU_n (by decide)]
    exact i2
  · rw [cU_n (by decide), cU_n (by decide)]
    exact i3
  · rw [cU_n (by decide), cU_n (by decide)]
    exact i4
theorem AI_tell {A : Nat → Nat → Int32} {j : Nat} (i : AI A) : AI (tellS A j) := by
  obtain ⟨i1, i2, i3, i4⟩ := i
  unfold tellS
  refine ⟨by rw [cU_n (by decide)]; exact i1, ?_, ?_, ?_⟩
  · rw [cU_n (by decide), cU_n (by decide)]
    exact i2
  · rw [cU_n (by decide), cU_n (by decide)]
    exact i3
  · rw [cU_n (by decide), cU_n (by decide)]
    exact i4
def skipD (a : Int32) (A : Nat → Nat → Int32) (x : Int32) (A' : Nat → Nat → Int32) : Prop := ∃ n nw l d c : Nat, BP (A 0) n nw ∧ OI (A 0) n l ∧ A 0 3 = nI d ∧ d ≤ 99 ∧ A 0 4 = nI c ∧ c ≤ 1188 * d ∧ ((isP (A 0 0) a = false ∧ x = -1000000001 ∧ A' = tellS A 0) ∨ (isP (A 0 0) a = true ∧ ((∃ i, i < l ∧ od (A 0) i = a ∧ x = nI i ∧ A' = cU A 0 (dropS (A 0) i l)) ∨ ((∀ i, i < l → ¬ od (A 0) i = a) ∧ x = -1000000004 ∧ A' = tellS A 3))))
theorem c_skip {h : HI} (a : Int32) (i : AI (CV h)) : ∃ x A' h', FX9_skip a h = some (x, h') ∧ CTo h A' h' ∧ skipD a (CV h) x A' := by
  obtain ⟨n, nw, l, d, c, b1, b2, b3, b4, b5, b6⟩ := i.1
  have hn := b1.2.1
  have hl := b2.2.1
  unfold FX9_skip
  rw [c_isP, Option.bind_some, bI_if]
  cases z : isP (CV h 0 0) a with
  | false =>
    obtain ⟨h', t1, t2⟩ := c_tell (h := h) (x := -1000000001) 0 (by decide) (by decide)
    rw [if_neg (by decide), t1]
    exact ⟨_, _, h', rfl, t2, n, nw, l, d, c, b1, b2, b3, b4, b5, b6, Or.inl ⟨z, rfl, rfl⟩⟩
  | true =>
    rw [if_pos rfl]
    have e : vw (h 0) = CV h 0 := rfl
    obtain ⟨r, p1, p2⟩ := c_place a e b2.1 (by omega)
    rcases p2 with ⟨j, j1, j2, j3⟩ | ⟨j1, j2⟩
    · obtain ⟨h', q1, q2⟩ := c_drop e b2.1 (by omega) p1 j j1 j3
      rw [q1, Option.bind_some]
      dsimp only
      unfold FX9_orNone
      rw [j3, if_pos (Int32.not_lt.mp (nI_nn (by omega)))]
      exact ⟨_, _, h', rfl, CTo.book q2, n, nw, l, d, c, b1, b2, b3, b4, b5, b6, Or.inr ⟨z, Or.inl ⟨j, j1, j2, rfl, rfl⟩⟩⟩
    · obtain ⟨h', t1, t2⟩ := c_tell (h := h) (x := -1000000004) 3 (by decide) (by decide)
      unfold FX3_drop FX9_orNone
      rw [p1, Option.bind_some, j2, if_pos m1_neg, Option.bind_some]
      dsimp only
      rw [if_neg (by decide), t1]
      exact ⟨_, _, h', rfl, t2, n, nw, l, d, c, b1, b2, b3, b4, b5, b6, Or.inr ⟨z, Or.inr ⟨j1, rfl, rfl⟩⟩⟩
theorem r_skip {h : HI} {a x : Int32} {A' : Nat → Nat → Int32} (D : skipD a (RV h) x A') : ∃ h', FX10_skip a h = some (x, h') ∧ RTo h A' h' := by
  obtain ⟨n, nw, l, d, c, b1, b2, b3, b4, b5, b6, D⟩ := D
  have hn := b1.2.1
  have hl := b2.2.1
  unfold FX10_skip
  rw [r_isP a b1.1 hn, Option.bind_some, bI_if]
  rcases D with ⟨z, rfl, rfl⟩ | ⟨z, D⟩
  · obtain ⟨h', t1, t2⟩ := r_tell (h := h) (x := -1000000001) 0 (by decide) (by decide)
    rw [z, if_neg (by decide), t1]
    exact ⟨h', rfl, t2⟩
  · rw [z, if_pos rfl]
    have e : tk (h 8 33) = RV h 0 := rfl
    obtain ⟨r, p1, p2⟩ := r_place a e b2.1 (by omega)
    rw [p1, Option.bind_some]
    rcases D with ⟨j, j1, j2, rfl, rfl⟩ | ⟨j1, rfl, rfl⟩
    · have er : r = nI j := Pl_eq b2 p2 (Or.inl ⟨j, j1, j2, rfl⟩)
      obtain ⟨h', q1, q2⟩ := r_leaves e b2.1 (by omega) j j1
      rw [er, if_pos (Int32.not_lt.mp (nI_nn (by omega))), q1]
      exact ⟨h', rfl, RTo.book (RkA.of q2)⟩
    · have er : r = -1 := Pl_eq b2 p2 (Or.inr ⟨j1, rfl⟩)
      obtain ⟨h', t1, t2⟩ := r_tell (h := h) (x := -1000000004) 3 (by decide) (by decide)
      rw [er, if_neg (by decide), t1]
      exact ⟨h', rfl, t2⟩
theorem skip_ok (a : Int32) : Ops (FX9_skip a) (FX10_skip a) := by
  refine Ops_rel (skipD a) (fun h i => c_skip a i) (fun h x A' i D => r_skip D) (fun A x A' i D => ?_)
  obtain ⟨n, nw, l, d, c, b1, b2, b3, b4, b5, b6, D⟩ := D
  rcases D with ⟨z, rfl, rfl⟩ | ⟨z, D⟩
  · exact AI_tell i
  · rcases D with ⟨j, j1, j2, rfl, rfl⟩ | ⟨j1, rfl, rfl⟩
    · refine AI_book i ⟨n, nw, l - 1, d, c, b1.of dropS_low, (dropS_OI b2 j1).1, ?_, b4, ?_, b6⟩
      · rw [dropS_low 3 (by decide) (by decide)]; exact b3
      · rw [dropS_low 4 (by decide) (by decide)]; exact b5
    · exact AI_tell i
def queueD (a : Int32) (A : Nat → Nat → Int32) (x : Int32) (A' : Nat → Nat → Int32) : Prop := ∃ n nw l d c : Nat, BP (A 0) n nw ∧ OI (A 0) n l ∧ A 0 3 = nI d ∧ d ≤ 99 ∧ A 0 4 = nI c ∧ c ≤ 1188 * d ∧ ((isP (A 0 0) a = false ∧ x = -1000000001 ∧ A' = tellS A 0) ∨ (isP (A 0 0) a = true ∧ ((∃ i, i < l ∧ od (A 0) i = a ∧ x = nI l ∧ A' = cU A 0 (addS (dropS (A 0) i l) (l - 1) a)) ∨ ((∀ i, i < l → ¬ od (A 0) i = a) ∧ x = nI (l + 1) ∧ A' = cU A 0 (addS (A 0) l a)))))
theorem c_queue {h : HI} (a : Int32) (i : AI (CV h)) : ∃ x A' h', FX9_queue a h = some (x, h') ∧ CTo h A' h' ∧ queueD a (CV h) x A' := by
  obtain ⟨n, nw, l, d, c, b1, b2, b3, b4, b5, b6⟩ := i.1
  have hn := b1.2.1
  have hl := b2.2.1
  unfold FX9_queue
  rw [c_isP, Option.bind_some, bI_if]
  cases z : isP (CV h 0 0) a with
  | false =>
    obtain ⟨h', t1, t2⟩ := c_tell (h := h) (x := -1000000001) 0 (by decide) (by decide)
    rw [if_neg (by decide), t1]
    exact ⟨_, _, h', rfl, t2, n, nw, l, d, c, b1, b2, b3, b4, b5, b6, Or.inl ⟨z, rfl, rfl⟩⟩
  | true =>
    rw [if_pos rfl]
    have e : vw (h 0) = CV h 0 := rfl
    have z2 := z
    rw [b1.1] at z2
    obtain ⟨p, hp, ep⟩ := isP_nat (by omega) z2
    obtain ⟨r, p1, p2⟩ := c_place a e b2.1 (by omega)
    rcases p2 with ⟨j, j1, j2, j3⟩ | ⟨j1, j2⟩
    · obtain ⟨h', q1, q2⟩ := c_drop e b2.1 (by omega) p1 j j1 j3
      have dO := dropS_OI b2 j1
      obtain ⟨h2, u1, u2⟩ := c_append (x := a) q2.at dO.1.1 (by omega) (fun k hk => by rw [← j2]; exact dO.2 k hk)
      have f5 := (bk0 u2.at).2.2.2.2.2
      rw [show addS (dropS (CV h 0) j l) (l - 1) a 5 = nI (l - 1 + 1) from up_s, show l - 1 + 1 = l by omega] at f5
      rw [q1, Option.bind_some]
      dsimp only
      rw [u1, Option.bind_some, f5]
      exact ⟨_, _, h2, rfl, CTo.book (q2.tr u2), n, nw, l, d, c, b1, b2, b3, b4, b5, b6, Or.inr ⟨z, Or.inl ⟨j, j1, j2, rfl, rfl⟩⟩⟩
    · have room : l < n := OI_room b2 hn hp (fun k hk => by rw [← ep]; exact j1 k hk)
      obtain ⟨h2, u1, u2⟩ := c_append (x := a) e b2.1 (by omega) j1
      have f5 := (bk0 u2.at).2.2.2.2.2
      rw [show addS (CV h 0) l a 5 = nI (l + 1) from up_s] at f5
      unfold FX3_drop
      rw [p1, Option.bind_some, j2, if_pos m1_neg, Option.bind_some]
      dsimp only
      rw [u1, Option.bind_some, f5]
      exact ⟨_, _, h2, rfl, CTo.book u2, n, nw, l, d, c, b1, b2, b3, b4, b5, b6, Or.inr ⟨z, Or.inr ⟨j1, rfl, rfl⟩⟩⟩
theorem r_queue {h : HI} {a x : Int32} {A' : Nat → Nat → Int32} (D : queueD a (RV h) x A') : ∃ h', FX10_queue a h = some (x, h') ∧ RTo h A' h' := by
  obtain ⟨n, nw, l, d, c, b1, b2, b3, b4, b5, b6, D⟩ := D
  have hn := b1.2.1
  have hl := b2.2.1
  unfold FX10_queue
  rw [r_isP a b1.1 hn, Option.bind_some, bI_if]
  rcases D with ⟨z, rfl, rfl⟩ | ⟨z, D⟩
  · obtain ⟨h', t1, t2⟩ := r_tell (h := h) (x := -1000000001) 0 (by decide) (by decide)
    rw [z, if_neg (by decide), t1]
    exact ⟨h', rfl, t2⟩
  · rw [z, if_pos rfl]
    have e : tk (h 8 33) = RV h 0 := rfl
    have z2 := z
    rw [b1.1] at z2
    obtain ⟨p, hp, ep⟩ := isP_nat (by omega) z2
    obtain ⟨r, p1, p2⟩ := r_place a e b2.1 (by omega)
    rw [p1, Option.bind_some]
    rcases D with ⟨j, j1, j2, rfl, rfl⟩ | ⟨j1, rfl, rfl⟩
    · have er : r = nI j := Pl_eq b2 p2 (Or.inl ⟨j, j1, j2, rfl⟩)
      obtain ⟨h', q1, q2⟩ := r_leaves e b2.1 (by omega) j j1
      have dO := dropS_OI b2 j1
      obtain ⟨h2, u1, u2⟩ := r_append (x := a) q2.at dO.1.1 (by omega)
      rw [show l - 1 + 1 = l by omega] at u1
      rw [er, if_neg (nI_nn (by omega)), q1, Option.bind_some, u1]
      exact ⟨h2, rfl, RTo.book (RkA.of (q2.tr u2))⟩
    · have er : r = -1 := Pl_eq b2 p2 (Or.inr ⟨j1, rfl⟩)
      have room : l < n := OI_room b2 hn hp (fun k hk => by rw [← ep]; exact j1 k hk)
      obtain ⟨h2, u1, u2⟩ := r_append (x := a) e b2.1 (by omega)
      rw [er, if_pos m1_neg, u1]
      exact ⟨h2, rfl, RTo.book (RkA.of u2)⟩
theorem queue_ok (a : Int32) : Ops (FX9_queue a) (FX10_queue a) := by
  refine Ops_rel (queueD a) (fun h i => c_queue a i) (fun h x A' i D => r_queue D) (fun A x A' i D => ?_)
  obtain ⟨n, nw, l, d, c, b1, b2, b3, b4, b5, b6, D⟩ := D
  have hn := b1.2.1
  have hl := b2.2.1
  rcases D with ⟨z, rfl, rfl⟩ | ⟨z, D⟩
  · exact AI_tell i
  · have z2 := z
    rw [b1.1] at z2
    obtain ⟨p, hp, ep⟩ := isP_nat (by omega) z2
    rcases D with ⟨j, j1, j2, rfl, rfl⟩ | ⟨j1, rfl, rfl⟩
    · have dO := dropS_OI b2 j1
      refine AI_book i ⟨n, nw, l - 1 + 1, d, c, (b1.of dropS_low).of addS_low, ?_, ?_, b4, ?_, b6⟩
      · rw [ep]
        exact addS_OI dO.1 (by omega) hp (fun k hk => by rw [← ep, ← j2]; exact dO.2 k hk)
      · rw [addS_low 3 (by decide) (by decide), dropS_low 3 (by decide) (by decide)]; exact b3
      · rw [addS_low 4 (by decide) (by decide), dropS_low 4 (by decide) (by decide)]; exact b5
    · have room : l < n := OI_room b2 hn hp (fun k hk => by rw [← ep]; exact j1 k hk)
      refine AI_book i ⟨n, nw, l + 1, d, c, b1.of addS_low, ?_, ?_, b4, ?_, b6⟩
      · rw [ep]
        exact addS_OI b2 room hp (fun k hk => by rw [← ep]; exact j1 k hk)
      · rw [addS_low 3 (by decide) (by decide)]; exact b3
      · rw [addS_low 4 (by decide) (by decide)]; exact b5
