-- operations by guards, both sides at once
def Two (h : HI) (c : Option (Int32 × HI)) (r : HI → Option (Int32 × HI)) : Prop := ∃ (x : Int32) (h1 : HI) (A' : Nat → Nat → Int32), c = some (x, h1) ∧ CTo h A' h1 ∧ AI A' ∧ ∀ h' : HI, RV h' = CV h → ∃ h2 : HI, r h' = some (x, h2) ∧ RTo h' A' h2
theorem Ops_two {c r : HI → Option (Int32 × HI)} (t : ∀ h, AI (CV h) → Two h (c h) (fun h' => r h')) : Ops c r := by
  intro h ⟨e, i⟩
  obtain ⟨x, h1, A', c1, c2, c3, c4⟩ := t h i
  obtain ⟨h2, r1, r2⟩ := c4 h1 ((RV_other c2.1).trans e.symm)
  refine ⟨x, h1, h2, c1, r1, ?_, ?_⟩
  · rw [CV_other r2.1, c2.2, r2.2]
  · rw [CV_other r2.1, c2.2]
    exact c3
theorem tell_eta (o : Option (Int32 × HI)) : (Option.bind o fun y => some (y.1, y.2)) = o := by cases o <;> rfl
theorem Two.tell {h : HI} (i : AI (CV h)) (x : Int32) (j : Nat) (hj : j < 7) (e : (-1000000001) - x = nI j) : Two h (Option.bind (FX9_tell x h) fun y => some (y.1, y.2)) (fun h' => Option.bind (FX10_finds x h') fun y => some (y.1, y.2)) := by
  obtain ⟨h1, t1, t2⟩ := c_tell (h := h) (x := x) j hj e
  refine ⟨x, h1, _, by rw [tell_eta]; exact t1, t2, AI_tell i, fun h' e' => ?_⟩
  obtain ⟨h2, t3, t4⟩ := r_tell (h := h') (x := x) j hj e
  rw [e'] at t4
  exact ⟨h2, by (try dsimp only); rw [tell_eta]; exact t3, t4⟩
theorem Two.bad {h : HI} (i : AI (CV h)) : Two h (Option.bind (FX9_tell (-1000000001) h) fun y => some (y.1, y.2)) (fun h' => Option.bind (FX10_finds (-1000000001) h') fun y => some (y.1, y.2)) := Two.tell i _ 0 (by decide) (by decide)
theorem Two.full {h : HI} (i : AI (CV h)) : Two h (Option.bind (FX9_tell (-1000000002) h) fun y => some (y.1, y.2)) (fun h' => Option.bind (FX10_finds (-1000000002) h') fun y => some (y.1, y.2)) := Two.tell i _ 1 (by decide) (by decide)
theorem Two.kind {h : HI} (i : AI (CV h)) : Two h (Option.bind (FX9_tell (-1000000003) h) fun y => some (y.1, y.2)) (fun h' => Option.bind (FX10_finds (-1000000003) h') fun y => some (y.1, y.2)) := Two.tell i _ 2 (by decide) (by decide)
theorem Two.late {h : HI} (i : AI (CV h)) : Two h (Option.bind (FX9_tell (-1000000005) h) fun y => some (y.1, y.2)) (fun h' => Option.bind (FX10_finds (-1000000005) h') fun y => some (y.1, y.2)) := Two.tell i _ 4 (by decide) (by decide)
theorem Two.none {h : HI} (i : AI (CV h)) : Two h (Option.bind (FX9_tell (-1000000004) h) fun y => some (y.1, y.2)) (fun h' => Option.bind (FX10_finds (-1000000004) h') fun y => some (y.1, y.2)) := Two.tell i _ 3 (by decide) (by decide)
/-- the same question on both sides -/
theorem Two.ask {h : HI} {b : Bool} {q : Option Int32} {q' : HI → Option Int32} {c0 c1 : Option (Int32 × HI)} {r0 r1 : HI → Option (Int32 × HI)} (hq : q = some (bI b)) (hq' : ∀ h', RV h' = CV h → q' h' = some (bI b)) (k0 : b = false → Two h c0 r0) (k1 : b = true → Two h c1 r1) : Two h (Option.bind q fun x => if x = 0 then c0 else c1) (fun h' => Option.bind (q' h') fun x => if x = 0 then r0 h' else r1 h') := by
  cases b with
  | false =>
    obtain ⟨x, h1, A', t1, t2, t3, t4⟩ := k0 rfl
    refine ⟨x, h1, A', by rw [hq, Option.bind_some, bI_if, if_neg (by decide)]; exact t1, t2, t3, fun h' e => ?_⟩
    obtain ⟨h2, u1, u2⟩ := t4 h' e
    exact ⟨h2, by (try dsimp only); rw [hq' h' e, Option.bind_some, bI_if, if_neg (by decide)]; exact u1, u2⟩
  | true =>
    obtain ⟨x, h1, A', t1, t2, t3, t4⟩ := k1 rfl
    refine ⟨x, h1, A', by rw [hq, Option.bind_some, bI_if, if_pos rfl]; exact t1, t2, t3, fun h' e => ?_⟩
    obtain ⟨h2, u1, u2⟩ := t4 h' e
    exact ⟨h2, by (try dsimp only); rw [hq' h' e, Option.bind_some, bI_if, if_pos rfl]; exact u1, u2⟩
/-- the reference asks the contrary -/
theorem Two.askn {h : HI} {b : Bool} {q : Option Int32} {q' : HI → Option Int32} {c0 c1 : Option (Int32 × HI)} {r0 r1 : HI → Option (Int32 × HI)} (hq : q = some (bI b)) (hq' : ∀ h', RV h' = CV h → q' h' = some (bI (!b))) (k0 : b = false → Two h c0 r0) (k1 : b = true → Two h c1 r1) : Two h (Option.bind q fun x => if x = 0 then c0 else c1) (fun h' => Option.bind (q' h') fun x => if x = 0 then r1 h' else r0 h') := by
  cases b with
  | false =>
    obtain ⟨x, h1, A', t1, t2, t3, t4⟩ := k0 rfl
    refine ⟨x, h1, A', by rw [hq, Option.bind_some, bI_if, if_neg (by decide)]; exact t1, t2, t3, fun h' e => ?_⟩
    obtain ⟨h2, u1, u2⟩ := t4 h' e
    exact ⟨h2, by (try dsimp only); rw [hq' h' e, Option.bind_some, bI_if, if_pos (show (!false) = true from rfl)]; exact u1, u2⟩
  | true =>
    obtain ⟨x, h1, A', t1, t2, t3, t4⟩ := k1 rfl
    refine ⟨x, h1, A', by rw [hq, Option.bind_some, bI_if, if_pos rfl]; exact t1, t2, t3, fun h' e => ?_⟩
    obtain ⟨h2, u1, u2⟩ := t4 h' e
    exact ⟨h2, by (try dsimp only); rw [hq' h' e, Option.bind_some, bI_if, if_neg (by decide)]; exact u1, u2⟩
theorem Two.of {h : HI} {c c' : Option (Int32 × HI)} {r r' : HI → Option (Int32 × HI)} (t : Two h c' r') (hc : c = c') (hr : ∀ h', RV h' = CV h → r h' = r' h') : Two h c r := by
  obtain ⟨x, h1, A', t1, t2, t3, t4⟩ := t
  refine ⟨x, h1, A', by rw [hc]; exact t1, t2, t3, fun h' e => ?_⟩
  rw [hr h' e]
  exact t4 h' e
theorem Two.same {h h1 : HI} {c : Option (Int32 × HI)} {r : HI → Option (Int32 × HI)} {x : Int32} (i : AI (CV h)) (hc : c = some (x, h1)) (o : CTo h (CV h) h1) (hr : ∀ h', RV h' = CV h → ∃ h2, r h' = some (x, h2) ∧ RTo h' (RV h') h2) : Two h c r :=
  ⟨x, h1, CV h, hc, o, i, fun h' e => by
    obtain ⟨h2, r1, r2⟩ := hr h' e
    exact ⟨h2, r1, by rw [← e]; exact r2⟩⟩
theorem Two.pure {h : HI} {c : Option (Int32 × HI)} {r : HI → Option (Int32 × HI)} {x : Int32} (i : AI (CV h)) (hc : c = some (x, h)) (hr : ∀ h', RV h' = CV h → r h' = some (x, h')) : Two h c r := Two.same i hc CTo.rf (fun h' e => ⟨h', hr h' e, RTo.rf⟩)
theorem Two.book {h h1 : HI} {c : Option (Int32 × HI)} {r : HI → Option (Int32 × HI)} {x : Int32} {F : Nat → Int32} (i : AI (CV h)) (bk : BkI F) (hc : c = some (x, h1)) (b : BkTo h 0 F h1) (hr : ∀ h', RV h' = CV h → ∃ h2, r h' = some (x, h2) ∧ RkA h' F h2) : Two h c r :=
  ⟨x, h1, cU (CV h) 0 F, hc, CTo.book b, AI_book i bk, fun h' e => by
    obtain ⟨h2, r1, r2⟩ := hr h' e
    exact ⟨h2, r1, by rw [← e]; exact RTo.book r2⟩⟩
theorem RTo.same {h h' : HI} (b : RkA h (RV h 0) h') : RTo h (RV h) h' := by
  have := RTo.book b
  rwa [cU_self] at this
theorem Two.orNone {h h1 : HI} {c : Option (Int32 × HI)} {r : HI → Option (Int32 × HI)} {x : Int32} (i : AI (CV h)) (hc : c = Option.bind (FX9_orNone x h1) fun y => some (y.1, y.2)) (o : CTo h (CV h) h1) (hr : ∀ h', RV h' = CV h → ∃ h3, r h' = (if 0 ≤ x then some (x, h3) else Option.bind (FX10_finds (-1000000004) h3) fun y => some (y.1, y.2)) ∧ RTo h' (RV h') h3) : Two h c r := by
  rw [tell_eta] at hc
  unfold FX9_orNone at hc
  by_cases z : 0 ≤ x
  · rw [if_pos z] at hc
    refine Two.same i hc o (fun h' e => ?_)
    obtain ⟨h3, r1, r2⟩ := hr h' e
    rw [if_pos z] at r1
    exact ⟨h3, r1, r2⟩
  · obtain ⟨h2, t1, t2⟩ := c_tell (h := h1) (x := -1000000004) 3 (by decide) (by decide)
    rw [o.2] at t2
    rw [if_neg z, t1, Option.bind_some] at hc
    refine ⟨_, h2, _, hc, o.tr t2, AI_tell i, fun h' e => ?_⟩
    obtain ⟨h3, r1, r2⟩ := hr h' e
    obtain ⟨h4, t3, t4⟩ := r_tell (h := h3) (x := -1000000004) 3 (by decide) (by decide)
    rw [if_neg z, t3, Option.bind_some] at r1
    rw [r2.2] at t4
    refine ⟨h4, r1, r2.tr ?_⟩
    rw [← e]
    exact t4
theorem rB {h h' : HI} (e : RV h' = CV h) : tk (h' 8 33) = CV h 0 := congrFun e 0
theorem q_isP {h : HI} (i : AI (CV h)) (a : Int32) : ∀ h', RV h' = CV h → FX10_isPhrase a h' = some (bI (isP (CV h 0 0) a)) := by
  intro h' e
  obtain ⟨n, nw, l, d, c, b1, -⟩ := i.1
  have := r_isP (n := n) a (h := h') (by rw [e]; exact b1.1) b1.2.1
  rw [e] at this
  exact this
theorem q_isW {h : HI} (i : AI (CV h)) (a : Int32) : ∀ h', RV h' = CV h → FX10_isWant a h' = some (bI (isP (CV h 0 1) a)) := by
  intro h' e
  obtain ⟨n, nw, l, d, c, b1, -⟩ := i.1
  have := r_isW (n := nw) a (h := h') (by rw [e]; exact b1.2.2.1) b1.2.2.2.1
  rw [e] at this
  exact this
theorem c_isS (a : Int32) (h : HI) : FX9_isSet a h = some (bI (isP (1 <<< (CV h 0 0 &&& 31)) a)) := by
  unfold FX9_isSet isP
  show _ = some (bI (!decide (a < 0) && !decide (1 <<< (h 0 1 6 &&& 31) ≤ a)))
  by_cases c : a < 0
  · rw [if_pos c, decide_eq_true c]
    rfl
  · rw [if_neg c, decide_eq_false c]
    by_cases d : 1 <<< (h 0 1 6 &&& 31) ≤ a
    · rw [if_pos d, decide_eq_true d]
      rfl
    · rw [if_neg d, decide_eq_false d]
      rfl
theorem q_isS {h : HI} (i : AI (CV h)) (a : Int32) : ∀ h', RV h' = CV h → FX10_isSet a h' = some (bI (isP (1 <<< (CV h 0 0 &&& 31)) a)) := by
  intro h' e
  obtain ⟨n, nw, l, d, c, b1, -⟩ := i.1
  have e2 : h' 8 33 0 = nI n := (rk0 (rB e) (show 0 < 150 by decide)).trans b1.1
  unfold FX10_isSet
  rw [e2, b1.1, p2 b1.2.1, f_in (a := 0) (b := (nI (2 ^ n) - 1).toInt64) 0 (nI (2 ^ n) - 1) rfl rfl, Option.bind_some, gd_B, wi_isP (p2_le b1.2.1)]
theorem q_late {h : HI} (a : Int32) : ∀ h', RV h' = CV h → FX10_isTooLate a h' = some (bI (!dayGo a (CV h 0 3))) := fun h' e => by rw [r_late, e]
theorem BkI.up {F G : Nat → Int32} {n nw l d c : Nat} (b1 : BP G n nw) (b2 : OI F n l) (b3 : F 3 = nI d) (b4 : d ≤ 99) (b5 : F 4 = nI c) (b6 : c ≤ 1188 * d) (s3 : ∀ i, 3 ≤ i → i < 6 → G i = F i) (s4 : ∀ i, 138 ≤ i → G i = F i) : BkI G :=
  ⟨n, nw, l, d, c, b1, OI_cong (s3 5 (by decide) (by decide)) (fun j hj => s4 (138 + j) (by omega)) (by have := b2.2.1; have := b1.2.1; omega) b2, (s3 3 (by decide) (by decide)).trans b3, b4, (s3 4 (by decide) (by decide)).trans b5, b6⟩
