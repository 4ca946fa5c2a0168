-- book
theorem Ops_rel2 {c r : HI → Option (Int32 × HI)} (t : ∀ h, Rel h → Two h (c h) (fun h' => r h')) : Ops c r := by
  intro h re
  obtain ⟨e, i⟩ := re
  obtain ⟨x, h1, A', c1, c2, c3, c4⟩ := t h ⟨e, i⟩
  obtain ⟨h2, r1, r2⟩ := c4 h1 ((RV_other c2.1).trans e.symm)
  refine ⟨x, h1, h2, c1, r1, ?_, ?_⟩
  · rw [CV_other r2.1, c2.2, r2.2]
  · rw [CV_other r2.1, c2.2]
    exact c3
theorem neg_s : ∀ s, s < 121 → (-1 - nI s) < 0 := by decide
def bookR (k1 : HI) : Option (Int32 × HI) := nm (hP1 k1 8 32 14 0) fun h2 => nm (hP1 h2 8 32 16 0) fun h3 => Option.bind (FX10_token h3) fun h4 => Option.bind (FX10_item h4) fun h5 => loopN (SX10_book_24) FU (1, h5)
theorem bk_run {h k : HI} {T : Nat} (t1 : h 5 26 1 = nI T) (hT : T ≤ 120) (e : RV k = CV h) (bk : BkI (CV h 0)) : ∃ h1 x h2 k1 y k2, FX0_takeFrom 2 0 h = some h1 ∧ FX2_readBook 2 h1 = some (x, h2) ∧ FX10_puts k = some k1 ∧ RkA k (CV h 0) k1 ∧ tk (k1 8 35) = CV h 0 ∧ bookR k1 = some (y, k2) ∧ BOut h k1 (fun i => h 5 27 i) T x y h2 k2 := by
  obtain ⟨h1, p1, u, rfl, pu⟩ := c_take (h := h) (g := 2) (g1 := 0) (by decide)
  obtain ⟨k1, q1, q2, q3⟩ := r_put (rB e)
  have cx : PC h k1 (fun i => h 5 27 i) T := by
    refine ⟨fun i _ => rfl, fun i hi => ?_, hT, ?_⟩
    · rw [q2.1 8 39 (by decide)]
      have := congrFun (congrFun e 5) i
      rw [show RV k 5 i = k 8 39 i from cut_lt hi, show CV h 5 i = h 5 27 i from cut_lt hi] at this
      exact this
    · rw [q2.1 8 32 (by decide)]
      exact (congrFun (congrFun e 4) 0).trans t1
  have e1 : hP1 (hU h 2 u) 5 26 5 0 = hPF (hU h 2 u) 5 26 (upd (h 5 26) 5 0) := by
    show hPF (hU h 2 u) 5 26 (upd (hU h 2 u 5 26) 5 0) = _
    rw [hU_n (by decide)]
  obtain ⟨s, e0, w', a1, a2, a3, a4, a5, a6, a7, a8⟩ := c_adv (h := hU h 2 u) (B := fun i => h 5 27 i) (e := 0) (w := upd (h 5 26) 5 0) (cx.c u) hT (by rw [up_n (by decide)]; exact t1) up_s (by omega)
  have e2 : hP1 (hP1 k1 8 32 14 0) 8 32 16 0 = hPF (hPF k1 8 33 (k1 8 33)) 8 32 (upd (upd (k1 8 32) 14 0) 16 0) := by
    rw [hPF_self]
    show hP1 (hPF k1 8 32 (upd (k1 8 32) 14 0)) 8 32 16 0 = _
    rw [pf_p1]
  have ot : Ots k1 (upd (upd (k1 8 32) 14 0) 16 0) := fun j e1 e2 e3 e4 => by rw [up_n e4, up_n e2]
  obtain ⟨s2, e3, v', b1, b2, b3, b4, b5, b6⟩ := r_tok (h := hPF k1 8 33 (k1 8 33)) (B := fun i => h 5 27 i) (T := T) (e := 0) (w := upd (upd (k1 8 32) 14 0) 16 0) (cx.r _) hT (ot.len cx) (by rw [up_n (by decide), up_s]; rfl) (by omega)
  have es := Sk_eq a2 b2
  subst es
  have ee := En_eq a3 b3
  subst ee
  have gd : Gd h k1 (fun i => h 5 27 i) T (CV h 0) (CV h 0) s e0 (hPF (hU h 2 u) 5 26 w') (hPF (hPF k1 8 33 (k1 8 33)) 8 32 v') :=
    ⟨a3, ⟨u, w', rfl, pu, a4, a5, a6, a7, a8⟩, ⟨k1 8 33, v', rfl, q2.2, b4, b5, by rw [b6 16 (by decide) (by decide), up_s], fun j e1 e2 e3 e4 => by rw [b6 j e1 e2]; exact ot j e1 e2 e3 e4⟩⟩
  obtain ⟨x, h', y, k', z1, z2, z3⟩ := J_bookL cx 120 FU FU 1 s e0 (CV h 0) _ _ (by omega) (by have := FU_lt; omega) (by have := FU_lt; omega) (by decide) (by omega) bk gd
  refine ⟨_, x, h', k1, y, k', p1, ?_, q1, q2, q3, ?_, z3⟩
  · unfold FX2_readBook FX7_begin
    rw [nm_eq, e1, a1, Option.bind_some, Option.bind_some, show (1 : Int32) = nI 1 from rfl, z1, Option.bind_some]
  · unfold bookR
    rw [nm_eq, nm_eq, e2, b1, Option.bind_some, show (1 : Int32) = nI 1 from rfl]
    exact z2
theorem gcf_to {h h2 : HI} {T s : Nat} (t1 : h 5 26 1 = nI T) (g : GCf h T s h2) : CTo h (CV h) h2 := by
  obtain ⟨u, w, rfl, g1, g2⟩ := g
  have o : ∀ a, a ≠ 2 → a ≠ 5 → hPF (hU h 2 u) 5 26 w a = h a := by
    intro a e1 e2
    funext c
    rw [hPF_n (fun z => e2 z.1), hU_n e1]
  refine CTo.mk8 (o 8 (by decide) (by decide)) ?_ ?_ ?_ ?_ ?_ ?_ ?_ ?_ (fun i => rfl)
  · rw [o 0 (by decide) (by decide)]; rfl
  · rw [o 3 (by decide) (by decide), o 1 (by decide) (by decide)]; rfl
  · rw [o 3 (by decide) (by decide)]; rfl
  · rw [o 3 (by decide) (by decide)]; rfl
  · rw [hPF_s, g1, ← t1]; rfl
  · rw [hPF_n (by decide), hU_n (by decide)]; rfl
  · rw [o 6 (by decide) (by decide)]; rfl
  · rw [o 6 (by decide) (by decide)]; rfl
theorem c_bookEnd {h h2 h3 : HI} {A : Nat → Nat → Int32} (a : CTo h A h2) : CTo h (tapeS A (nI 0) (A 5)) (hP1 h2 5 26 1 0) := by
  have b := c_tape (h := h2) (h' := hP1 h2 5 26 1 0) (x := nI 0) (B := A 5) (fun g e => hP1_g e) hP1_s (by rw [hP1_k (by decide), ← a.2]; rfl)
  rw [a.2] at b
  exact a.tr b
theorem r_bookEnd {k k3 : HI} {F : Nat → Int32} (o : ∀ g, g ≠ 8 → k3 g = k g) (o2 : ∀ j, j ≠ 32 → j ≠ 33 → j ≠ 35 → k3 8 j = k 8 j) (o4 : k3 8 32 4 = k 8 32 4) (o12 : k3 8 32 12 = 0) (eF : tk (k3 8 33) = F) : RTo k (tapeS (cU (RV k) 0 F) (nI 0) (RV k 5)) k3 := by
  unfold tapeS
  refine RTo.mk8 o ?_ ?_ ?_ ?_ ?_ ?_ ?_ ?_ (fun i => ?_)
  · rw [cU_n (by decide), cU_n (by decide), cU_s]
    exact eF
  · rw [cU_n (by decide), cU_n (by decide), cU_n (by decide), o4, o2 34 (by decide) (by decide) (by decide)]
    rfl
  · rw [cU_n (by decide), cU_n (by decide), cU_n (by decide), o4]
    rfl
  · rw [cU_n (by decide), cU_n (by decide), cU_n (by decide), o2 36 (by decide) (by decide) (by decide)]
    rfl
  · rw [cU_s, o12]
    rfl
  · rw [cU_n (by decide), cU_s, o2 39 (by decide) (by decide) (by decide)]
    rfl
  · rw [cU_n (by decide), cU_n (by decide), cU_n (by decide), o2 40 (by decide) (by decide) (by decide)]
    rfl
  · rw [cU_n (by decide), cU_n (by decide), cU_n (by decide), o2 41 (by decide) (by decide) (by decide)]
    rfl
  · rw [cU_n (by omega), cU_n (by omega), cU_n (by omega)]
    rfl
/-- what a reader's heap leaves as it was -/
theorem fr_k {k k1 : HI} {F r w : Nat → Int32} (a : RkA k F k1) (ot : Ots k1 w) : (∀ g, g ≠ 8 → hPF (hPF k1 8 33 r) 8 32 w g = k g) ∧ (∀ j, j ≠ 32 → j ≠ 33 → j ≠ 35 → hPF (hPF k1 8 33 r) 8 32 w 8 j = k 8 j) ∧ w 4 = k 8 32 4 := by
  refine ⟨fun g e => ?_, fun j e1 e2 e3 => ?_, ?_⟩
  · funext j
    rw [hPF_n (fun z => e z.1), hPF_n (fun z => e z.1), a.1 g j (fun z => e z.1)]
  · rw [hPF_n (fun z => e1 z.2), hPF_n (fun z => e2 z.2), a.1 8 j (fun z => by omega)]
  · rw [ot 4 (by decide) (by decide) (by decide) (by decide), a.1 8 32 (by decide)]
theorem book_ok : Ops FX9_book FX10_book := by
  refine Ops_rel2 (fun h re => ?_)
  obtain ⟨e, i⟩ := re
  obtain ⟨T, t1, t2, t3⟩ := i.2.2.1
  have f4 : h 5 26 1 = nI T := t1
  obtain ⟨h1, x, h2, k1, y, k2, p1, p2, -, -, -, -, bo⟩ := bk_run (k := h) f4 t2 e.symm i.1
  have eB : ∀ k, FX10_book k = Option.bind (FX10_puts k) fun k1 => Option.bind (bookR k1) fun (e11, h12) => JX10_book_74 e11 h12 := by
    intro k
    unfold FX10_book bookR
    cases FX10_puts k with
    | none => rfl
    | some k1 =>
      rw [Option.bind_some, Option.bind_some, nm_eq, nm_eq, nm_eq, nm_eq]
      cases FX10_token (hP1 (hP1 k1 8 32 14 0) 8 32 16 0) with
      | none => rfl
      | some k2 =>
        rw [Option.bind_some, Option.bind_some]
        cases FX10_item k2 with
        | none => rfl
        | some k3 => rw [Option.bind_some, Option.bind_some]
  -- what the reference does, whatever heap it begins with
  have ref : ∀ k, RV k = CV h → ∃ k1 y' k2', FX10_puts k = some k1 ∧ RkA k (CV h 0) k1 ∧ tk (k1 8 35) = CV h 0 ∧ bookR k1 = some (y', k2') ∧ BOut h k1 (fun i => h 5 27 i) T x y' h2 k2' := by
    intro k ek
    obtain ⟨g1, x', g2, k1', y', k2', a1, a2, a3, a4, a5, a6, a7⟩ := bk_run (k := k) f4 t2 ek i.1
    rw [p1] at a1
    have q1 := Option.some.inj a1
    subst q1
    rw [p2] at a2
    have q2 := Option.some.inj a2
    have q3 := congrArg Prod.fst q2
    have q4 := congrArg Prod.snd q2
    dsimp only at q3 q4
    subst q3
    subst q4
    exact ⟨k1', y', k2', a3, a4, a5, a6, a7⟩
  unfold FX9_book
  rw [p1, Option.bind_some, p2, Option.bind_some]
  dsimp only
  rcases bo with ⟨m, F, s, e', rfl, -, m1, bk, gd⟩ | ⟨s, rfl, s1, gf, -⟩
  · obtain ⟨h3, c1, c2⟩ := c_take (h := h2) (g := 0) (g1 := 2) (by decide)
    rw [gd.2.1.at] at c2
    have ct : CTo h (cU (CV h) 0 F) h3 := by
      have a := gcf_to f4 gd.2.1.f
      have b := CTo.book c2
      rw [a.2] at b
      exact a.tr b
    refine ⟨nI m, hP1 h3 5 26 1 0, tapeS (cU (CV h) 0 F) (nI 0) (cU (CV h) 0 F 5), ?_, c_bookEnd (h3 := h3) ct, AI_tape (AI_book i bk) (by decide) (fun j hj => by omega), fun k ek => ?_⟩
    · rw [if_neg (nI_nn (by omega)), c1, Option.bind_some]
      unfold FX7_clear
      rw [nm_eq, nm_eq, Option.bind_some]
    · obtain ⟨k1', y', k2', a1, a2, a3, a4, a5⟩ := ref k ek
      rcases a5 with ⟨m', F', s', e'', q1, q2, -, -, gd'⟩ | ⟨s', q1, q2, -, -⟩
      · have eF : F' = F := by rw [← gd'.2.1.at, ← gd.2.1.at]
        subst eF
        obtain ⟨r, w, rfl, g1, g2, g3, g4, g5⟩ := gd'.2.2
        obtain ⟨fr1, fr2, fr3⟩ := fr_k (r := r) a2 g5
        refine ⟨hPF (hPF k1' 8 33 r) 8 32 (upd w 12 0), ?_, ?_⟩
        · dsimp only
          rw [eB, a1, Option.bind_some, a4, Option.bind_some]
          dsimp only
          unfold JX10_book_74
          rw [nm_eq, pf_p1, hPF_s, up_n (by decide), g4, if_pos rfl, q2, q1]
        · rw [← ek, cU_n (by decide)]
          refine r_bookEnd (fun g eg => ?_) (fun j e1 e2 e3 => ?_) ?_ ?_ ?_
          · rw [← fr1 g eg]
            funext j
            rw [hPF_n (fun z => eg z.1), hPF_n (fun z => eg z.1), hPF_n (fun z => eg z.1), hPF_n (fun z => eg z.1)]
          · rw [← fr2 j e1 e2 e3, hPF_n (fun z => e1 z.2), hPF_n (fun z => e1 z.2)]
          · rw [hPF_s, up_n (by decide), fr3]
          · rw [hPF_s, up_s]
          · rw [hPF_n (by decide), hPF_s, g1]
      · have := neg_s s' (by omega)
        rw [← q1] at this
        exact absurd this (nI_nn (by omega))
  · refine ⟨-1 - nI s, hP1 h2 5 26 1 0, tapeS (CV h) (nI 0) (CV h 5), ?_, c_bookEnd (h3 := h2) (gcf_to f4 gf), AI_tape i (by decide) (fun j hj => by omega), fun k ek => ?_⟩
    · rw [if_pos (neg_s s (by omega))]
      unfold FX7_clear
      rw [nm_eq, nm_eq, Option.bind_some]
    · obtain ⟨k1', y', k2', a1, a2, a3, a4, a5⟩ := ref k ek
      rcases a5 with ⟨m', F', s', e'', q1, q2, m2, -, gd'⟩ | ⟨s', q1, q2, q3, br⟩
      · have := neg_s s (by omega)
        rw [q1] at this
        exact absurd this (nI_nn (by omega))
      · have es : nI s' = nI s := by rw [← q3.at, ← gf.at]
        obtain ⟨r, w, rfl, g1, g2, g3, g4, g5⟩ := br
        obtain ⟨fr1, fr2, fr3⟩ := fr_k (r := r) a2 g5
        obtain ⟨k3, b1, b2⟩ := r_putsBack (h := hPF (hPF k1' 8 33 r) 8 32 (upd w 12 0)) (F := CV h 0) (by rw [hPF_n (by decide), hPF_n (by decide)]; exact a3)
        refine ⟨k3, ?_, ?_⟩
        · dsimp only
          rw [eB, a1, Option.bind_some, a4, Option.bind_some]
          dsimp only
          unfold JX10_book_74
          rw [nm_eq, pf_p1, hPF_s, up_n (by decide), g4, if_neg (by decide), b1, Option.bind_some, b2.out (by decide), hPF_s, up_n (by decide), g1, es]
        · have := r_bookEnd (k := k) (k3 := k3) (F := CV h 0) (fun g eg => ?_) (fun j e1 e2 e3 => ?_) ?_ ?_ b2.at
          · rw [ek, cU_self] at this
            exact this
          · rw [← fr1 g eg, b2.grp eg]
            funext j
            rw [hPF_n (fun z => eg z.1), hPF_n (fun z => eg z.1), hPF_n (fun z => eg z.1), hPF_n (fun z => eg z.1)]
          · rw [b2.out (fun z => e2 z.2), ← fr2 j e1 e2 e3, hPF_n (fun z => e1 z.2), hPF_n (fun z => e1 z.2)]
          · rw [b2.out (by decide), hPF_s, up_n (by decide), fr3]
          · rw [b2.out (by decide), hPF_s, up_s]
