-- image, undo, tear, count, status, wipe, feed
theorem CTo.mk8 {h h' : HI} {A : Nat → Nat → Int32} (o8 : h' 8 = h 8) (e0 : vw (h' 0) = A 0) (e1 : (if h' 3 16 3 = 0 then fun _ => 0 else vw (h' 1)) = A 1) (e2 : (fun _ : Nat => h' 3 16 3) = A 2) (e3 : cut 7 (h' 3 17) = A 3) (e4 : (fun _ : Nat => h' 5 26 1) = A 4) (e5 : cut 120 (h' 5 27) = A 5) (e6 : cut 4 (h' 6 29) = A 6) (e7 : cut 4 (h' 6 30) = A 7) (e8 : ∀ i, A (i + 8) = fun _ => 0) : CTo h A h' := ⟨o8, row_ext e0 e1 e2 e3 e4 e5 e6 e7 (fun i => (e8 i).symm)⟩
theorem RTo.mk8 {h h' : HI} {A : Nat → Nat → Int32} (o : ∀ g, g ≠ 8 → h' g = h g) (e0 : tk (h' 8 33) = A 0) (e1 : (if h' 8 32 4 = 0 then fun _ => 0 else tk (h' 8 34)) = A 1) (e2 : (fun _ : Nat => h' 8 32 4) = A 2) (e3 : cut 7 (h' 8 36) = A 3) (e4 : (fun _ : Nat => h' 8 32 12) = A 4) (e5 : cut 120 (h' 8 39) = A 5) (e6 : cut 4 (h' 8 40) = A 6) (e7 : cut 4 (h' 8 41) = A 7) (e8 : ∀ i, A (i + 8) = fun _ => 0) : RTo h A h' := ⟨o, row_ext e0 e1 e2 e3 e4 e5 e6 e7 (fun i => (e8 i).symm)⟩
/-- the kept book and its flag -/
def keepS (A : Nat → Nat → Int32) (F : Nat → Int32) (x : Int32) : Nat → Nat → Int32 := cU (cU A 1 F) 2 (fun _ => x)
theorem hP1_s {h : HI} {g k j : Nat} {x : Int32} : hP1 h g k j x g k j = x := by rw [hP1_at, if_pos ⟨rfl, rfl, rfl⟩]
theorem hP1_c {h : HI} {g k j : Nat} {x : Int32} : hP1 h g k j x g k = upd (h g k) j x := by unfold hP1; rw [hU_s, cU_s]
theorem c_keep {h h' : HI} {F : Nat → Int32} {x : Int32} (o : ∀ g, g ≠ 1 → g ≠ 3 → h' g = h g) (o3 : ∀ k, k ≠ 16 → h' 3 k = h 3 k) (ex : h' 3 16 3 = x) (e1 : (if x = 0 then fun _ => 0 else vw (h' 1)) = F) : CTo h (keepS (CV h) F x) h' := by
  unfold keepS
  refine CTo.mk8 (o 8 (by decide) (by decide)) ?_ ?_ ?_ ?_ ?_ ?_ ?_ ?_ (fun i => ?_)
  · rw [cU_n (by decide), cU_n (by decide), o 0 (by decide) (by decide)]
    rfl
  · rw [cU_n (by decide), cU_s, ex]
    exact e1
  · rw [cU_s, ex]
  · rw [cU_n (by decide), cU_n (by decide), o3 17 (by decide)]
    rfl
  · rw [cU_n (by decide), cU_n (by decide), o 5 (by decide) (by decide)]
    rfl
  · rw [cU_n (by decide), cU_n (by decide), o 5 (by decide) (by decide)]
    rfl
  · rw [cU_n (by decide), cU_n (by decide), o 6 (by decide) (by decide)]
    rfl
  · rw [cU_n (by decide), cU_n (by decide), o 6 (by decide) (by decide)]
    rfl
  · rw [cU_n (by omega), cU_n (by omega)]
    rfl
theorem r_keep {h h' : HI} {F : Nat → Int32} {x : Int32} (o : ∀ g, g ≠ 8 → h' g = h g) (o2 : ∀ k, k ≠ 32 → k ≠ 34 → h' 8 k = h 8 k) (o12 : h' 8 32 12 = h 8 32 12) (ex : h' 8 32 4 = x) (e1 : (if x = 0 then fun _ => 0 else tk (h' 8 34)) = F) : RTo h (keepS (RV h) F x) h' := by
  unfold keepS
  refine RTo.mk8 o ?_ ?_ ?_ ?_ ?_ ?_ ?_ ?_ (fun i => ?_)
  · rw [cU_n (by decide), cU_n (by decide), o2 33 (by decide) (by decide)]
    rfl
  · rw [cU_n (by decide), cU_s, ex]
    exact e1
  · rw [cU_s, ex]
  · rw [cU_n (by decide), cU_n (by decide), o2 36 (by decide) (by decide)]
    rfl
  · rw [cU_n (by decide), cU_n (by decide), o12]
    rfl
  · rw [cU_n (by decide), cU_n (by decide), o2 39 (by decide) (by decide)]
    rfl
  · rw [cU_n (by decide), cU_n (by decide), o2 40 (by decide) (by decide)]
    rfl
  · rw [cU_n (by decide), cU_n (by decide), o2 41 (by decide) (by decide)]
    rfl
  · rw [cU_n (by omega), cU_n (by omega)]
    rfl
theorem AI_keep {A : Nat → Nat → Int32} {F : Nat → Int32} {x : Int32} (i : AI A) (b : x = 0 ∨ (x = 1 ∧ BkI F)) : AI (keepS A F x) := by
  obtain ⟨i1, i2, i3, i4⟩ := i
  unfold keepS
  refine ⟨by rw [cU_n (by decide), cU_n (by decide)]; exact i1, ?_, ?_, ?_⟩
  · rw [cU_s, cU_n (by decide), cU_s]
    exact b
  · rw [cU_n (by decide), cU_n (by decide), cU_n (by decide), cU_n (by decide)]
    exact i3
  · rw [cU_n (by decide), cU_n (by decide), cU_n (by decide), cU_n (by decide)]
    exact i4
theorem r_imageL {h : HI} : ∃ h', loopN SX10_image_2 FU (0, h) = some h' ∧ ∃ s, h' = hPF h 8 34 s ∧ tk s = tk (h 8 33) := by
  refine gloop (f := SX10_image_2) (fun i (s : Int32 × HI) => s.1 = nI i ∧ ∃ f, s.2 = hPF h 8 34 f ∧ ∀ j, j < i → f j = h 8 33 j) _ 150 ?_ (k := FU) (by have := FU_lt; omega) (s0 := (0, h)) ⟨rfl, h 8 34, hPF_self.symm, fun j hj => by omega⟩
  rintro i ⟨q, h1⟩ hi ⟨rfl, f, i1, i2⟩
  dsimp only at i1
  unfold SX10_image_2
  try dsimp only
  rw [show (150 : Int32) = nI 150 from rfl]
  by_cases z : i = 150
  · refine Or.inr ⟨h1, by rw [if_pos (le_t (by omega) (by omega) (by omega))], f, i1, ?_⟩
    funext j
    unfold tk
    by_cases c : j < 150
    · rw [if_pos c, if_pos c, i2 j (by omega)]
    · rw [if_neg c, if_neg c]
  · refine Or.inl ⟨by omega, (nI (i + 1), hP1 h1 8 34 i (h1 8 33 i)), ?_, rfl, upd f i (h 8 33 i), ?_, fun j hj => ?_⟩
    · rw [if_neg (le_f (by omega) (by omega) (by omega)), gd_ix (show i < 150 by omega) (by decide), gd_ix (show i < 150 by omega) (by decide), nC_n (show i < 2 ^ 31 by omega), nm_eq, nI_1]
    · try dsimp only
      rw [i1, hPF_n (by decide)]
      show hPF (hPF h 8 34 f) 8 34 (upd (hPF h 8 34 f 8 34) i (h 8 33 i)) = _
      rw [hPF_hPF, hPF_s]
    · by_cases c : j = i
      · rw [c, up_s]
      · rw [up_n c, i2 j (by omega)]
theorem r_undoL {h : HI} {F : Nat → Int32} (e : tk (h 8 34) = F) : ∃ h', loopN SX10_undo_16 FU (0, h) = some h' ∧ RkTo h F h' := by
  refine gloop (f := SX10_undo_16) (fun i (s : Int32 × HI) => s.1 = nI i ∧ ∃ f, s.2 = hPF h 8 33 f ∧ ∀ j, j < i → f j = h 8 34 j) _ 150 ?_ (k := FU) (by have := FU_lt; omega) (s0 := (0, h)) ⟨rfl, h 8 33, hPF_self.symm, fun j hj => by omega⟩
  rintro i ⟨q, h1⟩ hi ⟨rfl, f, i1, i2⟩
  dsimp only at i1
  unfold SX10_undo_16
  try dsimp only
  rw [show (150 : Int32) = nI 150 from rfl]
  by_cases z : i = 150
  · refine Or.inr ⟨h1, by rw [if_pos (le_t (by omega) (by omega) (by omega))], f, i1, ?_⟩
    rw [← e]
    funext j
    unfold tk
    by_cases c : j < 150
    · rw [if_pos c, if_pos c, i2 j (by omega)]
    · rw [if_neg c, if_neg c]
  · refine Or.inl ⟨by omega, (nI (i + 1), hP1 h1 8 33 i (h1 8 34 i)), ?_, rfl, upd f i (h 8 34 i), ?_, fun j hj => ?_⟩
    · rw [if_neg (le_f (by omega) (by omega) (by omega)), gd_ix (show i < 150 by omega) (by decide), gd_ix (show i < 150 by omega) (by decide), nC_n (show i < 2 ^ 31 by omega), nm_eq, nI_1]
    · try dsimp only
      rw [i1, hPF_n (by decide)]
      show hPF (hPF h 8 33 f) 8 33 (upd (hPF h 8 33 f 8 33) i (h 8 34 i)) = _
      rw [hPF_hPF, hPF_s]
    · by_cases c : j = i
      · rw [c, up_s]
      · rw [up_n c, i2 j (by omega)]
theorem image_ok : Ops FX9_image FX10_image := by
  refine Ops_two (fun h i => ?_)
  unfold FX9_image FX10_image
  obtain ⟨h1, q1, q2⟩ := c_take (h := h) (g := 1) (g1 := 0) (by decide)
  refine ⟨1, hP1 h1 3 16 3 1, keepS (CV h) (CV h 0) 1, by rw [q1, Option.bind_some, nm_eq], c_keep (fun g e1 e3 => ?_) (fun k e => ?_) hP1_s ?_, AI_keep i (Or.inr ⟨rfl, i.1⟩), fun h' e => ?_⟩
  · rw [hP1_g e3, q2.out e1]
  · rw [hP1_k e, q2.out (by decide)]
  · rw [if_neg (by decide), hP1_g (by decide), q2.at]
    rfl
  · obtain ⟨h2, u1, s, rfl, u3⟩ := r_imageL (h := h')
    refine ⟨hP1 (hPF h' 8 34 s) 8 32 4 1, by (try dsimp only); rw [u1, Option.bind_some, nm_eq], ?_⟩
    rw [← e]
    refine r_keep (fun g e1 => ?_) (fun k e1 e2 => ?_) ?_ hP1_s ?_
    · rw [hP1_g e1]
      exact funext fun k => hPF_n (fun z => e1 z.1)
    · rw [hP1_k e1, hPF_n (fun z => e2 z.2)]
    · rw [hP1_at, if_neg (by decide), hPF_n (by decide)]
    · rw [if_neg (by decide), hP1_k (by decide), hPF_s, u3]
      rfl
theorem undo_ok : Ops FX9_undo FX10_undo := by
  refine Ops_two (fun h i => ?_)
  unfold FX9_undo FX10_undo
  have f2 : h 3 16 3 = CV h 2 0 := rfl
  have g2 : ∀ h', RV h' = CV h → h' 8 32 4 = CV h 2 0 := fun h' e => congrFun (congrFun e 2) 0
  rcases i.2.1 with z | ⟨z, bk⟩
  · refine Two.of (Two.none i) ?_ (fun h' e => ?_)
    · rw [f2, z, if_pos rfl]
    · rw [g2 h' e, z, if_pos rfl]
  · obtain ⟨h1, q1, q2⟩ := c_take (h := h) (g := 0) (g1 := 1) (by decide)
    have r1 : CV h 1 = vw (h 1) := by
      show (if h 3 16 3 = 0 then fun _ => 0 else vw (h 1)) = vw (h 1)
      rw [f2, z, if_neg (by decide)]
    rw [← r1] at q2
    refine Two.book (F := CV h 1) (x := CV h 1 0) (h1 := h1) i bk ?_ q2 (fun h' e => ?_)
    · rw [f2, z, if_neg (by decide), q1, Option.bind_some, (bk0 q2.at).1]
    · have r2 : tk (h' 8 34) = CV h 1 := by
        have e1 : RV h' 1 = CV h 1 := congrFun e 1
        rw [← e1]
        show tk (h' 8 34) = (if h' 8 32 4 = 0 then fun _ => 0 else tk (h' 8 34))
        rw [g2 h' e, z, if_neg (by decide)]
      obtain ⟨h2, u1, u2⟩ := r_undoL r2
      refine ⟨h2, ?_, RkA.of u2⟩
      try dsimp only
      rw [g2 h' e, z, if_neg (by decide), u1, Option.bind_some, rk0 u2.at (show 0 < 150 by decide)]
theorem tear_ok : Ops FX9_tear FX10_tear := by
  refine Ops_two (fun h i => ?_)
  unfold FX9_tear FX10_tear
  have f2 : h 3 16 3 = CV h 2 0 := rfl
  have g2 : ∀ h', RV h' = CV h → h' 8 32 4 = CV h 2 0 := fun h' e => congrFun (congrFun e 2) 0
  refine ⟨CV h 2 0, hP1 h 3 16 3 0, keepS (CV h) (fun _ => 0) 0, ?_, c_keep (fun g e1 e3 => hP1_g e3) (fun k e => hP1_k e) hP1_s (if_pos rfl), AI_keep i (Or.inl rfl), fun h' e => ⟨hP1 h' 8 32 4 0, ?_, ?_⟩⟩
  · rw [nm_eq, nm_eq, f2]
    rcases i.2.1 with z | ⟨z, -⟩
    · rw [z, if_pos rfl]
    · rw [z, if_neg (by decide)]
  · try dsimp only
    rw [nm_eq, nm_eq, g2 h' e]
    rcases i.2.1 with z | ⟨z, -⟩
    · rw [z, if_pos rfl]
    · rw [z, if_neg (by decide)]
  · rw [← e]
    exact r_keep (fun g e1 => hP1_g e1) (fun k e1 e2 => hP1_k e1) (by rw [hP1_at, if_neg (by decide)]) hP1_s (if_pos rfl)
def sumG (f : Nat → Int32) (k : Nat) : Int32 := foldN (fun i a => a + f i) k 0
theorem sumG_cong {f g : Nat → Int32} {k : Nat} (h : ∀ i, i < k → f i = g i) : sumG f k = sumG g k := foldN_cong (fun i a hi => by rw [h i hi]) 0
theorem c_sumG {g k m : Nat} {h : HI} (ok : okI g k = true) (al : m ≤ alen k) (hl : alen k < 2 ^ 31) (hf : alen k < 4200) : FX9_sum g k (nI m) h = some (sumG (h g k) m) := by
  have key := for_loop (f := SX9_sum_4 g k (nI m) h) (fun i => (sumG (h g k) i, nI i)) m (sumG (h g k) m) (fun i hi => by
    unfold SX9_sum_4
    try dsimp only
    rw [if_neg (le_f (by omega) (by omega) (by omega)), ok, Bool.true_and, gd_ix (show i < alen k by omega) hl, nm_eq, nC_n (show i < 2 ^ 31 by omega), nI_1]
    rfl) (by
    unfold SX9_sum_4
    try dsimp only
    rw [if_pos (Int32.le_refl _)]) FU (by have := FU_lt; omega)
  unfold FX9_sum
  exact congrArg (fun o => Option.bind o fun e2 => some e2) key
theorem r_sumG {h : HI} {n k : Nat} (h0 : h 8 33 0 = nI n) (hn : n ≤ 12) (hk : k < 6) : FX10_sumOf (nI k) h = some (sumG (fun i => tk (h 8 33) (6 + 6 * i + k)) n) := by
  have key := for_loop (f := SX10_sumOf_4 (nI k) h) (fun i => (sumG (fun i => tk (h 8 33) (6 + 6 * i + k)) i, nI i)) n (sumG (fun i => tk (h 8 33) (6 + 6 * i + k)) n) (fun i hi => by
    unfold SX10_sumOf_4
    try dsimp only
    rw [h0, if_neg (le_f (by omega) (by omega) (by omega)), f_its (show i < 12 by omega) hk, Option.bind_some, nm_eq, nI_1, ← tk_lt (s := h 8 33) (show 6 + 6 * i + k < 150 by omega)]
    rfl) (by
    unfold SX10_sumOf_4
    try dsimp only
    rw [h0, if_pos (Int32.le_refl _)]) FU (by have := FU_lt; omega)
  unfold FX10_sumOf
  exact congrArg (fun o => Option.bind o fun e3 => some e3) key
theorem count_ok (a : Int32) : Ops (FX9_count a) (FX10_count a) := by
  refine Ops_two (fun h i => ?_)
  obtain ⟨n, nw, l, d, c, b1, b2, b3, b4, b5, b6⟩ := i.1
  have hn := b1.2.1
  have f0 : h 0 1 6 = nI n := b1.1
  unfold FX9_count FX10_count
  by_cases a0 : a = 0
  · simp only [if_pos a0]
    exact Two.pure (x := CV h 0 0) i rfl (fun h' e => by rw [rk0 (rB e) (show 0 < 150 by decide)])
  simp only [if_neg a0]
  by_cases a1 : a = 1
  · simp only [if_pos a1]
    exact Two.pure (x := CV h 0 1) i rfl (fun h' e => by rw [rk0 (rB e) (show 1 < 150 by decide)])
  simp only [if_neg a1]
  by_cases a2 : a = 2
  · simp only [if_pos a2]
    exact Two.pure (x := CV h 0 5) i rfl (fun h' e => by rw [rk0 (rB e) (show 5 < 150 by decide)])
  simp only [if_neg a2]
  by_cases a3 : a = 3
  · simp only [if_pos a3]
    exact Two.pure (x := CV h 4 0) i rfl (fun h' e => by rw [show h' 8 32 12 = CV h 4 0 from congrFun (congrFun e 4) 0])
  simp only [if_neg a3]
  have g0 : ∀ h', RV h' = CV h → h' 8 33 0 = nI n := fun h' e => (rk0 (rB e) (by decide)).trans b1.1
  by_cases a4 : a = 4
  · simp only [if_pos a4]
    refine Two.pure (x := sumG (fun i => CV h 0 (6 + 6 * i + 4)) n) i ?_ (fun h' e => ?_)
    · rw [f0, c_sumG (g := 0) (k := 6) rfl (show n ≤ 12 from hn) (by decide) (by decide), Option.bind_some, sumG_cong (f := h 0 6) (g := fun i => CV h 0 (6 + 6 * i + 4)) (fun j hj => (vw_p (u := h 0) (show j < 12 by omega) (k := 4) (by decide)).symm)]
    · rw [show FX10_sumOf 4 h' = _ from r_sumG (k := 4) (g0 h' e) hn (by decide), Option.bind_some, rB e]
  simp only [if_neg a4]
  by_cases a5 : a = 5
  · simp only [if_pos a5]
    refine Two.pure (x := sumG (fun i => CV h 0 (6 + 6 * i + 5)) n) i ?_ (fun h' e => ?_)
    · rw [f0, c_sumG (g := 0) (k := 7) rfl (show n ≤ 12 from hn) (by decide) (by decide), Option.bind_some, sumG_cong (f := h 0 7) (g := fun i => CV h 0 (6 + 6 * i + 5)) (fun j hj => (vw_p (u := h 0) (show j < 12 by omega) (k := 5) (by decide)).symm)]
    · rw [show FX10_sumOf 5 h' = _ from r_sumG (k := 5) (g0 h' e) hn (by decide), Option.bind_some, rB e]
  · simp only [if_neg a5]
    exact Two.bad i
def stF (T : Nat → Int32) (a : Int32) (j : Nat) (x : Int32) : Int32 := x + (if a < 0 ∨ nI j = a then T j else 0)
theorem r_statusL {h : HI} (a : Int32) : loopN (SX10_status_25 a h) FU (0, 0) = some (foldN (stF (h 8 36) a) 7 0) := by
  refine for_loop (f := SX10_status_25 a h) (fun i => (foldN (stF (h 8 36) a) i 0, nI i)) 7 _ ?_ ?_ FU (by have := FU_lt; omega)
  · intro i hi
    rw [foldN_s]
    generalize foldN (stF (h 8 36) a) i 0 = x
    unfold SX10_status_25 JX10_status_41 stF
    try dsimp only
    rw [if_neg (show ¬ 7 ≤ nI i from le_f (a := 7) (by omega) (by decide) (by omega)), gd_ix hi (by decide), nC_n (by omega), nm_eq, nm_eq, nI_1]
    by_cases c : a < 0
    · rw [if_pos c, if_pos (Or.inl c)]
    · rw [if_neg c]
      by_cases c2 : nI i = a
      · rw [if_pos c2, if_pos (Or.inr c2)]
      · rw [if_neg c2, if_neg (fun z => z.elim c c2)]
  · unfold SX10_status_25
    try dsimp only
    rw [if_pos (show (7 : Int32) ≤ nI 7 by decide)]
theorem st_all {T : Nat → Int32} {a : Int32} (h : a < 0) (k : Nat) : foldN (stF T a) k 0 = sumG T k := foldN_cong (fun i x hi => by unfold stF; rw [if_pos (Or.inl h)]) 0
theorem st_one {T : Nat → Int32} {k : Nat} (hk : k < 7) : foldN (stF T (nI k)) 7 0 = T k := by
  have key : ∀ j, j ≤ 7 → foldN (stF T (nI k)) j 0 = if k < j then T k else 0 := by
    intro j
    induction j with
    | zero => intro _; rfl
    | succ j ih =>
      intro hj
      rw [foldN_s, ih (by omega)]
      unfold stF
      by_cases c : j = k
      · subst c
        rw [if_neg (by omega), if_pos (Or.inr rfl), if_pos (by omega), Int32.zero_add]
      · rw [if_neg (show ¬ (nI k < 0 ∨ nI j = nI k) from fun z => z.elim (nI_nn (by omega)) (nI_ne c (by omega) (by omega))), Int32.add_zero]
        by_cases d : k < j
        · rw [if_pos d, if_pos (by omega)]
        · rw [if_neg d, if_neg (by omega)]
  rw [key 7 (Nat.le_refl 7), if_pos hk]
theorem wi_m1 {a : Int32} (h : ¬ a = -1) : wi a (-1) 6 = wi a 0 6 := by
  unfold wi
  by_cases c : (0 : Int32) ≤ a
  · rw [decide_eq_true c, decide_eq_true (Int32.le_trans (show (-1 : Int32) ≤ 0 by decide) c)]
  · rw [decide_eq_false c]
    have : ¬ (-1 : Int32) ≤ a := by
      intro z
      rw [Int32.le_iff_toInt_le] at z c
      have e1 : (-1 : Int32).toInt = -1 := by decide
      have e0 : (0 : Int32).toInt = 0 := by decide
      rw [e1] at z
      rw [e0] at c
      exact h (Int32.toInt_inj.mp (by rw [e1]; omega))
    rw [decide_eq_false this]
theorem status_ok (a : Int32) : Ops (FX9_status a) (FX10_status a) := by
  refine Ops_two (fun h i => ?_)
  unfold FX9_status FX10_status
  have T : ∀ h', RV h' = CV h → ∀ j, j < 7 → h' 8 36 j = h 3 17 j := by
    intro h' e j hj
    have := congrFun (congrFun e 3) j
    rw [show RV h' 3 j = h' 8 36 j from cut_lt hj, show CV h 3 j = h 3 17 j from cut_lt hj] at this
    exact this
  by_cases z : a = -1
  · subst z
    refine Two.pure (x := sumG (h 3 17) 7) i ?_ (fun h' e => ?_)
    · rw [if_pos rfl, show (7 : Int32) = nI 7 from rfl, c_sumG (g := 3) (k := 17) rfl (by decide) (by decide) (by decide), Option.bind_some]
    · rw [f_in (a := -1) (b := 6) (-1) 6 (by decide) (by decide), Option.bind_some, show wi (-1) (-1) 6 = true by decide, bI_if, if_pos rfl, r_statusL, Option.bind_some, st_all (by decide), sumG_cong (T h' e)]
  · simp only [if_neg z]
    refine Two.ask (f_within a 0 6) (fun h' e => by rw [f_in (a := -1) (b := 6) (-1) 6 (by decide) (by decide), wi_m1 z]) (fun _ => Two.bad i) (fun y => ?_)
    obtain ⟨k, k1, k2, rfl⟩ := wi_nat (a := 0) (b := 6) (by decide) y (by decide)
    refine Two.pure (x := h 3 17 k) i ?_ (fun h' e => ?_)
    · rw [gd_ix (show k < 7 by omega) (by decide), nC_n (by omega)]
    · rw [r_statusL, Option.bind_some, st_one (by omega), T h' e k (by omega)]
-- the tape: rows 4 and 5
def tapeS (A : Nat → Nat → Int32) (x : Int32) (B : Nat → Int32) : Nat → Nat → Int32 := cU (cU A 5 B) 4 (fun _ => x)
theorem c_tape {h h' : HI} {x : Int32} {B : Nat → Int32} (o : ∀ g, g ≠ 5 → h' g = h g) (ex : h' 5 26 1 = x) (eB : cut 120 (h' 5 27) = B) : CTo h (tapeS (CV h) x B) h' := by
  unfold tapeS
  refine CTo.mk8 (o 8 (by decide)) ?_ ?_ ?_ ?_ ?_ ?_ ?_ ?_ (fun i => ?_)
  · rw [cU_n (by decide), cU_n (by decide), o 0 (by decide)]
    rfl
  · rw [cU_n (by decide), cU_n (by decide), o 3 (by decide), o 1 (by decide)]
    rfl
  · rw [cU_n (by decide), cU_n (by decide), o 3 (by decide)]
    rfl
  · rw [cU_n (by decide), cU_n (by decide), o 3 (by decide)]
    rfl
  · rw [cU_s, ex]
  · rw [cU_n (by decide), cU_s, eB]
  · rw [cU_n (by decide), cU_n (by decide), o 6 (by decide)]
    rfl
  · rw [cU_n (by decide), cU_n (by decide), o 6 (by decide)]
    rfl
  · rw [cU_n (by omega), cU_n (by omega)]
    rfl
theorem r_tape {h h' : HI} {x : Int32} {B : Nat → Int32} (o : ∀ g, g ≠ 8 → h' g = h g) (o2 : ∀ k, k ≠ 32 → k ≠ 39 → h' 8 k = h 8 k) (o4 : h' 8 32 4 = h 8 32 4) (ex : h' 8 32 12 = x) (eB : cut 120 (h' 8 39) = B) : RTo h (tapeS (RV h) x B) h' := by
  unfold tapeS
  refine RTo.mk8 o ?_ ?_ ?_ ?_ ?_ ?_ ?_ ?_ (fun i => ?_)
  · rw [cU_n (by decide), cU_n (by decide), o2 33 (by decide) (by decide)]
    rfl
  · rw [cU_n (by decide), cU_n (by decide), o4, o2 34 (by decide) (by decide)]
    rfl
  · rw [cU_n (by decide), cU_n (by decide), o4]
    rfl
  · rw [cU_n (by decide), cU_n (by decide), o2 36 (by decide) (by decide)]
    rfl
  · rw [cU_s, ex]
  · rw [cU_n (by decide), cU_s, eB]
  · rw [cU_n (by decide), cU_n (by decide), o2 40 (by decide) (by decide)]
    rfl
  · rw [cU_n (by decide), cU_n (by decide), o2 41 (by decide) (by decide)]
    rfl
  · rw [cU_n (by omega), cU_n (by omega)]
    rfl
theorem AI_tape {A : Nat → Nat → Int32} {T : Nat} {B : Nat → Int32} (i : AI A) (hT : T ≤ 120) (hB : ∀ j, j < T → rg (B j) 0 255) : AI (tapeS A (nI T) B) := by
  obtain ⟨i1, i2, i3, i4⟩ := i
  unfold tapeS
  refine ⟨by rw [cU_n (by decide), cU_n (by decide)]; exact i1, ?_, ⟨T, ?_, hT, ?_⟩, ?_⟩
  · rw [cU_n (by decide), cU_n (by decide), cU_n (by decide), cU_n (by decide)]
    exact i2
  · rw [cU_s]
  · rw [cU_n (by decide), cU_s]
    exact hB
  · rw [cU_n (by decide), cU_n (by decide), cU_n (by decide), cU_n (by decide)]
    exact i4
theorem wipe_ok : Ops FX9_wipe FX10_wipe := by
  refine Ops_two (fun h i => ?_)
  unfold FX9_wipe FX10_wipe FX7_clear
  refine ⟨CV h 4 0, hP1 h 5 26 1 0, tapeS (CV h) (nI 0) (CV h 5), rfl, c_tape (fun g e => hP1_g e) hP1_s (by rw [hP1_k (by decide)]; rfl), AI_tape i (by decide) (fun j hj => by omega), fun h' e => ⟨hP1 h' 8 32 12 0, ?_, ?_⟩⟩
  · try dsimp only
    rw [nm_eq, nm_eq, show h' 8 32 12 = CV h 4 0 from congrFun (congrFun e 4) 0]
  · rw [← e]
    exact r_tape (fun g e1 => hP1_g e1) (fun k e1 e2 => hP1_k e1) (by rw [hP1_at, if_neg (by decide)]) hP1_s (by rw [hP1_k (by decide)]; rfl)
def byteS (a : Int32) (j : Nat) : Int32 := (a >>> ((8 * nI j) &&& 31)) &&& 255
theorem b_255 : ∀ i, i < 32 → bt 255 i = decide (i < 8) := by decide +kernel
theorem byte_eq (a : Int32) {j : Nat} (hj : j < 4) : ((Int32.toUInt32 a >>> (Int32.toUInt32 (8 * nI j) &&& Int32.toUInt32 31)).toInt32) &&& 255 = byteS a j := by
  unfold byteS
  refine b_ext (fun i hi => ?_)
  rw [b_and, b_and, b_255 i hi, show (8 : Int32) * nI j = nI (8 * j) from by rw [show (8 : Int32) = nI 8 from rfl, pk_mul], b_ushr (8 * j) (by omega), b_sshr (8 * j) (by omega) _ hi]
  by_cases c : i < 8
  · rw [if_pos (by omega)]
  · rw [decide_eq_false c, Bool.and_false, Bool.and_false]
theorem byte_rg (a : Int32) (j : Nat) : rg (byteS a j) 0 255 := by
  obtain ⟨k, hk, e⟩ := pk_andE (a >>> ((8 * nI j) &&& 31)) (m := 255) 8 (by decide)
  exact ⟨k, by omega, by omega, e⟩
/-- k bytes of a behind T others -/
def fedS (B : Nat → Int32) (T : Nat) (a : Int32) (k : Nat) : Nat → Nat → Int32
  | 0 => B
  | m + 1 => upd (fedS B T a k m) (T + m) (byteS a (k - 1 - m))
theorem fedS_rg {B : Nat → Int32} {T : Nat} {a : Int32} {k : Nat} (hB : ∀ j, j < T → rg (B j) 0 255) : ∀ m j, j < T + m → rg (fedS B T a k m j) 0 255 := by
  intro m
  induction m with
  | zero => exact fun j hj => hB j hj
  | succ m ih =>
    intro j hj
    show rg (upd (fedS B T a k m) (T + m) (byteS a (k - 1 - m)) j) 0 255
    by_cases c : j = T + m
    · rw [c, up_s]
      exact byte_rg _ _
    · rw [up_n c]
      exact ih j (by omega)
theorem c_feedL {h : HI} {T k : Nat} {a : Int32} (eT : h 5 26 1 = nI T) (hk : 1 ≤ k) (hk4 : k ≤ 4) (hT : T + k ≤ 120) : ∃ h', loopN (SX9_feed_44 a) FU (nI (k - 1), h) = some h' ∧ (∀ g, g ≠ 5 → h' g = h g) ∧ h' 5 26 1 = nI (T + k) ∧ cut 120 (h' 5 27) = fedS (cut 120 (h 5 27)) T a k k := by
  refine gloop (f := SX9_feed_44 a) (fun i (s : Int32 × HI) => i ≤ k ∧ s.1 = nI (k - i) - 1 ∧ (∀ g, g ≠ 5 → s.2 g = h g) ∧ s.2 5 26 1 = nI (T + i) ∧ cut 120 (s.2 5 27) = fedS (cut 120 (h 5 27)) T a k i) _ k ?_ (k := FU) (by have := FU_lt; omega) (s0 := (nI (k - 1), h)) ⟨by omega, ?_, fun _ _ => rfl, eT, rfl⟩
  · rintro i ⟨q, h1⟩ hi ⟨-, rfl, i1, i2, i3⟩
    dsimp only at i1 i2 i3
    unfold SX9_feed_44
    try dsimp only
    by_cases z : i = k
    · subst z
      refine Or.inr ⟨h1, ?_, i1, i2, i3⟩
      rw [Nat.sub_self, if_pos (by decide)]
    · have e1 : nI (k - i) - 1 = nI (k - 1 - i) := by
        rw [show k - 1 - i = k - i - 1 by omega]
        exact pk_sub (b := 1) (by omega)
      rw [e1, if_neg (nI_nn (by omega)), byte_eq a (show k - 1 - i < 4 by omega)]
      unfold FX7_append
      rw [i2, if_neg (show ¬ 120 ≤ nI (T + i) from le_f (a := 120) (by omega) (by decide) (by omega)), gd_ix (show T + i < 120 by omega) (by decide), nC_n (show T + i < 2 ^ 31 by omega), nm_eq, nm_eq, hP1_at, if_neg (fun z => absurd z.2.1 (by decide)), i2, nI_1, Option.bind_some]
      refine Or.inl ⟨by omega, _, rfl, by omega, ?_, fun g e => ?_, (by dsimp only; exact hP1_s), ?_⟩
      · try dsimp only
        rw [show k - 1 - i = k - (i + 1) by omega]
        exact (Int32.sub_eq_add_neg _ _).symm
      · try dsimp only
        rw [hP1_g e, hP1_g e, i1 g e]
      · try dsimp only
        rw [hP1_k (by decide), hP1_c, cut_up (by omega), i3]
        rfl
  · try dsimp only
    rw [Nat.sub_zero]
    exact (pk_sub (b := 1) (by omega)).symm
theorem r_feedL {h : HI} {T k : Nat} {a : Int32} (eT : h 8 32 12 = nI T) (hk : 1 ≤ k) (hk4 : k ≤ 4) (hT : T + k ≤ 120) : ∃ h', loopN (SX10_feed_41 a) FU (nI (k - 1), h) = some h' ∧ (∀ g, g ≠ 8 → h' g = h g) ∧ (∀ j, j ≠ 32 → j ≠ 39 → h' 8 j = h 8 j) ∧ h' 8 32 4 = h 8 32 4 ∧ h' 8 32 12 = nI (T + k) ∧ cut 120 (h' 8 39) = fedS (cut 120 (h 8 39)) T a k k := by
  refine gloop (f := SX10_feed_41 a) (fun i (s : Int32 × HI) => i ≤ k ∧ s.1 = nI (k - i) - 1 ∧ (∀ g, g ≠ 8 → s.2 g = h g) ∧ (∀ j, j ≠ 32 → j ≠ 39 → s.2 8 j = h 8 j) ∧ s.2 8 32 4 = h 8 32 4 ∧ s.2 8 32 12 = nI (T + i) ∧ cut 120 (s.2 8 39) = fedS (cut 120 (h 8 39)) T a k i) _ k ?_ (k := FU) (by have := FU_lt; omega) (s0 := (nI (k - 1), h)) ⟨by omega, ?_, fun _ _ => rfl, fun _ _ _ => rfl, rfl, eT, rfl⟩
  · rintro i ⟨q, h1⟩ hi ⟨-, rfl, i1, i4, i5, i2, i3⟩
    dsimp only at i1 i2 i3 i4 i5
    unfold SX10_feed_41
    try dsimp only
    by_cases z : i = k
    · subst z
      refine Or.inr ⟨h1, ?_, i1, i4, i5, i2, i3⟩
      rw [Nat.sub_self, if_pos (by decide)]
    · have e1 : nI (k - i) - 1 = nI (k - 1 - i) := by
        rw [show k - 1 - i = k - i - 1 by omega]
        exact pk_sub (b := 1) (by omega)
      rw [e1, if_neg (nI_nn (by omega)), show (a >>> ((8 * nI (k - 1 - i)) &&& 31)) &&& 255 = byteS a (k - 1 - i) from rfl]
      rw [i2, gd_ix (show T + i < 120 by omega) (by decide), nC_n (show T + i < 2 ^ 31 by omega), nm_eq, nm_eq, hP1_at, if_neg (fun z => absurd z.2.1 (by decide)), i2, nI_1]
      refine Or.inl ⟨by omega, _, rfl, by omega, ?_, fun g e => ?_, fun j e1 e2 => ?_, ?_, (by dsimp only; exact hP1_s), ?_⟩
      · try dsimp only
        rw [show k - 1 - i = k - (i + 1) by omega]
        exact (Int32.sub_eq_add_neg _ _).symm
      · try dsimp only
        rw [hP1_g e, hP1_g e, i1 g e]
      · try dsimp only
        rw [hP1_k e1, hP1_k e2, i4 j e1 e2]
      · try dsimp only
        rw [hP1_at, if_neg (by decide), hP1_at, if_neg (fun z => absurd z.2.1 (by decide)), i5]
      · try dsimp only
        rw [hP1_k (by decide), hP1_c, cut_up (by omega), i3]
        rfl
  · try dsimp only
    rw [Nat.sub_zero]
    exact (pk_sub (b := 1) (by omega)).symm
theorem feed_ok (a b : Int32) : Ops (FX9_feed a b) (FX10_feed a b) := by
  refine Ops_two (fun h i => ?_)
  obtain ⟨T, t1, t2, t3⟩ := i.2.2.1
  have f4 : h 5 26 1 = nI T := t1
  have g4 : ∀ h', RV h' = CV h → h' 8 32 12 = nI T := fun h' e => (congrFun (congrFun e 4) 0).trans t1
  unfold FX9_feed FX10_feed
  refine Two.ask (f_within b 1 4) (fun h' e => f_in (a := 1) (b := 4) 1 4 rfl rfl) (fun _ => Two.bad i) (fun y => ?_)
  obtain ⟨k, k1, k2, rfl⟩ := wi_nat (a := 1) (b := 4) (by decide) y (by decide)
  by_cases z : T + k ≤ 120
  · obtain ⟨h1, q1, q2, q3, q4⟩ := c_feedL (a := a) f4 k1 k2 z
    refine ⟨nI (T + k), h1, tapeS (CV h) (nI (T + k)) (fedS (CV h 5) T a k k), ?_, c_tape q2 q3 q4, AI_tape i z (fedS_rg t3 k), fun h' e => ?_⟩
    · unfold FX7_hasRoom
      rw [f4, nI_add, if_neg (show ¬ 120 < nI (T + k) from lt_f (a := 120) (by omega) (by decide) (by omega)), Option.bind_some, if_neg (by decide), nm_eq, show nI k - 1 = nI (k - 1) from pk_sub (b := 1) (by omega), q1, Option.bind_some, q3]
    · obtain ⟨h2, u1, u2, u3, u4, u5, u6⟩ := r_feedL (a := a) (g4 h' e) k1 k2 z
      refine ⟨h2, ?_, ?_⟩
      · try dsimp only
        rw [g4 h' e, nI_add, if_pos (show nI (T + k) ≤ 120 from le_t (b := 120) z (by omega) (by decide)), nm_eq, show nI k - 1 = nI (k - 1) from pk_sub (b := 1) (by omega), u1, Option.bind_some, u5]
      · rw [← e]
        exact r_tape u2 u3 u4 u5 u6
  · refine Two.of (Two.full i) ?_ (fun h' e => ?_)
    · unfold FX7_hasRoom
      rw [f4, nI_add, if_pos (show 120 < nI (T + k) from lt_t (a := 120) (by omega) (by decide) (by omega)), Option.bind_some, if_pos rfl]
    · rw [g4 h' e, nI_add, if_neg (show ¬ nI (T + k) ≤ 120 from le_f (b := 120) z (by omega) (by decide))]
