-- the order: where a phrase stands, leaving it, joining it
theorem le_t {a b : Nat} (h : a ≤ b) (ha : a < 2 ^ 31) (hb : b < 2 ^ 31) : nI a ≤ nI b := (nI_leI ha hb).mpr h
theorem le_f {a b : Nat} (h : ¬ a ≤ b) (ha : a < 2 ^ 31) (hb : b < 2 ^ 31) : ¬ nI a ≤ nI b := fun z => h ((nI_leI ha hb).mp z)
theorem lt_t {a b : Nat} (h : a < b) (ha : a < 2 ^ 31) (hb : b < 2 ^ 31) : nI a < nI b := (nI_ltI ha hb).mpr h
theorem lt_f {a b : Nat} (h : ¬ a < b) (ha : a < 2 ^ 31) (hb : b < 2 ^ 31) : ¬ nI a < nI b := fun z => h ((nI_ltI ha hb).mp z)
def PlS (F : Nat → Int32) (l : Nat) (x r : Int32) : Prop := (∃ i, i < l ∧ od F i = x ∧ r = nI i) ∨ ((∀ i, i < l → ¬ od F i = x) ∧ r = -1)
theorem c_place {g : Nat} {h : HI} {F : Nat → Int32} {l : Nat} (x : Int32) (e : vw (h g) = F) (h5 : F 5 = nI l) (hl : l ≤ 12) : ∃ r, FX3_placeOf g x h = some r ∧ PlS F l x r := by
  have f5 := (bk0 e).2.2.2.2.2
  rw [h5] at f5
  have key : ∃ r, loopN (SX3_placeOf_2 g x h) FU 0 = some r ∧ PlS F l x r := by
    refine gloop (f := SX3_placeOf_2 g x h) (fun i (s : Int32) => s = nI i ∧ ∀ j, j < i → ¬ od F j = x) _ l ?_ (k := FU) (by have := FU_lt; omega) (s0 := 0) ⟨rfl, fun j hj => by omega⟩
    rintro i s hi ⟨rfl, i1⟩
    unfold SX3_placeOf_2
    dsimp only
    rw [f5]
    by_cases z : i = l
    · subst z
      refine Or.inr ⟨-1, by rw [if_pos (Int32.le_refl _)], Or.inr ⟨i1, rfl⟩⟩
    · rw [if_neg (le_f (by omega) (by omega) (by omega)), gd_ix (show i < 12 by omega) (by decide), nC_n (by omega)]
      have eo : h g 15 i = od F i := by rw [← e, vod (by omega)]
      rw [eo]
      by_cases c : od F i = x
      · exact Or.inr ⟨nI i, by rw [if_pos c], Or.inl ⟨i, by omega, c, rfl⟩⟩
      · refine Or.inl ⟨by omega, nI (i + 1), by rw [if_neg c, nI_1], rfl, fun j hj => ?_⟩
        by_cases y : j = i
        · rw [y]; exact c
        · exact i1 j (by omega)
  obtain ⟨r, k1, k2⟩ := key
  exact ⟨r, by unfold FX3_placeOf; rw [k1]; rfl, k2⟩
theorem i138 (i : Nat) : (138 : Int32) + nI i = nI (138 + i) := by rw [show (138 : Int32) = nI 138 from rfl, nI_add]
theorem r_place {h : HI} {F : Nat → Int32} {l : Nat} (x : Int32) (e : tk (h 8 33) = F) (h5 : F 5 = nI l) (hl : l ≤ 12) : ∃ r, FX10_placeOf x h = some r ∧ PlS F l x r := by
  have f5 : h 8 33 5 = nI l := (rk0 e (by decide)).trans h5
  have key : ∃ r, loopN (SX10_placeOf_4 x h) FU (-1, 0) = some r ∧ PlS F l x r := by
    refine gloop (f := SX10_placeOf_4 x h) (fun i (s : Int32 × Int32) => s.2 = nI i ∧ PlS F i x s.1) _ l ?_ (k := FU) (by have := FU_lt; omega) (s0 := (-1, 0)) ⟨rfl, Or.inr ⟨fun j hj => by omega, rfl⟩⟩
    rintro i ⟨a, s⟩ hi ⟨rfl, i1⟩
    dsimp only at i1
    unfold SX10_placeOf_4
    dsimp only
    rw [f5]
    by_cases z : i = l
    · subst z
      exact Or.inr ⟨a, by rw [if_pos (Int32.le_refl _)], i1⟩
    · have eo : h 8 33 (138 + i) = od F i := rk0 e (by omega)
      rw [if_neg (le_f (by omega) (by omega) (by omega)), i138, gd_ix (show 138 + i < 150 by omega) (by decide), nC_n (by omega), eo]
      refine Or.inl ⟨by omega, ?_⟩
      by_cases c : od F i = x
      · exact ⟨(nI i, nI (i + 1)), by rw [if_pos c, nI_1], rfl, Or.inl ⟨i, by omega, c, rfl⟩⟩
      · refine ⟨(a, nI (i + 1)), by rw [if_neg c, nI_1], rfl, ?_⟩
        rcases i1 with ⟨j, j1, j2, j3⟩ | ⟨j1, j2⟩
        · exact Or.inl ⟨j, by omega, j2, j3⟩
        · refine Or.inr ⟨fun j hj => ?_, j2⟩
          by_cases y : j = i
          · rw [y]; exact c
          · exact j1 j (by omega)
  obtain ⟨r, k1, k2⟩ := key
  exact ⟨r, by unfold FX10_placeOf; rw [k1]; rfl, k2⟩
/-- the book without the order's place i, k steps in -/
def dropK (F : Nat → Int32) (i l k : Nat) : Nat → Int32 := fun x => if x = 5 then nI (l - 1) else if 138 + i ≤ x ∧ x < 138 + i + k then F (x + 1) else F x
theorem dropK_0 (F : Nat → Int32) (i l : Nat) : dropK F i l 0 = upd F 5 (nI (l - 1)) := by
  funext x
  unfold dropK
  by_cases e : x = 5
  · rw [if_pos e, e, up_s]
  · rw [if_neg e, if_neg (by omega), up_n e]
theorem dropK_s (F : Nat → Int32) (i l k : Nat) : upd (dropK F i l k) (138 + (i + k)) (dropK F i l k (138 + (i + k) + 1)) = dropK F i l (k + 1) := by
  funext x
  by_cases e : x = 138 + (i + k)
  · subst e
    rw [up_s]
    unfold dropK
    rw [if_neg (by omega), if_neg (by omega), if_neg (by omega), if_pos (by omega)]
  · rw [up_n e]
    unfold dropK
    by_cases a : x = 5
    · rw [if_pos a, if_pos a]
    · rw [if_neg a, if_neg a]
      by_cases b : 138 + i ≤ x ∧ x < 138 + i + k
      · rw [if_pos b, if_pos (by omega)]
      · rw [if_neg b, if_neg (by omega)]
def dropS (F : Nat → Int32) (i l : Nat) : Nat → Int32 := dropK F i l (l - 1 - i)
theorem dropK_5 (F : Nat → Int32) (i l k : Nat) : dropK F i l k 5 = nI (l - 1) := if_pos rfl
theorem c_dropL {g : Nat} {h h' : HI} {a : Int32} {F : Nat → Int32} {i l : Nat} (e : BkTo h g (dropK F i l 0) h') (hi : i < l) (hl : l ≤ 12) : ∃ h2, loopN (SX3_drop_22 g a) FU (nI i, h') = some h2 ∧ BkTo h g (dropS F i l) h2 := by
  refine gloop (f := SX3_drop_22 g a) (fun k (s : Int32 × HI) => s.1 = nI (i + k) ∧ BkTo h g (dropK F i l k) s.2) _ (l - 1 - i) ?_ (k := FU) (by have := FU_lt; omega) (s0 := (nI i, h')) ⟨rfl, e⟩
  rintro k ⟨q, h1⟩ hk ⟨rfl, i1⟩
  dsimp only at i1
  have f5 := (bk0 i1.at).2.2.2.2.2
  rw [dropK_5] at f5
  unfold SX3_drop_22
  dsimp only
  rw [f5]
  by_cases z : k = l - 1 - i
  · refine Or.inr ⟨h1, by rw [if_pos (le_t (by omega) (by omega) (by omega))], ?_⟩
    rw [z] at i1
    exact i1
  · have eo : h1 g 15 (i + k + 1) = dropK F i l k (138 + (i + k) + 1) := by
      have := vw_o (u := h1 g) (show i + k + 1 < 12 by omega)
      rw [← this, i1.at]
      rfl
    have b2 := bk_o (h := h1) (g := g) (p := i + k) (x := dropK F i l k (138 + (i + k) + 1)) (by omega)
    rw [i1.at, dropK_s] at b2
    refine Or.inl ⟨by omega, (nI (i + k + 1), hP1 h1 g 15 (i + k) (dropK F i l k (138 + (i + k) + 1))), ?_, rfl, i1.tr b2⟩
    rw [if_neg (le_f (by omega) (by omega) (by omega)), nI_1, gd_ix (show i + k + 1 < 12 by omega) (by decide), gd_ix (show i + k < 12 by omega) (by decide), nm_eq, nC_n (by omega), nC_n (by omega), eo]
theorem c_drop {g : Nat} {h : HI} {F : Nat → Int32} {l : Nat} {x r : Int32} (e : vw (h g) = F) (h5 : F 5 = nI l) (hl : l ≤ 12) (hr : FX3_placeOf g x h = some r) (i : Nat) (hi : i < l) (ei : r = nI i) : ∃ h', FX3_drop g x h = some (r, h') ∧ BkTo h g (dropS F i l) h' := by
  have b6 := bk_6 (h := h) (g := g) (m := 5) (x := nI (l - 1)) (by decide)
  rw [e, ← dropK_0 F i l] at b6
  obtain ⟨h2, l1, l2⟩ := c_dropL (a := r) b6 hi hl
  refine ⟨h2, ?_, l2⟩
  have f5 := (bk0 e).2.2.2.2.2
  rw [h5] at f5
  unfold FX3_drop
  rw [hr, Option.bind_some, if_neg (by rw [ei]; exact nI_nn (by omega)), nm_eq, f5, show nI l - 1 = nI (l - 1) from pk_sub (b := 1) (by omega), ei]
  rw [ei] at l1
  exact congrArg (fun o => Option.bind o fun h4 => some (nI i, h4)) l1
theorem r_leaves {h : HI} {F : Nat → Int32} {l : Nat} (e : tk (h 8 33) = F) (h5 : F 5 = nI l) (hl : l ≤ 12) (i : Nat) (hi : i < l) : ∃ h', FX10_leaves (nI i) h = some h' ∧ RkTo h (dropS F i l) h' := by
  have b6 := rk_u (h := h) (i := 5) (x := nI (l - 1)) (by decide)
  rw [e, ← dropK_0 F i l] at b6
  have key : ∃ h2, loopN (SX10_leaves_12) FU (nI i, hP1 h 8 33 5 (nI (l - 1))) = some h2 ∧ RkTo h (dropS F i l) h2 := by
    refine gloop (f := SX10_leaves_12) (fun k (s : Int32 × HI) => s.1 = nI (i + k) ∧ RkTo h (dropK F i l k) s.2) _ (l - 1 - i) ?_ (k := FU) (by have := FU_lt; omega) (s0 := (nI i, hP1 h 8 33 5 (nI (l - 1)))) ⟨rfl, b6⟩
    rintro k ⟨q, h1⟩ hk ⟨rfl, i1⟩
    dsimp only at i1
    have f5 : h1 8 33 5 = nI (l - 1) := (rk0 i1.at (by decide)).trans (dropK_5 F i l k)
    unfold SX10_leaves_12
    dsimp only
    rw [f5]
    by_cases z : k = l - 1 - i
    · refine Or.inr ⟨h1, by rw [if_pos (le_t (by omega) (by omega) (by omega))], ?_⟩
      rw [z] at i1
      exact i1
    · have eo : h1 8 33 (138 + (i + k) + 1) = dropK F i l k (138 + (i + k) + 1) := rk0 i1.at (by omega)
      have b2 := rk_u (h := h1) (i := 138 + (i + k)) (x := dropK F i l k (138 + (i + k) + 1)) (by omega)
      rw [i1.at, dropK_s] at b2
      refine Or.inl ⟨by omega, (nI (i + k + 1), hP1 h1 8 33 (138 + (i + k)) (dropK F i l k (138 + (i + k) + 1))), ?_, rfl, i1.tr b2⟩
      rw [if_neg (le_f (by omega) (by omega) (by omega)), i138, nI_1, nI_1, gd_ix (show 138 + (i + k) + 1 < 150 by omega) (by decide), gd_ix (show 138 + (i + k) < 150 by omega) (by decide), nm_eq, nC_n (by omega), nC_n (by omega), eo]
  obtain ⟨h2, l1, l2⟩ := key
  refine ⟨h2, ?_, l2⟩
  have f5 : h 8 33 5 = nI l := (rk0 e (by decide)).trans h5
  unfold FX10_leaves
  rw [nm_eq, f5, show nI l - 1 = nI (l - 1) from pk_sub (b := 1) (by omega), l1]
  rfl
/-- it joins the order -/
def addS (F : Nat → Int32) (l : Nat) (x : Int32) : Nat → Int32 := upd (upd F (138 + l) x) 5 (nI (l + 1))
theorem c_append {g : Nat} {h : HI} {F : Nat → Int32} {l : Nat} {x : Int32} (e : vw (h g) = F) (h5 : F 5 = nI l) (hl : l < 12) (hx : ∀ i, i < l → ¬ od F i = x) : ∃ h', FX3_append g x h = some h' ∧ BkTo h g (addS F l x) h' := by
  have f5 := (bk0 e).2.2.2.2.2
  rw [h5] at f5
  have b1 := bk_o (h := h) (g := g) (p := l) (x := x) hl
  rw [e] at b1
  have b2 := bk_6 (h := hP1 h g 15 l x) (g := g) (m := 5) (x := nI (l + 1)) (by decide)
  rw [b1.at] at b2
  refine ⟨_, ?_, b1.tr b2⟩
  obtain ⟨r, p1, p2⟩ := c_place x e h5 (by omega)
  have er : r = -1 := by
    rcases p2 with ⟨i, i1, i2, -⟩ | ⟨-, i2⟩
    · exact absurd i2 (hx i i1)
    · exact i2
  have f6 : hP1 h g 15 l x g 14 1 = nI l := by
    have := (bk0 b1.at).2.2.2.2.2
    rw [this, up_n (by omega), h5]
  unfold FX3_append
  rw [f5, if_neg (by rw [show (12 : Int32) = nI 12 from rfl, nI_le12 (by omega) (by omega)]; omega), p1, Option.bind_some, er, if_neg (by decide), gd_ix hl (by decide), nC_n (by omega), nm_eq, nm_eq, f6, nI_1]
  rfl
theorem r_append {h : HI} {F : Nat → Int32} {l : Nat} {x : Int32} (e : tk (h 8 33) = F) (h5 : F 5 = nI l) (hl : l < 12) : ∃ h', JX10_queue_30 x h = some (nI (l + 1), h') ∧ RkTo h (addS F l x) h' := by
  have f5 : h 8 33 5 = nI l := (rk0 e (by decide)).trans h5
  have b1 := rk_u (h := h) (i := 138 + l) (x := x) (by omega)
  rw [e] at b1
  have b2 := rk_u (h := hP1 h 8 33 (138 + l) x) (i := 5) (x := nI (l + 1)) (by decide)
  rw [b1.at] at b2
  refine ⟨_, ?_, b1.tr b2⟩
  have f6 : hP1 h 8 33 (138 + l) x 8 33 5 = nI l := by
    rw [rk0 b1.at (by decide), up_n (by omega), h5]
  have f7 := (rk0 (b1.tr b2).at (show 5 < 150 by decide))
  rw [up_s] at f7
  unfold JX10_queue_30
  rw [f5, i138, gd_ix (show 138 + l < 150 by omega) (by decide), nC_n (by omega), nm_eq, nm_eq, f6, nI_1, f7]
theorem pigeon : ∀ (n l : Nat) (f : Nat → Nat), (∀ i, i < l → f i < n) → (∀ i j, i < l → j < l → f i = f j → i = j) → l ≤ n := by
  intro n
  induction n with
  | zero =>
    intro l f h1 _
    cases l with
    | zero => exact Nat.le_refl 0
    | succ l => exact absurd (h1 0 (by omega)) (by omega)
  | succ n ih =>
    intro l f h1 h2
    by_cases c : ∃ i, i < l ∧ f i = n
    · obtain ⟨i, hi, ei⟩ := c
      have := ih (l - 1) (fun j => if j = i then f (l - 1) else f j) (fun j hj => by
        show (if j = i then f (l - 1) else f j) < n
        by_cases e : j = i
        · rw [if_pos e]
          have a := h1 (l - 1) (by omega)
          have b : f (l - 1) ≠ n := fun z => by
            have := h2 (l - 1) i (by omega) hi (z.trans ei.symm)
            omega
          omega
        · rw [if_neg e]
          have a := h1 j (by omega)
          have b : f j ≠ n := fun z => e (h2 j i (by omega) hi (z.trans ei.symm))
          omega) (fun j k hj hk e => by
        try dsimp only at e
        by_cases a : j = i
        · by_cases b : k = i
          · omega
          · rw [if_pos a, if_neg b] at e
            have := h2 _ _ (by omega) (by omega) e
            omega
        · by_cases b : k = i
          · rw [if_neg a, if_pos b] at e
            have := h2 _ _ (by omega) (by omega) e
            omega
          · rw [if_neg a, if_neg b] at e
            exact h2 _ _ (by omega) (by omega) e)
      omega
    · have := ih l f (fun i hi => by
        have a := h1 i hi
        have b : f i ≠ n := fun z => c ⟨i, hi, z⟩
        omega) h2
      omega
theorem OI_room {F : Nat → Int32} {n l p : Nat} (o : OI F n l) (hn : n ≤ 12) (hp : p < n) (hx : ∀ i, i < l → ¬ od F i = nI p) : l < n := by
  obtain ⟨o1, o2, o3, o4⟩ := o
  have := pigeon n (l + 1) (fun i => if i < l then nC (od F i) else p) (fun i hi => by
    show (if i < l then nC (od F i) else p) < n
    split
    · next c =>
      obtain ⟨q, hq, eq⟩ := o3 i c
      rw [eq, nC_n (by omega)]
      exact hq
    · exact hp) (fun i j hi hj e => by
    try dsimp only at e
    by_cases a : i < l
    · by_cases b : j < l
      · rw [if_pos a, if_pos b] at e
        obtain ⟨q, hq, eq⟩ := o3 i a
        obtain ⟨q', hq', eq'⟩ := o3 j b
        rw [eq, eq', nC_n (by omega), nC_n (by omega)] at e
        exact o4 i j a b (by rw [eq, eq', e])
      · rw [if_pos a, if_neg b] at e
        obtain ⟨q, hq, eq⟩ := o3 i a
        rw [eq, nC_n (by omega)] at e
        exact absurd (by rw [eq, e]) (hx i a)
    · by_cases b : j < l
      · rw [if_neg a, if_pos b] at e
        obtain ⟨q, hq, eq⟩ := o3 j b
        rw [eq, nC_n (by omega)] at e
        exact absurd (by rw [eq, e]) (hx j b)
      · omega)
  omega
theorem Pl_eq {F : Nat → Int32} {n l : Nat} {x r s : Int32} (o : OI F n l) (a : PlS F l x r) (b : PlS F l x s) : r = s := by
  rcases a with ⟨i, i1, i2, i3⟩ | ⟨i1, i2⟩
  · rcases b with ⟨j, j1, j2, j3⟩ | ⟨j1, j2⟩
    · rw [i3, j3, o.2.2.2 i j i1 j1 (i2.trans j2.symm)]
    · exact absurd i2 (j1 i i1)
  · rcases b with ⟨j, j1, j2, j3⟩ | ⟨j1, j2⟩
    · exact absurd j2 (i1 j j1)
    · rw [i2, j2]
theorem Sim.of {F G : Nat → Int32} (h : ∀ x, x < 138 → ¬ x = 5 → G x = F x) : Sim F G := ⟨fun i hi => h i (by omega) (by omega), fun p a hp ha => h _ (by omega) (by omega), fun p a hp ha => h _ (by omega) (by omega)⟩
theorem BP.of {F G : Nat → Int32} {n nw : Nat} (b : BP F n nw) (h : ∀ x, x < 138 → ¬ x = 5 → G x = F x) : BP G n nw := (Sim.of h).bp b (fun p hp => by
  have hn := b.2.1
  have := (b.2.2.2.2.1 p hp).2.2.2.2
  unfold hd at this ⊢
  rw [h _ (by omega) (by omega)]
  exact this)
theorem dropS_low {F : Nat → Int32} {i l : Nat} : ∀ x, x < 138 → ¬ x = 5 → dropS F i l x = F x := fun x h1 h2 => by
  unfold dropS dropK
  rw [if_neg h2, if_neg (by omega)]
theorem dropS_od {F : Nat → Int32} {i l j : Nat} : od (dropS F i l) j = if i ≤ j ∧ j < l - 1 then od F (j + 1) else od F j := by
  unfold od dropS dropK
  rw [if_neg (by omega)]
  by_cases c : i ≤ j ∧ j < l - 1
  · rw [if_pos (by omega), if_pos c, Nat.add_assoc]
  · rw [if_neg (by omega), if_neg c]
theorem dropS_OI {F : Nat → Int32} {n i l : Nat} (o : OI F n l) (hi : i < l) : OI (dropS F i l) n (l - 1) ∧ ∀ j, j < l - 1 → ¬ od (dropS F i l) j = od F i := by
  obtain ⟨o1, o2, o3, o4⟩ := o
  refine ⟨⟨dropK_5 F i l _, by omega, fun j hj => ?_, fun j k hj hk e => ?_⟩, fun j hj e => ?_⟩
  · rw [dropS_od]
    split
    · exact o3 _ (by omega)
    · exact o3 _ (by omega)
  · rw [dropS_od, dropS_od] at e
    by_cases a : i ≤ j ∧ j < l - 1
    · by_cases b : i ≤ k ∧ k < l - 1
      · rw [if_pos a, if_pos b] at e
        have := o4 _ _ (by omega) (by omega) e
        omega
      · rw [if_pos a, if_neg b] at e
        have := o4 _ _ (by omega) (by omega) e
        omega
    · by_cases b : i ≤ k ∧ k < l - 1
      · rw [if_neg a, if_pos b] at e
        have := o4 _ _ (by omega) (by omega) e
        omega
      · rw [if_neg a, if_neg b] at e
        exact o4 _ _ (by omega) (by omega) e
  · rw [dropS_od] at e
    by_cases a : i ≤ j ∧ j < l - 1
    · rw [if_pos a] at e
      have := o4 _ _ (by omega) hi e
      omega
    · rw [if_neg a] at e
      have := o4 _ _ (by omega) hi e
      omega
theorem addS_low {F : Nat → Int32} {l : Nat} {x : Int32} : ∀ y, y < 138 → ¬ y = 5 → addS F l x y = F y := fun y h1 h2 => by
  unfold addS
  rw [up_n h2, up_n (by omega)]
theorem addS_OI {F : Nat → Int32} {n l p : Nat} (o : OI F n l) (hl : l < n) (hp : p < n) (hx : ∀ i, i < l → ¬ od F i = nI p) : OI (addS F l (nI p)) n (l + 1) := by
  obtain ⟨o1, o2, o3, o4⟩ := o
  have a1 : ∀ j, j < l → od (addS F l (nI p)) j = od F j := fun j hj => by unfold od addS; rw [up_n (by omega), up_n (by omega)]
  have a2 : od (addS F l (nI p)) l = nI p := by unfold od addS; rw [up_n (by omega), up_s]
  refine ⟨up_s, hl, fun j hj => ?_, fun j k hj hk e => ?_⟩
  · by_cases c : j = l
    · rw [c, a2]; exact ⟨p, hp, rfl⟩
    · rw [a1 j (by omega)]; exact o3 j (by omega)
  · by_cases c : j = l
    · by_cases d : k = l
      · omega
      · rw [c, a2, a1 k (by omega)] at e
        exact absurd e.symm (hx k (by omega))
    · by_cases d : k = l
      · rw [d, a2, a1 j (by omega)] at e
        exact absurd e (hx j (by omega))
      · rw [a1 j (by omega), a1 k (by omega)] at e
        exact o4 j k (by omega) (by omega) e
