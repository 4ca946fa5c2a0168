-- the fewest minutes; what brings most; what is missed least
def fewF (F : Nat → Int32) (n nw : Nat) (v : Int32) (i : Nat) (x : Int32) : Int32 := if x < 0 ∨ ¬ x ≤ minS F n (nI i) then (if valueS F n nw (nI i) < v then x else minS F n (nI i)) else x
def fewS (F : Nat → Int32) (n nw : Nat) (v : Int32) (k : Nat) : Int32 := foldN (fewF F n nw v) k (-1)
theorem c_few {F : Nat → Int32} {n nw : Nat} {h : HI} {v : Int32} (c : CH F n nw h) (hn2 : n ≤ 12) (hw2 : nw ≤ 12) : ∃ h', FX1_fewestMinutes v h = some (fewS F n nw v (2 ^ n), h') ∧ (∀ g, g ≠ 4 → h' g = h g) ∧ CH F n nw h' := by
  have h2n := p2_le hn2
  have key : ∃ r, loopN (SX1_fewestMinutes_4 v) FU (-1, 0, h) = some r ∧ (fun r : Int32 × HI => r.1 = fewS F n nw v (2 ^ n) ∧ (∀ g, g ≠ 4 → r.2 g = h g) ∧ CH F n nw r.2) r := by
    refine gloop (f := SX1_fewestMinutes_4 v) (fun i (s : Int32 × Int32 × HI) => s.1 = fewS F n nw v i ∧ s.2.1 = nI i ∧ (∀ g, g ≠ 4 → s.2.2 g = h g) ∧ CH F n nw s.2.2) _ (2 ^ n) ?_ (k := FU) (by have := FU_lt; omega) (s0 := (-1, 0, h)) ⟨rfl, rfl, fun _ _ => rfl, c⟩
    rintro i ⟨a, b, h2⟩ hi ⟨rfl, rfl, i1, i2⟩
    dsimp only at i1 i2
    by_cases z : i = 2 ^ n
    · refine Or.inr ⟨(fewS F n nw v i, h2), ?_, by rw [z], i1, i2⟩
      simp only [SX1_fewestMinutes_4, i2.1, p2 hn2, nI_leI (show 2 ^ n < 2 ^ 31 by omega) (show i < 2 ^ 31 by omega)]
      rw [if_pos (by omega)]
    · refine Or.inl ⟨by omega, ?_⟩
      obtain ⟨h3, f1, f2, f3⟩ := c_value (set := nI i) i2 hn2 hw2
      have es : fewS F n nw v (i + 1) = fewF F n nw v i (fewS F n nw v i) := rfl
      have fr : ∀ g, g ≠ 4 → h3 g = h g := fun g hg => by rw [f2 g hg]; exact i1 g hg
      simp only [SX1_fewestMinutes_4, JX1_fewestMinutes_31, i2.1, p2 hn2, nI_leI (show 2 ^ n < 2 ^ 31 by omega) (show i < 2 ^ 31 by omega), c_minutes i2 hn2, Option.bind_some, f1, nI_1, es, fewF]
      rw [if_neg (by omega)]
      by_cases c1 : fewS F n nw v i < 0
      · by_cases c3 : valueS F n nw (nI i) < v
        · simp only [c1, c3, if_true, true_or]; exact ⟨_, rfl, rfl, rfl, fr, f3⟩
        · simp only [c1, c3, if_true, if_false, true_or]; exact ⟨_, rfl, rfl, rfl, fr, f3⟩
      · by_cases c2 : fewS F n nw v i ≤ minS F n (nI i)
        · simp only [c1, c2, if_true, if_false, not_true, or_false]; exact ⟨_, rfl, rfl, rfl, i1, i2⟩
        · by_cases c3 : valueS F n nw (nI i) < v
          · simp only [c1, c2, c3, if_true, if_false, not_false_eq_true, or_true]; exact ⟨_, rfl, rfl, rfl, fr, f3⟩
          · simp only [c1, c2, c3, if_true, if_false, not_false_eq_true, or_true]; exact ⟨_, rfl, rfl, rfl, fr, f3⟩
  obtain ⟨⟨x, h'⟩, k1, k2, k3, k4⟩ := key
  dsimp only at k2 k3 k4
  subst k2
  refine ⟨h', ?_, k3, k4⟩
  simp only [FX1_fewestMinutes, k1, Option.bind_some]
theorem r_few {h : HI} {n nw : Nat} {v : Int32} (hn : h 8 33 0 = nI n) (hn2 : n ≤ 12) (hw : h 8 33 1 = nI nw) (hw2 : nw ≤ 12) (ho : ∀ w, w < nw → rg (wo (tk (h 8 33)) w) 0 99) : loopN (SX10_minutesFor_15 v h) FU (-1, 0) = some (fewS (tk (h 8 33)) n nw v (2 ^ n)) := by
  have h2n := p2_le hn2
  refine for_loop (f := SX10_minutesFor_15 v h) (fun i => (fewS (tk (h 8 33)) n nw v i, nI i)) (2 ^ n) _ ?_ ?_ FU (by have := FU_lt; omega)
  · intro i hi
    have es : fewS (tk (h 8 33)) n nw v (i + 1) = fewF (tk (h 8 33)) n nw v i (fewS (tk (h 8 33)) n nw v i) := rfl
    simp only [SX10_minutesFor_15, JX10_minutesFor_44, hn, p2 hn2, nI_leI (show 2 ^ n < 2 ^ 31 by omega) (show i < 2 ^ 31 by omega), r_minutes hn hn2, r_value hn hn2 hw hw2 ho, Option.bind_some, nI_1, es, fewF]
    rw [if_neg (by omega)]
    by_cases c1 : fewS (tk (h 8 33)) n nw v i < 0
    · by_cases c3 : valueS (tk (h 8 33)) n nw (nI i) < v
      · simp only [c1, c3, if_true, true_or]
      · simp only [c1, c3, if_true, if_false, true_or]
    · by_cases c2 : fewS (tk (h 8 33)) n nw v i ≤ minS (tk (h 8 33)) n (nI i)
      · simp only [c1, c2, if_true, if_false, not_true, or_false]
      · by_cases c3 : valueS (tk (h 8 33)) n nw (nI i) < v
        · simp only [c1, c2, c3, if_true, if_false, not_false_eq_true, or_true]
        · simp only [c1, c2, c3, if_true, if_false, not_false_eq_true, or_true]
  · simp only [SX10_minutesFor_15, hn, p2 hn2, Int32.le_refl, if_true]
-- what brings most: (found, value); those of at most lim minutes; few: fewest minutes of several
def mostF (F : Nat → Int32) (n nw : Nat) (set lim : Int32) (few : Bool) (p : Nat) (x : Int32 × Int32) : Int32 × Int32 :=
  if bs set p = true ∨ lim < mi F p then x else if x.2 < valueS F n nw (set ||| ((1 : Int32) <<< (nI p &&& 31))) ∨ few = true ∧ ¬ x.1 < 0 ∧ valueS F n nw (set ||| ((1 : Int32) <<< (nI p &&& 31))) = x.2 ∧ ¬ mi F (nC x.1) ≤ mi F p then (nI p, valueS F n nw (set ||| ((1 : Int32) <<< (nI p &&& 31)))) else x
def mostS (F : Nat → Int32) (n nw : Nat) (set lim : Int32) (few : Bool) (k : Nat) : Int32 × Int32 := foldN (mostF F n nw set lim few) k (-1, valueS F n nw set)
theorem mostS_inv {F : Nat → Int32} {n nw : Nat} {set lim : Int32} {few : Bool} (hV : ∀ s, rg (valueS F n nw s) 0 1188) (k : Nat) : rg (mostS F n nw set lim few k).2 0 1188 ∧ ((mostS F n nw set lim few k).1 = -1 ∨ ∃ p, p < k ∧ (mostS F n nw set lim few k).1 = nI p ∧ bs set p = false ∧ ¬ lim < mi F p) := by
  unfold mostS
  refine foldN_inv (fun i (x : Int32 × Int32) => rg x.2 0 1188 ∧ (x.1 = -1 ∨ ∃ p, p < i ∧ x.1 = nI p ∧ bs set p = false ∧ ¬ lim < mi F p)) ⟨hV set, Or.inl rfl⟩ (fun i x hi hx => ?_)
  have keep : rg x.2 0 1188 ∧ (x.1 = -1 ∨ ∃ p, p < i + 1 ∧ x.1 = nI p ∧ bs set p = false ∧ ¬ lim < mi F p) := by
    refine ⟨hx.1, ?_⟩
    rcases hx.2 with z | ⟨p, z1, z2⟩
    · exact Or.inl z
    · exact Or.inr ⟨p, by omega, z2⟩
  unfold mostF
  split
  · exact keep
  · next c =>
    split
    · exact ⟨hV _, Or.inr ⟨i, by omega, rfl, by simpa using (fun z => c (Or.inl z)), fun z => c (Or.inr z)⟩⟩
    · exact keep
theorem c_step {F : Nat → Int32} {n nw : Nat} {h : HI} {set lim : Int32} (c : CH F n nw h) (hn2 : n ≤ 12) (hw2 : nw ≤ 12) (hV : ∀ s, rg (valueS F n nw s) 0 1188) : ∃ h', FX1_greedyStep set lim h = some ((mostS F n nw set lim true n).1, h') ∧ (∀ g, g ≠ 4 → h' g = h g) ∧ CH F n nw h' := by
  obtain ⟨h1, e1, e2, e3⟩ := c_value (set := set) c hn2 hw2
  have key : ∃ r, loopN (SX1_greedyStep_12 set lim) FU (valueS F n nw set, -1, 0, h1) = some r ∧ (fun r : Int32 × HI => r.1 = (mostS F n nw set lim true n).1 ∧ (∀ g, g ≠ 4 → r.2 g = h g) ∧ CH F n nw r.2) r := by
    refine gloop (f := SX1_greedyStep_12 set lim) (fun i (s : Int32 × Int32 × Int32 × HI) => (s.2.1, s.1) = mostS F n nw set lim true i ∧ s.2.2.1 = nI i ∧ (∀ g, g ≠ 4 → s.2.2.2 g = h g) ∧ CH F n nw s.2.2.2) _ n ?_ (k := FU) (by have := FU_lt; omega) (s0 := (valueS F n nw set, -1, 0, h1)) ⟨rfl, rfl, e2, e3⟩
    rintro i ⟨t, f, b, h2⟩ hi ⟨i0, rfl, i1, i2⟩
    dsimp only at i0 i1 i2
    by_cases z : i = n
    · refine Or.inr ⟨(f, h2), ?_, by rw [z] at i0; rw [← i0], i1, i2⟩
      simp only [SX1_greedyStep_12, i2.1, z, Int32.le_refl, if_true]
    · refine Or.inl ⟨by omega, ?_⟩
      obtain ⟨h3, f1, f2, f3⟩ := c_value (set := set ||| ((1 : Int32) <<< (nI i &&& 31))) i2 hn2 hw2
      have es : mostS F n nw set lim true (i + 1) = mostF F n nw set lim true i (f, t) := by rw [i0]; rfl
      have fr : ∀ g, g ≠ 4 → h3 g = h g := fun g hg => by rw [f2 g hg]; exact i1 g hg
      have inv := (mostS_inv (F := F) (set := set) (lim := lim) (few := true) hV i).2
      rw [← i0] at inv
      simp only [SX1_greedyStep_12, JX1_greedyStep_85, JX1_greedyStep_86, i2.1, nI_le12 hn2 (show i ≤ 12 by omega), f_isIn, Option.bind_some, bI_if, gd_ix (show i < 12 by omega) (by decide), nC_n (show i < 2 ^ 31 by omega), i2.2.2.1 i (by omega), f1, nI_1, es, mostF, f3.2.2.1 i (by omega)]
      rw [if_neg (by omega)]
      cases hb : bs set i with
      | true =>
        simp only [if_true, true_or]
        exact ⟨_, rfl, rfl, rfl, i1, i2⟩
      | false =>
        simp only [if_false, Bool.false_eq_true, false_or]
        by_cases c1 : lim < mi F i
        · simp only [c1, if_true]
          exact ⟨_, rfl, rfl, rfl, i1, i2⟩
        · simp only [c1, if_false]
          generalize valueS F n nw (set ||| ((1 : Int32) <<< (nI i &&& 31))) = V
          by_cases c2 : t < V
          · have hne : ¬ V = t := fun z => by rw [z] at c2; exact Int32.lt_irrefl c2
            simp only [c2, hne, if_true, if_false, true_or, ite_self]
            exact ⟨_, rfl, rfl, rfl, fr, f3⟩
          · rcases inv with z1 | ⟨p, z1, z2, -, -⟩
            · dsimp only at z1
              subst z1
              simp only [c2, show ((-1 : Int32) < 0) = True from eq_true (by decide), if_true, if_false, not_true, false_and, and_false, or_false]
              exact ⟨_, rfl, rfl, rfl, fr, f3⟩
            · dsimp only at z2
              subst z2
              have nn : ¬ nI p < 0 := nI_pos (by omega)
              by_cases c3 : V = t
              · simp only [c2, nn, c3, if_true, if_false, gd_ix (show p < 12 by omega) (by decide), nC_n (show p < 2 ^ 31 by omega), f3.2.2.1 p (by omega), not_false_eq_true, true_and, Int32.lt_irrefl, false_or]
                by_cases c4 : mi F p ≤ mi F i
                · simp only [c4, if_true, not_true, if_false]
                  exact ⟨_, rfl, rfl, rfl, fr, f3⟩
                · simp only [c4, if_false, not_false_eq_true, if_true, show ((1 : Int32) = 0) = False from eq_false (by decide)]
                  exact ⟨_, rfl, rfl, rfl, fr, f3⟩
              · simp only [c2, nn, c3, if_true, if_false, false_and, and_false, or_false]
                exact ⟨_, rfl, rfl, rfl, fr, f3⟩
  obtain ⟨⟨x, h'⟩, k1, k2, k3, k4⟩ := key
  dsimp only at k2 k3 k4
  subst k2
  refine ⟨h', ?_, k3, k4⟩
  simp only [FX1_greedyStep, e1, Option.bind_some, k1]
theorem sub_lt {x y c : Int32} (hx : rg x 0 1188) (hy : rg y 0 1188) (hc : rg c 0 1188) : x - c < y - c ↔ x < y := by
  obtain ⟨a, -, ha, rfl⟩ := hx
  obtain ⟨b, -, hb, rfl⟩ := hy
  obtain ⟨d, -, hd, rfl⟩ := hc
  rw [Int32.lt_iff_toInt_lt, pk_sub_toInt (by omega) (by omega), pk_sub_toInt (by omega) (by omega), nI_ltI (by omega) (by omega)]
  omega
theorem sub_eq {x y c : Int32} (hx : rg x 0 1188) (hy : rg y 0 1188) (hc : rg c 0 1188) : x - c = y - c ↔ x = y := by
  constructor
  · intro h
    obtain ⟨a, -, ha, rfl⟩ := hx
    obtain ⟨b, -, hb, rfl⟩ := hy
    obtain ⟨d, -, hd, rfl⟩ := hc
    have := congrArg Int32.toInt h
    rw [pk_sub_toInt (by omega) (by omega), pk_sub_toInt (by omega) (by omega)] at this
    rw [nI_eq (by omega) (by omega)]
    omega
  · intro h
    rw [h]
theorem r_most {h : HI} {n nw : Nat} {set lim : Int32} {few : Bool} (hn : h 8 33 0 = nI n) (hn2 : n ≤ 12) (hw : h 8 33 1 = nI nw) (hw2 : nw ≤ 12) (ho : ∀ w, w < nw → rg (wo (tk (h 8 33)) w) 0 99) (hV : ∀ s, rg (valueS (tk (h 8 33)) n nw s) 0 1188) : FX10_most set lim (bI few) h = some (mostS (tk (h 8 33)) n nw set lim few n).1 := by
  simp only [FX10_most, r_value hn hn2 hw hw2 ho, Option.bind_some]
  have e := for_loop (f := SX10_most_16 set lim (bI few) (valueS (tk (h 8 33)) n nw set) h) (fun i => ((mostS (tk (h 8 33)) n nw set lim few i).1, (mostS (tk (h 8 33)) n nw set lim few i).2 - valueS (tk (h 8 33)) n nw set, nI i)) n (mostS (tk (h 8 33)) n nw set lim few n).1 ?_ ?_ FU (by have := FU_lt; omega)
  · have e0 : ((-1 : Int32), (0 : Int32), (0 : Int32)) = ((mostS (tk (h 8 33)) n nw set lim few 0).1, (mostS (tk (h 8 33)) n nw set lim few 0).2 - valueS (tk (h 8 33)) n nw set, nI 0) := by
      show _ = ((-1 : Int32), valueS (tk (h 8 33)) n nw set - valueS (tk (h 8 33)) n nw set, nI 0)
      rw [Int32.sub_self]
      rfl
    rw [e0, e]
    rfl
  · intro i hi
    have es : mostS (tk (h 8 33)) n nw set lim few (i + 1) = mostF (tk (h 8 33)) n nw set lim few i (mostS (tk (h 8 33)) n nw set lim few i) := rfl
    have inv := mostS_inv (F := tk (h 8 33)) (set := set) (lim := lim) (few := few) hV i
    rw [es]
    generalize mostS (tk (h 8 33)) n nw set lim few i = x at inv
    obtain ⟨f, t⟩ := x
    dsimp only at inv
    have hVi := hV (set ||| ((1 : Int32) <<< (nI i &&& 31)))
    have hV0 := hV set
    simp only [SX10_most_16, JX10_most_99, JX10_most_100, hn, nI_le12 hn2 (show i ≤ 12 by omega), f_has, Option.bind_some, bI_if, its2 (show i < 12 by omega), r_value hn hn2 hw hw2 ho, nm_eq, nI_1, mostF]
    generalize valueS (tk (h 8 33)) n nw (set ||| ((1 : Int32) <<< (nI i &&& 31))) = V at hVi ⊢
    generalize valueS (tk (h 8 33)) n nw set = c at hV0 ⊢
    rw [if_neg (by omega)]
    cases hb : bs set i with
    | true => simp only [if_true, true_or]
    | false =>
      simp only [if_false, Bool.false_eq_true, false_or]
      by_cases c1 : lim < mi (tk (h 8 33)) i
      · simp only [c1, if_true]
      · simp only [c1, if_false, sub_lt inv.1 hVi hV0, sub_eq hVi inv.1 hV0]
        by_cases c2 : t < V
        · have hne : ¬ V = t := fun z => by rw [z] at c2; exact Int32.lt_irrefl c2
          simp only [c2, hne, if_true, if_false, true_or, ite_self]
        · cases few with
          | false => simp only [c2, if_true, if_false, Bool.false_eq_true, false_and, or_false]
          | true =>
            rcases inv.2 with z1 | ⟨p, z1, z2, -, -⟩
            · subst z1
              simp only [c2, show ((-1 : Int32) < 0) = True from eq_true (by decide), if_true, if_false, not_true, false_and, and_false, or_false]
            · subst z2
              have nn : ¬ nI p < 0 := nI_pos (by omega)
              by_cases c3 : V = t
              · simp only [c2, nn, c3, if_true, if_false, its2 (show p < 12 by omega), Option.bind_some, nC_n (show p < 2 ^ 31 by omega), not_false_eq_true, true_and, Int32.lt_irrefl, false_or]
                by_cases c4 : mi (tk (h 8 33)) p ≤ mi (tk (h 8 33)) i
                · simp only [c4, if_true, not_true, if_false]
                · simp only [c4, if_false, not_false_eq_true, if_true, show ((1 : Int32) = 0) = False from eq_false (by decide)]
              · simp only [c2, nn, c3, if_true, if_false, false_and, and_false, or_false]
  · simp only [SX10_most_16, hn, Int32.le_refl, if_true]
theorem c_brings {F : Nat → Int32} {n nw : Nat} {h : HI} {set : Int32} (c : CH F n nw h) (hn2 : n ≤ 12) (hw2 : nw ≤ 12) (hm : ∀ p, p < n → rg (mi F p) 1 60) : ∃ h', FX1_bringsMost set h = some ((mostS F n nw set 60 false n).1, h') ∧ (∀ g, g ≠ 4 → h' g = h g) ∧ CH F n nw h' := by
  obtain ⟨h1, e1, e2, e3⟩ := c_value (set := set) c hn2 hw2
  have key : ∃ r, loopN (SX1_bringsMost_11 set) FU (valueS F n nw set, -1, 0, h1) = some r ∧ (fun r : Int32 × HI => r.1 = (mostS F n nw set 60 false n).1 ∧ (∀ g, g ≠ 4 → r.2 g = h g) ∧ CH F n nw r.2) r := by
    refine gloop (f := SX1_bringsMost_11 set) (fun i (s : Int32 × Int32 × Int32 × HI) => (s.2.1, s.1) = mostS F n nw set 60 false i ∧ s.2.2.1 = nI i ∧ (∀ g, g ≠ 4 → s.2.2.2 g = h g) ∧ CH F n nw s.2.2.2) _ n ?_ (k := FU) (by have := FU_lt; omega) (s0 := (valueS F n nw set, -1, 0, h1)) ⟨rfl, rfl, e2, e3⟩
    rintro i ⟨t, f, b, h2⟩ hi ⟨i0, rfl, i1, i2⟩
    dsimp only at i0 i1 i2
    by_cases z : i = n
    · refine Or.inr ⟨(f, h2), ?_, by rw [z] at i0; rw [← i0], i1, i2⟩
      simp only [SX1_bringsMost_11, i2.1, z, Int32.le_refl, if_true]
    · refine Or.inl ⟨by omega, ?_⟩
      obtain ⟨h3, f1, f2, f3⟩ := c_value (set := set ||| ((1 : Int32) <<< (nI i &&& 31))) i2 hn2 hw2
      have es : mostS F n nw set 60 false (i + 1) = mostF F n nw set 60 false i (f, t) := by rw [i0]; rfl
      have fr : ∀ g, g ≠ 4 → h3 g = h g := fun g hg => by rw [f2 g hg]; exact i1 g hg
      have c1 : ¬ (60 : Int32) < mi F i := by
        obtain ⟨a, -, ha, e⟩ := hm i (by omega)
        rw [e, show (60 : Int32) = nI 60 from rfl, nI_ltI (by omega) (by omega)]
        omega
      simp only [SX1_bringsMost_11, i2.1, nI_le12 hn2 (show i ≤ 12 by omega), f_isIn, Option.bind_some, bI_if, f1, nI_1, es, mostF, c1, or_false, Bool.false_eq_true, false_and]
      rw [if_neg (by omega)]
      cases hb : bs set i with
      | true =>
        simp only [if_true]
        exact ⟨_, rfl, rfl, rfl, i1, i2⟩
      | false =>
        simp only [if_false, Bool.false_eq_true]
        generalize valueS F n nw (set ||| ((1 : Int32) <<< (nI i &&& 31))) = V
        by_cases c2 : t < V
        · simp only [c2, Int32.not_le.mpr c2, if_true, if_false]
          exact ⟨_, rfl, rfl, rfl, fr, f3⟩
        · simp only [c2, Int32.not_lt.mp c2, if_true, if_false]
          exact ⟨_, rfl, rfl, rfl, fr, f3⟩
  obtain ⟨⟨x, h'⟩, k1, k2, k3, k4⟩ := key
  dsimp only at k2 k3 k4
  subst k2
  refine ⟨h', ?_, k3, k4⟩
  simp only [FX1_bringsMost, e1, Option.bind_some, k1]
-- what is missed least: (found, value)
def spF (F : Nat → Int32) (n nw : Nat) (set : Int32) (p : Nat) (x : Int32 × Int32) : Int32 × Int32 := if bs set p = true ∧ x.2 < valueS F n nw (set &&& (((1 : Int32) <<< (nI p &&& 31)) ^^^ (-1))) then (nI p, valueS F n nw (set &&& (((1 : Int32) <<< (nI p &&& 31)) ^^^ (-1)))) else x
def spS (F : Nat → Int32) (n nw : Nat) (set : Int32) (k : Nat) : Int32 × Int32 := foldN (spF F n nw set) k (-1, -1)
theorem spS_inv {F : Nat → Int32} {n nw : Nat} {set : Int32} (hV : ∀ s, rg (valueS F n nw s) 0 1188) (k : Nat) : spS F n nw set k = (-1, -1) ∨ rg (spS F n nw set k).2 0 1188 ∧ ∃ p, p < k ∧ (spS F n nw set k).1 = nI p := by
  unfold spS
  refine foldN_inv (fun i (x : Int32 × Int32) => x = (-1, -1) ∨ rg x.2 0 1188 ∧ ∃ p, p < i ∧ x.1 = nI p) (Or.inl rfl) (fun i x hi hx => ?_)
  unfold spF
  split
  · exact Or.inr ⟨hV _, i, by omega, rfl⟩
  · rcases hx with z | ⟨z1, p, z2, z3⟩
    · exact Or.inl z
    · exact Or.inr ⟨z1, p, by omega, z3⟩
theorem c_spare {F : Nat → Int32} {n nw : Nat} {h : HI} {set : Int32} (c : CH F n nw h) (hn2 : n ≤ 12) (hw2 : nw ≤ 12) : ∃ h', FX1_leastMissed set h = some ((spS F n nw set n).1, h') ∧ (∀ g, g ≠ 4 → h' g = h g) ∧ CH F n nw h' := by
  have key : ∃ r, loopN (SX1_leastMissed_7 set) FU (-1, -1, 0, h) = some r ∧ (fun r : Int32 × HI => r.1 = (spS F n nw set n).1 ∧ (∀ g, g ≠ 4 → r.2 g = h g) ∧ CH F n nw r.2) r := by
    refine gloop (f := SX1_leastMissed_7 set) (fun i (s : Int32 × Int32 × Int32 × HI) => (s.2.1, s.1) = spS F n nw set i ∧ s.2.2.1 = nI i ∧ (∀ g, g ≠ 4 → s.2.2.2 g = h g) ∧ CH F n nw s.2.2.2) _ n ?_ (k := FU) (by have := FU_lt; omega) (s0 := (-1, -1, 0, h)) ⟨rfl, rfl, fun _ _ => rfl, c⟩
    rintro i ⟨t, f, b, h2⟩ hi ⟨i0, rfl, i1, i2⟩
    dsimp only at i0 i1 i2
    by_cases z : i = n
    · refine Or.inr ⟨(f, h2), ?_, by rw [z] at i0; rw [← i0], i1, i2⟩
      simp only [SX1_leastMissed_7, i2.1, z, Int32.le_refl, if_true]
    · refine Or.inl ⟨by omega, ?_⟩
      obtain ⟨h3, f1, f2, f3⟩ := c_value (set := set &&& (((1 : Int32) <<< (nI i &&& 31)) ^^^ (-1))) i2 hn2 hw2
      have es : spS F n nw set (i + 1) = spF F n nw set i (f, t) := by rw [i0]; rfl
      have fr : ∀ g, g ≠ 4 → h3 g = h g := fun g hg => by rw [f2 g hg]; exact i1 g hg
      simp only [SX1_leastMissed_7, i2.1, nI_le12 hn2 (show i ≤ 12 by omega), f_isIn, Option.bind_some, bI_if, f1, nI_1, es, spF]
      rw [if_neg (by omega)]
      cases hb : bs set i with
      | false =>
        simp only [if_false, Bool.false_eq_true, false_and]
        exact ⟨_, rfl, rfl, rfl, i1, i2⟩
      | true =>
        simp only [if_true, true_and]
        generalize valueS F n nw (set &&& (((1 : Int32) <<< (nI i &&& 31)) ^^^ (-1))) = V
        by_cases c2 : t < V
        · simp only [c2, Int32.not_le.mpr c2, if_true, if_false]
          exact ⟨_, rfl, rfl, rfl, fr, f3⟩
        · simp only [c2, Int32.not_lt.mp c2, if_true, if_false]
          exact ⟨_, rfl, rfl, rfl, fr, f3⟩
  obtain ⟨⟨x, h'⟩, k1, k2, k3, k4⟩ := key
  dsimp only at k2 k3 k4
  subst k2
  refine ⟨h', ?_, k3, k4⟩
  simp only [FX1_leastMissed, k1, Option.bind_some]
theorem r_spare {h : HI} {n nw : Nat} {set : Int32} (hn : h 8 33 0 = nI n) (hn2 : n ≤ 12) (hw : h 8 33 1 = nI nw) (hw2 : nw ≤ 12) (ho : ∀ w, w < nw → rg (wo (tk (h 8 33)) w) 0 99) (hV : ∀ s, rg (valueS (tk (h 8 33)) n nw s) 0 1188) : loopN (SX10_spare_22 set h) FU (-1, 0, 0) = some (spS (tk (h 8 33)) n nw set n).1 := by
  refine for_loop (f := SX10_spare_22 set h) (fun i => ((spS (tk (h 8 33)) n nw set i).1, if (spS (tk (h 8 33)) n nw set i).1 < 0 then 0 else (spS (tk (h 8 33)) n nw set i).2, nI i)) n _ ?_ ?_ FU (by have := FU_lt; omega)
  · intro i hi
    have es : spS (tk (h 8 33)) n nw set (i + 1) = spF (tk (h 8 33)) n nw set i (spS (tk (h 8 33)) n nw set i) := rfl
    have inv := spS_inv (F := tk (h 8 33)) (set := set) hV i
    rw [es]
    generalize spS (tk (h 8 33)) n nw set i = x at inv
    have hVi := rg_nn (hV (set &&& (((1 : Int32) <<< (nI i &&& 31)) ^^^ (-1)))) (by decide)
    simp only [SX10_spare_22, JX10_spare_58, hn, nI_le12 hn2 (show i ≤ 12 by omega), f_has, Option.bind_some, bI_if, r_value hn hn2 hw hw2 ho, nI_1, spF]
    rw [if_neg (by omega)]
    have m1 : ((-1 : Int32) < 0) = True := eq_true (by decide)
    have ni : (nI i < 0) = False := eq_false (nI_pos (by omega))
    by_cases hb : bs set i = true
    · rcases inv with rfl | ⟨z1, p, z2, z3⟩
      · have c2 : (-1 : Int32) < valueS (tk (h 8 33)) n nw (set &&& (((1 : Int32) <<< (nI i &&& 31)) ^^^ (-1))) := Int32.lt_of_lt_of_le (by decide) (Int32.not_lt.mp hVi)
        simp only [hb, m1, hVi, c2, ni, if_true, if_false, true_and]
      · have nn : ¬ x.1 < 0 := by rw [z3]; exact nI_pos (by omega)
        by_cases c2 : x.2 < valueS (tk (h 8 33)) n nw (set &&& (((1 : Int32) <<< (nI i &&& 31)) ^^^ (-1)))
        · simp only [hb, hVi, nn, c2, Int32.not_le.mpr c2, ni, if_true, if_false, true_and]
        · simp only [hb, hVi, nn, c2, Int32.not_lt.mp c2, if_true, if_false, true_and]
    · simp only [hb, m1, if_true, if_false, Bool.false_eq_true, false_and]
  · simp only [SX10_spare_22, hn, Int32.le_refl, if_true]
