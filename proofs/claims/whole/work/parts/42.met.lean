-- kinds in a set; what gains most; MET; VALUE
def underS (k w : Int32) : Bool := decide (w = 0) || decide (k = w) || (decide (w = 1) && decide (k = 3)) || (decide (w = 2) && decide (k = 4))
theorem f_under {g : Nat} {h : HI} {p : Nat} {w : Int32} (hp : p < 12) (hk : rg (kd (vw (h g)) p) 0 5) (hw : rg w 0 5) : FX5_isUnder g (nI p) w h = some (bI (underS (kd (vw (h g)) p) w)) := by
  obtain ⟨a, -, ha, ea⟩ := hk
  obtain ⟨b, -, hb, rfl⟩ := hw
  have key : ∀ a : Fin 6, ∀ b : Fin 6, loopN (SX5_isUnder_10 0 (nI b.val) (fun _ _ _ => 0)) FU (nI a.val, 0) = some (bI (underS (nI a.val) (nI b.val))) := by decide +kernel
  have k2 := key ⟨a, by omega⟩ ⟨b, by omega⟩
  have e : SX5_isUnder_10 g (nI b) h = SX5_isUnder_10 0 (nI b) (fun _ _ _ => 0) := by funext x; rfl
  rw [vkd hp] at ea
  simp only [FX5_isUnder, gd_ix hp (by decide), nC_n (show p < 2 ^ 31 by omega), nm_eq, e, vkd hp, ea]
  rw [k2]
  rfl
def ropeS (F : Nat → Int32) (n : Nat) (set : Int32) : Bool := (List.range n).any fun p => bs set p && (decide (kd F p = 2) || decide (kd F p = 4))
def mendS (F : Nat → Int32) (n : Nat) (set : Int32) : Bool := (List.range n).any fun p => bs set p && decide (kd F p = 4)
theorem any_s (P : Nat → Bool) (n : Nat) : (List.range (n + 1)).any P = ((List.range n).any P || P n) := by
  rw [List.range_succ, List.any_append]; simp
theorem any_cong {P Q : Nat → Bool} {n : Nat} (h : ∀ i, i < n → P i = Q i) : (List.range n).any P = (List.range n).any Q := by
  induction n with
  | zero => rfl
  | succ n ih => rw [any_s, any_s, ih (fun i hi => h i (by omega)), h n (by omega)]
theorem nI_le12 {a b : Nat} (ha : a ≤ 12) (hb : b ≤ 12) : nI a ≤ nI b ↔ a ≤ b := nI_leI (by omega) (by omega)
theorem c_hasKind {g : Nat} {h : HI} {n k : Nat} {set : Int32} (hn : h g 1 6 = nI n) (hn2 : n ≤ 12) (hk : k ≤ 5) (hP : ∀ p, p < n → rg (kd (vw (h g)) p) 0 5) : FX5_hasKind g set (nI k) h = some (bI ((List.range n).any fun p => bs set p && underS (kd (vw (h g)) p) (nI k))) := by
  unfold FX5_hasKind
  rw [show (0 : Int32) = nI 0 from rfl]
  rw [any_loop (fun i => nI i) n (fun p => bs set p && underS (kd (vw (h g)) p) (nI k)) 1 0 ?_ ?_ ?_ FU (by have := FU_lt; omega)]
  · rw [Option.bind_some]; unfold bI; rfl
  · intro i hi hf
    simp only [SX5_hasKind_2, hn, nI_le12 hn2 (show i ≤ 12 by omega), f_isIn, Option.bind_some, bI_if, f_under (show i < 12 by omega) (hP i hi) ⟨k, Nat.zero_le k, hk, rfl⟩]
    rw [if_neg (by omega)]
    simp only [Bool.and_eq_false_iff] at hf
    rcases hf with hf | hf <;> simp [hf, nI_1]
  · intro i hi ht
    simp only [SX5_hasKind_2, hn, nI_le12 hn2 (show i ≤ 12 by omega), f_isIn, Option.bind_some, bI_if, f_under (show i < 12 by omega) (hP i hi) ⟨k, Nat.zero_le k, hk, rfl⟩]
    rw [if_neg (by omega)]
    simp only [Bool.and_eq_true] at ht
    simp [ht.1, ht.2]
  · simp only [SX5_hasKind_2, hn, nI_le12 hn2 hn2, Nat.le_refl, if_true]
theorem und2 {k : Int32} (h : rg k 0 5) : underS k 2 = (decide (k = 2) || decide (k = 4)) ∧ underS k 4 = decide (k = 4) := by
  obtain ⟨a, -, ha, rfl⟩ := h
  have key : ∀ a : Fin 6, underS (nI a.val) 2 = (decide (nI a.val = 2) || decide (nI a.val = 4)) ∧ underS (nI a.val) 4 = decide (nI a.val = 4) := by decide +kernel
  exact key ⟨a, by omega⟩
theorem c_rope {g : Nat} {h : HI} {n : Nat} {set : Int32} (hn : h g 1 6 = nI n) (hn2 : n ≤ 12) (hP : ∀ p, p < n → rg (kd (vw (h g)) p) 0 5) : FX5_hasKind g set 2 h = some (bI (ropeS (vw (h g)) n set)) := by
  have e := c_hasKind (set := set) (k := 2) hn hn2 (by decide) hP
  rw [show nI 2 = (2 : Int32) from rfl] at e
  rw [e]
  congr 2
  exact any_cong fun i hi => by rw [(und2 (hP i hi)).1]
theorem c_mend {g : Nat} {h : HI} {n : Nat} {set : Int32} (hn : h g 1 6 = nI n) (hn2 : n ≤ 12) (hP : ∀ p, p < n → rg (kd (vw (h g)) p) 0 5) : FX5_hasKind g set 4 h = some (bI (mendS (vw (h g)) n set)) := by
  have e := c_hasKind (set := set) (k := 4) hn hn2 (by decide) hP
  rw [show nI 4 = (4 : Int32) from rfl] at e
  rw [e]
  congr 2
  exact any_cong fun i hi => by rw [(und2 (hP i hi)).2]
theorem r_rope {h : HI} {n : Nat} {set : Int32} (hn : h 8 33 0 = nI n) (hn2 : n ≤ 12) : FX10_hasRope set h = some (bI (ropeS (tk (h 8 33)) n set)) := by
  unfold FX10_hasRope
  have e := for_loop (f := SX10_hasRope_4 set h) (fun i => (bI (ropeS (tk (h 8 33)) i set), nI i)) n (bI (ropeS (tk (h 8 33)) n set)) ?_ ?_ FU (by have := FU_lt; omega)
  · rw [show ((0 : Int32), (0 : Int32)) = (bI (ropeS (tk (h 8 33)) 0 set), nI 0) from rfl, e, Option.bind_some, gd_B]
  · intro i hi
    simp only [SX10_hasRope_4, hn, nI_le12 hn2 (show i ≤ 12 by omega), bI_if, f_has, Option.bind_some, its0 (show i < 12 by omega), nI_1]
    rw [if_neg (by omega)]
    unfold ropeS
    rw [any_s]
    cases (List.range i).any fun p => bs set p && (decide (kd (tk (h 8 33)) p = 2) || decide (kd (tk (h 8 33)) p = 4)) with
    | true => simp [bI]
    | false =>
      cases bs set i with
      | false => simp [bI]
      | true =>
        by_cases h2 : kd (tk (h 8 33)) i = 2
        · simp [h2, bI]
        · by_cases h4 : kd (tk (h 8 33)) i = 4 <;> simp [h2, h4, bI]
  · simp only [SX10_hasRope_4, hn, nI_le12 hn2 hn2, Nat.le_refl, if_true]
theorem r_mend {h : HI} {n : Nat} {set : Int32} (hn : h 8 33 0 = nI n) (hn2 : n ≤ 12) : FX10_hasMending set h = some (bI (mendS (tk (h 8 33)) n set)) := by
  unfold FX10_hasMending
  have e := for_loop (f := SX10_hasMending_4 set h) (fun i => (bI (mendS (tk (h 8 33)) i set), nI i)) n (bI (mendS (tk (h 8 33)) n set)) ?_ ?_ FU (by have := FU_lt; omega)
  · rw [show ((0 : Int32), (0 : Int32)) = (bI (mendS (tk (h 8 33)) 0 set), nI 0) from rfl, e, Option.bind_some, gd_B]
  · intro i hi
    simp only [SX10_hasMending_4, hn, nI_le12 hn2 (show i ≤ 12 by omega), bI_if, f_has, Option.bind_some, its0 (show i < 12 by omega), nI_1]
    rw [if_neg (by omega)]
    unfold mendS
    rw [any_s]
    cases (List.range i).any fun p => bs set p && decide (kd (tk (h 8 33)) p = 4) with
    | true => simp [bI]
    | false =>
      cases bs set i with
      | false => simp [bI]
      | true =>
        by_cases h4 : kd (tk (h 8 33)) i = 4 <;> simp [h4, bI]
  · simp only [SX10_hasMending_4, hn, nI_le12 hn2 hn2, Nat.le_refl, if_true]
-- which gains most: (number or -1, gain or a tenth)
def byF (F : Nat → Int32) (w : Nat) (set : Int32) (r : Bool) (p : Nat) (x : Int32 × Int32) : Int32 × Int32 := if bs set p = true ∧ x.2 < gainS F p w r then (nI p, gainS F p w r) else x
def byS (F : Nat → Int32) (n w : Nat) (set : Int32) (r : Bool) : Int32 × Int32 := foldN (byF F w set r) n (-1, wo F w / 10)
theorem tenth {x : Int32} (h : rg x 0 99) : ¬ x / 10 < 0 := by
  obtain ⟨m, -, hm, rfl⟩ := h
  rw [show (10 : Int32) = nI 10 from rfl, pk_div (by omega) (by decide) (by decide)]
  exact nI_pos (by omega)
theorem byS_inv {F : Nat → Int32} {w : Nat} {set : Int32} {r : Bool} (hw : rg (wo F w) 0 99) (n : Nat) : ¬ (byS F n w set r).2 < 0 ∧ (((byS F n w set r).1 = -1 ∧ (byS F n w set r).2 = wo F w / 10) ∨ ∃ p, p < n ∧ (byS F n w set r).1 = nI p ∧ (byS F n w set r).2 = gainS F p w r ∧ bs set p = true) := by
  unfold byS
  refine foldN_inv (fun i (x : Int32 × Int32) => ¬ x.2 < 0 ∧ ((x.1 = -1 ∧ x.2 = wo F w / 10) ∨ ∃ p, p < i ∧ x.1 = nI p ∧ x.2 = gainS F p w r ∧ bs set p = true)) ⟨tenth hw, Or.inl ⟨rfl, rfl⟩⟩ ?_
  intro i x hi hx
  unfold byF
  by_cases c : bs set i = true ∧ x.2 < gainS F i w r
  · rw [if_pos c]
    refine ⟨fun z => hx.1 (Int32.lt_trans c.2 z), Or.inr ⟨i, by omega, rfl, rfl, c.1⟩⟩
  · rw [if_neg c]
    refine ⟨hx.1, ?_⟩
    rcases hx.2 with z | ⟨p, z1, z2⟩
    · exact Or.inl z
    · exact Or.inr ⟨p, by omega, z2⟩
theorem c_gainsMost {g : Nat} {h : HI} {n w : Nat} {set : Int32} {r : Bool} (hn : h g 1 6 = nI n) (hn2 : n ≤ 12) (hw : w < 12) : FX0_gainsMost g (nI w) set (bI r) h = some (byS (vw (h g)) n w set r).1 := by
  simp only [FX0_gainsMost, gd_ix hw (by decide), nC_n (show w < 2 ^ 31 by omega), nm_eq]
  have e := for_loop (f := SX0_gainsMost_20 g (nI w) set (bI r) h) (fun i => ((byS (vw (h g)) i w set r).2, (byS (vw (h g)) i w set r).1, nI i)) n (byS (vw (h g)) n w set r).1 ?_ ?_ FU (by have := FU_lt; omega)
  · have e0 : (h g 10 w / 10, (-1 : Int32), (0 : Int32)) = ((byS (vw (h g)) 0 w set r).2, (byS (vw (h g)) 0 w set r).1, nI 0) := by
      unfold byS foldN
      rw [vwo hw]
      rfl
    rw [e0, e]
    rfl
  · intro i hi
    simp only [SX0_gainsMost_20, hn, nI_le12 hn2 (show i ≤ 12 by omega), f_isIn, Option.bind_some, bI_if, c_gain (show i < 12 by omega) hw, nI_1]
    rw [if_neg (by omega)]
    have es : byS (vw (h g)) (i + 1) w set r = byF (vw (h g)) w set r i (byS (vw (h g)) i w set r) := rfl
    rw [es]
    unfold byF
    cases hb : bs set i with
    | false => simp
    | true =>
      by_cases c : (byS (vw (h g)) i w set r).2 < gainS (vw (h g)) i w r
      · simp [c, Int32.not_le.mpr c]
      · simp [c, Int32.not_lt.mp c]
  · simp only [SX0_gainsMost_20, hn, nI_le12 hn2 hn2, Nat.le_refl, if_true]
theorem r_by {h : HI} {n w : Nat} {set : Int32} (hn : h 8 33 0 = nI n) (hn2 : n ≤ 12) (hw : w < 12) (ho : rg (wo (tk (h 8 33)) w) 0 99) : FX10_byOf (nI w) set h = some (byS (tk (h 8 33)) n w set (ropeS (tk (h 8 33)) n set)).1 := by
  simp only [FX10_byOf, r_rope hn hn2, Option.bind_some, wnt1 hw, nm_eq]
  generalize ropeS (tk (h 8 33)) n set = r
  have e := for_loop (f := SX10_byOf_23 (nI w) set (bI r) h) (fun i => ((byS (tk (h 8 33)) i w set r).1, (byS (tk (h 8 33)) i w set r).2, nI i)) n (byS (tk (h 8 33)) n w set r).1 ?_ ?_ FU (by have := FU_lt; omega)
  · exact (congrArg (fun z => Option.bind z fun e6 => some e6) e)
  · intro i hi
    simp only [SX10_byOf_23, JX10_byOf_55, JX10_byOf_71, hn, nI_le12 hn2 (show i ≤ 12 by omega), f_has, Option.bind_some, bI_if, r_gain (show i < 12 by omega) hw, nI_1]
    rw [if_neg (by omega)]
    have es : byS (tk (h 8 33)) (i + 1) w set r = byF (tk (h 8 33)) w set r i (byS (tk (h 8 33)) i w set r) := rfl
    have hp := (byS_inv (set := set) (r := r) ho i).1
    rw [es]
    unfold byF
    cases hb : bs set i with
    | false => simp [Int32.not_lt.mp hp]
    | true =>
      by_cases c : (byS (tk (h 8 33)) i w set r).2 < gainS (tk (h 8 33)) i w r
      · simp [c, Int32.not_le.mpr c]
      · simp [c, Int32.not_lt.mp c]
  · simp only [SX10_byOf_23, hn, nI_le12 hn2 hn2, Nat.le_refl, if_true]
def metS (F : Nat → Int32) (n w : Nat) (set : Int32) (r md : Bool) : Int32 := if (byS F n w set r).2 + (if md = true then wo F w / 5 else 0) < wo F w then (byS F n w set r).2 + (if md = true then wo F w / 5 else 0) else wo F w
theorem i_add0 (x : Int32) : x + 0 = x := Int32.add_zero x
theorem r_met {h : HI} {n w : Nat} {set : Int32} {r md : Bool} (hn : h 8 33 0 = nI n) (hn2 : n ≤ 12) (hw : w < 12) (ho : rg (wo (tk (h 8 33)) w) 0 99) : FX10_metOf (nI w) set (bI r) (bI md) h = some (metS (tk (h 8 33)) n w set r md) := by
  simp only [FX10_metOf, wnt1 hw, Option.bind_some, nm_eq]
  have e := for_loop (f := SX10_metOf_18 (nI w) set (bI r) (bI md) (wo (tk (h 8 33)) w) h) (fun i => ((byS (tk (h 8 33)) i w set r).2, nI i)) n (byS (tk (h 8 33)) n w set r).2 ?_ ?_ FU (by have := FU_lt; omega)
  · have e0 : (wo (tk (h 8 33)) w / 10, (0 : Int32)) = ((byS (tk (h 8 33)) 0 w set r).2, nI 0) := rfl
    rw [e0, e]
    simp only [Option.bind_some, bI_if, JX10_metOf_89, nm_eq, metS]
    cases md with
    | false =>
      by_cases c : (byS (tk (h 8 33)) n w set r).2 < wo (tk (h 8 33)) w
      · simp [c, Int32.not_le.mpr c, i_add0]
      · simp [c, Int32.not_lt.mp c, i_add0]
    | true =>
      by_cases c : (byS (tk (h 8 33)) n w set r).2 + wo (tk (h 8 33)) w / 5 < wo (tk (h 8 33)) w
      · simp [c, Int32.not_le.mpr c]
      · simp [c, Int32.not_lt.mp c]
  · intro i hi
    simp only [SX10_metOf_18, JX10_metOf_50, hn, nI_le12 hn2 (show i ≤ 12 by omega), f_has, Option.bind_some, bI_if, r_gain (show i < 12 by omega) hw, nI_1]
    rw [if_neg (by omega)]
    have es : byS (tk (h 8 33)) (i + 1) w set r = byF (tk (h 8 33)) w set r i (byS (tk (h 8 33)) i w set r) := rfl
    have hp := (byS_inv (set := set) (r := r) ho i).1
    rw [es]
    unfold byF
    cases hb : bs set i with
    | false => simp [Int32.not_lt.mp hp]
    | true =>
      by_cases c : (byS (tk (h 8 33)) i w set r).2 < gainS (tk (h 8 33)) i w r
      · simp [c, Int32.not_le.mpr c]
      · simp [c, Int32.not_lt.mp c]
  · simp only [SX10_metOf_18, hn, nI_le12 hn2 hn2, Nat.le_refl, if_true]
theorem f_metFrom (x y : Int32) (md : Bool) : FX9_metFrom x y (bI md) = some (if y + (if md = true then x / 5 else 0) < x then y + (if md = true then x / 5 else 0) else x) := by
  unfold FX9_metFrom
  cases md <;> simp [bI, i_add0]
theorem c_met {g : Nat} {h : HI} {n w : Nat} {set : Int32} {r md : Bool} (hn2 : n ≤ 12) (hw : w < 12) (ho : rg (wo (vw (h g)) w) 0 99) : FX0_metBy g (nI w) (byS (vw (h g)) n w set r).1 (bI r) (bI md) h = some (metS (vw (h g)) n w set r md) := by
  have hi := (byS_inv (set := set) (r := r) ho n).2
  simp only [FX0_metBy, gd_ix hw (by decide), nC_n (show w < 2 ^ 31 by omega), nm_eq]
  rw [← vwo (u := h g) hw]
  rcases hi with ⟨h1, h2⟩ | ⟨p, h1, h2, h3, -⟩
  · rw [h1, if_neg (by decide)]
    rw [f_metFrom, Option.bind_some, metS, h2]
  · rw [h2, if_pos (nI_pos' (by omega)), c_gain (by omega) hw, Option.bind_some, f_metFrom, Option.bind_some, metS, h3]
