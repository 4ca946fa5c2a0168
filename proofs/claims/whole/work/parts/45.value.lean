-- VALUE and MINUTES of a set: the reference; Choice's tables
theorem hP1_at (h : HI) (g k j : Nat) (x : Int32) (g' k' j' : Nat) : hP1 h g k j x g' k' j' = if g' = g ∧ k' = k ∧ j' = j then x else h g' k' j' := by
  unfold hP1 hU
  by_cases e : g' = g
  · subst e
    rw [if_pos rfl]
    unfold cU
    by_cases e2 : k' = k
    · subst e2
      rw [if_pos rfl]
      by_cases e3 : j' = j
      · subst e3; rw [up_s]; simp
      · rw [up_n e3]; simp [e3]
    · rw [if_neg e2]; simp [e2]
  · rw [if_neg e]; simp [e]
theorem hP1_g {h : HI} {g k j : Nat} {x : Int32} {g' : Nat} (e : g' ≠ g) : hP1 h g k j x g' = h g' := hU_n e
theorem hP1_k {h : HI} {g k j : Nat} {x : Int32} {k' : Nat} (e : k' ≠ k) : hP1 h g k j x g k' = h g k' := by
  unfold hP1; rw [hU_s, cU_n e]
def valueS (F : Nat → Int32) (n nw : Nat) (set : Int32) : Int32 := foldN (fun w a => a + metS F n w set (ropeS F n set) (mendS F n set)) nw 0
def minS (F : Nat → Int32) (n : Nat) (set : Int32) : Int32 := foldN (fun p a => a + (if bs set p = true then mi F p else 0)) n 0
theorem r_value {h : HI} {n nw : Nat} {set : Int32} (hn : h 8 33 0 = nI n) (hn2 : n ≤ 12) (hw : h 8 33 1 = nI nw) (hw2 : nw ≤ 12) (ho : ∀ w, w < nw → rg (wo (tk (h 8 33)) w) 0 99) : FX10_valueOf set h = some (valueS (tk (h 8 33)) n nw set) := by
  simp only [FX10_valueOf, r_rope hn hn2, r_mend hn hn2, Option.bind_some]
  have e := for_loop (f := SX10_valueOf_18 set (bI (ropeS (tk (h 8 33)) n set)) (bI (mendS (tk (h 8 33)) n set)) h) (fun i => (valueS (tk (h 8 33)) n i set, nI i)) nw (valueS (tk (h 8 33)) n nw set) ?_ ?_ FU (by have := FU_lt; omega)
  · exact (congrArg (fun z => Option.bind z fun e5 => some e5) e)
  · intro i hi
    simp only [SX10_valueOf_18, hw, nI_le12 hw2 (show i ≤ 12 by omega), r_met hn hn2 (show i < 12 by omega) (ho i hi), Option.bind_some, nm_eq, nI_1]
    rw [if_neg (by omega)]
    rfl
  · simp only [SX10_valueOf_18, hw, nI_le12 hw2 hw2, Nat.le_refl, if_true]
theorem r_minutes {h : HI} {n : Nat} {set : Int32} (hn : h 8 33 0 = nI n) (hn2 : n ≤ 12) : FX10_minutesOf set h = some (minS (tk (h 8 33)) n set) := by
  unfold FX10_minutesOf
  have e := for_loop (f := SX10_minutesOf_4 set h) (fun i => (minS (tk (h 8 33)) i set, nI i)) n (minS (tk (h 8 33)) n set) ?_ ?_ FU (by have := FU_lt; omega)
  · exact (congrArg (fun z => Option.bind z fun e5 => some e5) e)
  · intro i hi
    simp only [SX10_minutesOf_4, hn, nI_le12 hn2 (show i ≤ 12 by omega), f_has, Option.bind_some, bI_if, nm_eq, its2 (show i < 12 by omega), nI_1]
    rw [if_neg (by omega)]
    have es : minS (tk (h 8 33)) (i + 1) set = minS (tk (h 8 33)) i set + (if bs set i = true then mi (tk (h 8 33)) i else 0) := rfl
    rw [es]
    cases bs set i <;> simp
  · simp only [SX10_minutesOf_4, hn, nI_le12 hn2 hn2, Nat.le_refl, if_true]
-- Choice
/-- Choice's tables are those of a book -/
def CH (F : Nat → Int32) (n nw : Nat) (h : HI) : Prop := h 4 18 7 = nI n ∧ h 4 18 8 = nI nw ∧ (∀ p, p < n → h 4 22 p = mi F p) ∧ (∀ w, w < nw → h 4 21 w = wo F w) ∧ (∀ w p, w < nw → p < n → h 4 19 (w * 12 + p) = gainS F p w false ∧ h 4 20 (w * 12 + p) = gainS F p w true) ∧ h 4 18 5 = mkS (fun p => decide (kd F p = 2) || decide (kd F p = 4)) n ∧ h 4 18 6 = mkS (fun p => decide (kd F p = 4)) n
theorem CH.of23 {F : Nat → Int32} {n nw : Nat} {h h' : HI} (c : CH F n nw h) (e : ∀ k, k ≠ 23 → h' 4 k = h 4 k) : CH F n nw h' := by
  unfold CH at c ⊢
  rw [e 18 (by decide), e 19 (by decide), e 20 (by decide), e 21 (by decide), e 22 (by decide)]
  exact c
theorem c_minutes {F : Nat → Int32} {n nw : Nat} {h : HI} {set : Int32} (c : CH F n nw h) (hn2 : n ≤ 12) : FX1_minutesOf set h = some (minS F n set) := by
  unfold FX1_minutesOf
  have e := for_loop (f := SX1_minutesOf_4 set h) (fun i => (minS F i set, nI i)) n (minS F n set) ?_ ?_ FU (by have := FU_lt; omega)
  · exact (congrArg (fun z => Option.bind z fun e5 => some e5) e)
  · intro i hi
    simp only [SX1_minutesOf_4, c.1, nI_le12 hn2 (show i ≤ 12 by omega), f_isIn, Option.bind_some, bI_if, nm_eq, nI_1, gd_ix (show i < 12 by omega) (by decide), nC_n (show i < 2 ^ 31 by omega), c.2.2.1 i hi]
    rw [if_neg (by omega)]
    have es : minS F (i + 1) set = minS F i set + (if bs set i = true then mi F i else 0) := rfl
    rw [es]
    cases bs set i <;> simp
  · simp only [SX1_minutesOf_4, c.1, nI_le12 hn2 hn2, Nat.le_refl, if_true]
/-- the first members of a set, as Choice lists them -/
def memL (set : Int32) (n : Nat) : List Nat := (List.range n).filter (bs set)
theorem memL_s (set : Int32) (n : Nat) : memL set (n + 1) = if bs set n = true then memL set n ++ [n] else memL set n := by
  unfold memL
  rw [List.range_succ, List.filter_append]
  cases h : bs set n <;> simp [h]
theorem memL_len (set : Int32) (n : Nat) : (memL set n).length ≤ n := by
  have := List.length_filter_le (bs set) (List.range n)
  rwa [List.length_range] at this
theorem memL_lt {set : Int32} {n p : Nat} (h : p ∈ memL set n) : p < n := List.mem_range.mp (List.mem_filter.mp h).1
theorem c_list {F : Nat → Int32} {n nw : Nat} {h : HI} {set : Int32} (c : CH F n nw h) (hn2 : n ≤ 12) : ∃ h', FX1_listMembers set h = some (nI (memL set n).length, h') ∧ (∀ g, g ≠ 4 → h' g = h g) ∧ (∀ k, k ≠ 23 → h' 4 k = h 4 k) ∧ ∀ i, i < (memL set n).length → h' 4 23 i = nI ((memL set n).getD i 0) := by
  unfold FX1_listMembers
  have key : ∃ r, loopN (SX1_listMembers_4 set) FU (0, 0, h) = some r ∧ (fun r : Int32 × HI => r.1 = nI (memL set n).length ∧ (∀ g, g ≠ 4 → r.2 g = h g) ∧ (∀ k, k ≠ 23 → r.2 4 k = h 4 k) ∧ ∀ j, j < (memL set n).length → r.2 4 23 j = nI ((memL set n).getD j 0)) r := by
    refine gloop (f := SX1_listMembers_4 set) (fun i (s : Int32 × Int32 × HI) => s.1 = nI (memL set i).length ∧ s.2.1 = nI i ∧ (∀ g, g ≠ 4 → s.2.2 g = h g) ∧ (∀ k, k ≠ 23 → s.2.2 4 k = h 4 k) ∧ ∀ j, j < (memL set i).length → s.2.2 4 23 j = nI ((memL set i).getD j 0)) (fun r : Int32 × HI => r.1 = nI (memL set n).length ∧ (∀ g, g ≠ 4 → r.2 g = h g) ∧ (∀ k, k ≠ 23 → r.2 4 k = h 4 k) ∧ ∀ j, j < (memL set n).length → r.2 4 23 j = nI ((memL set n).getD j 0)) n ?_ (k := FU) (by have := FU_lt; omega) (s0 := (0, 0, h)) ⟨rfl, rfl, fun _ _ => rfl, fun _ _ => rfl, fun j hj => by simp [memL] at hj⟩
    rintro i ⟨a, b, h1⟩ hi ⟨rfl, rfl, i1, i2, i3⟩
    dsimp only at i1 i2 i3
    have hl := memL_len set i
    by_cases z : i = n
    · subst z
      refine Or.inr ⟨(nI (memL set i).length, h1), ?_, rfl, i1, i2, i3⟩
      simp only [SX1_listMembers_4, i2 18 (by decide), c.1, Int32.le_refl, if_true]
    · refine Or.inl ⟨by omega, ?_⟩
      simp only [SX1_listMembers_4, i2 18 (by decide), c.1, nI_le12 hn2 (show i ≤ 12 by omega), f_isIn, Option.bind_some, bI_if, nm_eq, nI_1, gd_ix (show (memL set i).length < 12 by omega) (by decide), nC_n (show (memL set i).length < 2 ^ 31 by omega), memL_s]
      rw [if_neg (by omega)]
      cases hb : bs set i with
      | false =>
        refine ⟨_, rfl, ?_⟩
        simp only [Bool.false_eq_true, if_false]
        exact ⟨by simp, by simp, i1, i2, i3⟩
      | true =>
        refine ⟨_, rfl, ?_⟩
        simp only [if_true]
        refine ⟨by simp, by simp, fun g hg => by rw [hP1_g hg]; exact i1 g hg, fun k hk => by rw [hP1_k hk]; exact i2 k hk, fun j hj => ?_⟩
        rw [hP1_at]
        by_cases y : j = (memL set i).length
        · subst y
          simp
        · simp only [List.length_append, List.length_cons, List.length_nil] at hj
          rw [if_neg (by omega), i3 j (by omega), List.getD_eq_getElem?_getD, List.getD_eq_getElem?_getD, List.getElem?_append_left (by omega)]
  obtain ⟨⟨x, h'⟩, e1, e0, e2, e3, e4⟩ := key
  dsimp only at e0 e2 e3 e4
  subst e0
  exact ⟨h', by rw [e1]; rfl, e2, e3, e4⟩
/-- the greatest gain by the list of members is that of byS -/
theorem by_mem {F : Nat → Int32} {w : Nat} {set : Int32} {r : Bool} (n : Nat) : (memL set n).foldl (fun m p => if gainS F p w r ≤ m then m else gainS F p w r) (wo F w / 10) = (byS F n w set r).2 := by
  induction n with
  | zero => rfl
  | succ n ih =>
    have es : byS F (n + 1) w set r = byF F w set r n (byS F n w set r) := rfl
    rw [memL_s, es]
    unfold byF
    cases hb : bs set n with
    | false => simp [ih]
    | true =>
      simp only [if_true, List.foldl_append, List.foldl_cons, List.foldl_nil, ih, true_and]
      by_cases c : (byS F n w set r).2 < gainS F n w r
      · simp [c, Int32.not_le.mpr c]
      · simp [c, Int32.not_lt.mp c]
theorem foldl_take_s {α β : Type} (f : β → α → β) (b : β) (l : List α) (d : α) {i : Nat} (h : i < l.length) : (l.take (i + 1)).foldl f b = f ((l.take i).foldl f b) (l.getD i d) := by
  rw [List.take_succ_eq_append_getElem h, List.foldl_append]
  simp [List.getD_eq_getElem?_getD, List.getElem?_eq_getElem h]
theorem c_value {F : Nat → Int32} {n nw : Nat} {h : HI} {set : Int32} (c : CH F n nw h) (hn2 : n ≤ 12) (hw2 : nw ≤ 12) : ∃ h', FX1_valueOf set h = some (valueS F n nw set, h') ∧ (∀ g, g ≠ 4 → h' g = h g) ∧ CH F n nw h' := by
  obtain ⟨h', e1, e2, e3, e4⟩ := c_list (set := set) c hn2
  have c' := c.of23 e3
  refine ⟨h', ?_, e2, c'⟩
  have hl := memL_len set n
  -- the loops over wants and members, whichever table
  have main : ∀ (k2 : Nat) (r md : Bool), (k2 = if r = true then 20 else 19) → loopN (SX1_valueOf_49 k2 (bI md) (nI (memL set n).length) h') FU (0, 0) = some (foldN (fun w a => a + metS F n w set r md) nw 0) := by
    intro k2 r md hk
    have tb : ∀ w p, w < nw → p < n → h' 4 k2 (w * 12 + p) = gainS F p w r := by
      intro w p hw hp
      have := c'.2.2.2.2.1 w p hw hp
      cases r
      · rw [hk]; exact this.1
      · rw [hk]; exact this.2
    have ok : okI 4 k2 = true ∧ alen k2 = 144 := by
      cases r <;> rw [hk] <;> decide
    refine for_loop (f := SX1_valueOf_49 k2 (bI md) (nI (memL set n).length) h') (fun i => (foldN (fun w a => a + metS F n w set r md) i 0, nI i)) nw _ ?_ ?_ FU (by have := FU_lt; omega)
    · intro w hw
      have inner := for_loop (f := SX1_valueOf_73 k2 (bI md) (nI (memL set n).length) (foldN (fun w a => a + metS F n w set r md) w 0) (nI w) h') (fun i => (((memL set n).take i).foldl (fun m p => if gainS F p w r ≤ m then m else gainS F p w r) (wo F w / 10), nI i)) (memL set n).length (byS F n w set r).2 ?_ ?_ FU (by have := FU_lt; omega)
      · have e0 : (wo F w / 10, (0 : Int32)) = (((memL set n).take 0).foldl (fun m p => if gainS F p w r ≤ m then m else gainS F p w r) (wo F w / 10), nI 0) := rfl
        simp only [SX1_valueOf_49, c'.2.1, nI_le12 hw2 (show w ≤ 12 by omega), gd_ix (show w < 12 by omega) (by decide), nC_n (show w < 2 ^ 31 by omega), nm_eq, c'.2.2.2.1 w hw, e0, inner, Option.bind_some, f_metFrom, nI_1]
        rw [if_neg (by omega)]
        rfl
      · intro i hi
        have hm : (memL set n).getD i 0 < n := by
          refine memL_lt (set := set) ?_
          rw [List.getD_eq_getElem?_getD, List.getElem?_eq_getElem hi]
          exact List.getElem_mem hi
        have e12 : nI w * 12 + nI ((memL set n).getD i 0) = nI (w * 12 + (memL set n).getD i 0) := by
          rw [show (12 : Int32) = nI 12 from rfl, pk_mul, nI_add]
        simp only [SX1_valueOf_73, nI_le12 (show (memL set n).length ≤ 12 by omega) (show i ≤ 12 by omega), gd_ix (show i < 12 by omega) (by decide), nC_n (show i < 2 ^ 31 by omega), e4 i hi, e12, ok.1, ok.2, ixb_n (show w * 12 + (memL set n).getD i 0 < 144 by omega) (by decide), Bool.and_true, gd_1, nC_n (show w * 12 + (memL set n).getD i 0 < 2 ^ 31 by omega), tb w _ hw hm, nm_eq, nI_1]
        rw [if_neg (by omega), foldl_take_s _ _ _ 0 hi]
        split <;> rfl
      · simp only [SX1_valueOf_73, Int32.le_refl, if_true, List.take_length, by_mem]
    · simp only [SX1_valueOf_49, c'.2.1, Int32.le_refl, if_true]
  have hr : (set &&& h 4 18 5 = 0) ↔ ropeS F n set = false := by rw [c.2.2.2.2.2.1]; exact mask0 _ hn2 set
  have hm : (set &&& h 4 18 6 = 0) ↔ mendS F n set = false := by rw [c.2.2.2.2.2.2]; exact mask0 _ hn2 set
  have fin : ∀ k2 (r : Bool), (k2 = if r = true then 20 else 19) → JX1_valueOf_20 set k2 h = some (foldN (fun w a => a + metS F n w set r (mendS F n set)) nw 0, h') := by
    intro k2 r hk
    unfold JX1_valueOf_20 JX1_valueOf_35
    by_cases z : set &&& h 4 18 6 = 0
    · rw [if_pos z, e1, Option.bind_some, hm.mp z]
      have := main k2 r false hk
      rw [show bI false = (0 : Int32) from rfl] at this
      simp only [this, Option.bind_some]
    · have zz : mendS F n set = true := (Bool.not_eq_false _).mp (fun y => z (hm.mpr y))
      rw [if_neg z, e1, Option.bind_some, zz]
      have := main k2 r true hk
      rw [show bI true = (1 : Int32) from rfl] at this
      simp only [this, Option.bind_some]
  unfold FX1_valueOf
  by_cases z : set &&& h 4 18 5 = 0
  · rw [if_pos z, fin 19 false rfl, ← hr.mp z]
    rfl
  · have zz : ropeS F n set = true := (Bool.not_eq_false _).mp (fun y => z (hr.mpr y))
    rw [if_neg z, fin 20 true rfl, ← zz]
    rfl
