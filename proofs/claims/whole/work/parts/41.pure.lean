-- PURE FUNCTIONS of a book: members, kinds, gains
theorem and1 (x : Int32) : x &&& 1 = 0 ∨ x &&& 1 = 1 := by
  obtain ⟨j, hj, e⟩ := pk_andE x (m := 1) 1 (by decide)
  rw [e]
  rcases (show j = 0 ∨ j = 1 by omega) with rfl | rfl
  · exact Or.inl rfl
  · exact Or.inr rfl
/-- phrase p is in a set -/
def bs (set : Int32) (p : Nat) : Bool := decide (¬ (set >>> (nI p &&& 31)) &&& 1 = 0)
theorem f_isIn (set : Int32) (p : Nat) : FX9_isIn set (nI p) = some (bI (bs set p)) := by
  unfold FX9_isIn bs bI
  by_cases h : (set >>> (nI p &&& 31)) &&& 1 = 0
  · rw [if_pos h]; simp [h]
  · rw [if_neg h]; simp [h]
theorem f_has (set : Int32) (p : Nat) : FX10_has set (nI p) = some (bI (bs set p)) := by
  unfold FX10_has bs bI
  rcases and1 (set >>> (nI p &&& 31)) with h | h
  · rw [if_neg (by rw [h]; decide)]; simp [h]
  · rw [if_pos h]; simp [h]
theorem bI_if {α : Type} (b : Bool) (x y : α) : (if bI b = 0 then x else y) = if b = true then y else x := by
  cases b <;> rfl
-- between two numbers
def wi (v a b : Int32) : Bool := decide (a ≤ v) && decide (v ≤ b)
theorem f_within (v a b : Int32) : FX9_within v a b = some (bI (wi v a b)) := by
  unfold FX9_within wi bI
  by_cases h : v < a
  · rw [if_pos h]; simp [Int32.not_le.mpr h]
  · rw [if_neg h]
    by_cases h2 : b < v
    · rw [if_pos h2]; simp [Int32.not_le.mpr h2]
    · rw [if_neg h2]; simp [Int32.not_lt.mp h, Int32.not_lt.mp h2]
theorem l_le (x y : Int32) : x.toInt64 ≤ y.toInt64 ↔ x ≤ y := by
  rw [Int64.le_iff_toInt_le, Int32.le_iff_toInt_le, Int32.toInt_toInt64, Int32.toInt_toInt64]
theorem f_in {v : Int32} {a b : Int64} (a' b' : Int32) (ha : a = a'.toInt64) (hb : b = b'.toInt64) : FX10_in v.toInt64 a b = some (bI (wi v a' b')) := by
  subst ha
  subst hb
  unfold FX10_in wi bI
  by_cases h : a' ≤ v
  · rw [if_neg (by rw [lg_cmp_lt]; exact Int64.not_lt.mpr ((l_le _ _).mpr h))]
    by_cases h2 : v ≤ b'
    · rw [if_neg (by rw [lg_cmp_gt]; exact Int64.not_lt.mpr ((l_le _ _).mpr h2))]; simp [h, h2]
    · rw [if_pos (by rw [lg_cmp_gt]; exact Int64.not_le.mp (fun z => h2 ((l_le _ _).mp z)))]; simp [h2]
  · rw [if_pos (by rw [lg_cmp_lt]; exact Int64.not_le.mp (fun z => h ((l_le _ _).mp z)))]; simp [h]
theorem f_at (p k : Nat) : FX10_at (nI p) (nI k) = some (nI (6 + 6 * p + k)) := by
  unfold FX10_at
  rw [show (6 : Int32) = nI 6 from rfl, pk_mul, nI_add, nI_add]
theorem f_its {h : HI} {p k : Nat} (hp : p < 12) (hk : k < 6) : FX10_its (nI p) (nI k) h = some (h 8 33 (6 + 6 * p + k)) := by
  unfold FX10_its
  rw [f_at, Option.bind_some, gd_ix (by omega) (by decide), nC_n (by omega)]
theorem f_wants {h : HI} {p k : Nat} (hp : p < 12) (hk : k < 5) : FX10_wants (nI p) (nI k) h = some (h 8 33 (78 + 5 * p + k)) := by
  unfold FX10_wants
  rw [show (78 : Int32) = nI 78 from rfl, show (5 : Int32) = nI 5 from rfl, pk_mul, nI_add, nI_add, gd_ix (by omega) (by decide), nC_n (by omega)]
section Its
variable {h : HI} {p : Nat}
theorem its0 (hp : p < 12) : FX10_its (nI p) 0 h = some (kd (tk (h 8 33)) p) := by rw [tkd hp]; exact f_its hp (k := 0) (by decide)
theorem its1 (hp : p < 12) : FX10_its (nI p) 1 h = some (tp (tk (h 8 33)) p) := by rw [ttp hp]; exact f_its hp (k := 1) (by decide)
theorem its2 (hp : p < 12) : FX10_its (nI p) 2 h = some (mi (tk (h 8 33)) p) := by rw [tmi hp]; exact f_its hp (k := 2) (by decide)
theorem its3 (hp : p < 12) : FX10_its (nI p) 3 h = some (sd (tk (h 8 33)) p) := by rw [tsd hp]; exact f_its hp (k := 3) (by decide)
theorem its4 (hp : p < 12) : FX10_its (nI p) 4 h = some (hd (tk (h 8 33)) p) := by rw [thd hp]; exact f_its hp (k := 4) (by decide)
theorem its5 (hp : p < 12) : FX10_its (nI p) 5 h = some (us (tk (h 8 33)) p) := by rw [tus hp]; exact f_its hp (k := 5) (by decide)
theorem wnt0 (hp : p < 12) : FX10_wants (nI p) 0 h = some (wt (tk (h 8 33)) p) := by rw [twt hp]; exact f_wants hp (k := 0) (by decide)
theorem wnt1 (hp : p < 12) : FX10_wants (nI p) 1 h = some (wo (tk (h 8 33)) p) := by rw [two hp]; exact f_wants hp (k := 1) (by decide)
theorem wnt2 (hp : p < 12) : FX10_wants (nI p) 2 h = some (wy (tk (h 8 33)) p) := by rw [twy hp]; exact f_wants hp (k := 2) (by decide)
theorem wnt3 (hp : p < 12) : FX10_wants (nI p) 3 h = some (wh (tk (h 8 33)) p) := by rw [twh hp]; exact f_wants hp (k := 3) (by decide)
theorem wnt4 (hp : p < 12) : FX10_wants (nI p) 4 h = some (wc (tk (h 8 33)) p) := by rw [twc hp]; exact f_wants hp (k := 4) (by decide)
end Its
-- GAIN
def gainS (F : Nat → Int32) (p w : Nat) (r : Bool) : Int32 :=
  let pl := if tp F p = wt F w then wo F w * sd F p / 10 else 0
  let th := if r = true then pl else pl / 2
  if kd F p = 1 then th else if kd F p = 2 then wo F w / 4 else if kd F p = 3 then (if wc F w = 1 then th else th / 3) else if kd F p = 4 then wo F w / 4 + 1 else if kd F p = 5 then (if wh F w = 1 then 3 * pl else pl) else pl
theorem r_gain {h : HI} {p w : Nat} {r : Bool} (hp : p < 12) (hw : w < 12) : FX10_gainOf (nI p) (nI w) (bI r) h = some (gainS (tk (h 8 33)) p w r) := by
  simp only [FX10_gainOf, JX10_gainOf_39, JX10_gainOf_54, its0 hp, its1 hp, its3 hp, wnt0 hw, wnt1 hw, wnt3 hw, wnt4 hw, Option.bind_some, bI_if, gainS]
  by_cases h1 : tp (tk (h 8 33)) p = wt (tk (h 8 33)) w <;> cases r <;> simp only [h1, if_true, if_false, Bool.false_eq_true] <;> (repeat' split) <;> rfl
theorem c_gain {g : Nat} {h : HI} {p w : Nat} {r : Bool} (hp : p < 12) (hw : w < 12) : FX0_gainOf g (nI p) (nI w) (bI r) h = some (gainS (vw (h g)) p w r) := by
  simp only [FX0_gainOf, JX0_gainOf_37, JX0_gainOf_63, JX0_gainOf_78, gd_ix hp (by decide), gd_ix hw (by decide), nC_n (show p < 2 ^ 31 by omega), nC_n (show w < 2 ^ 31 by omega), nm_eq, bI_if, gainS, vkd hp, vtp hp, vsd hp, vwt hw, vwo hw, vwc hw, vwh hw]
  by_cases h1 : h g 3 p = h g 9 w <;> cases r <;> simp only [h1, if_true, if_false, Bool.false_eq_true] <;> (repeat' split) <;> first | rfl | simp_all
