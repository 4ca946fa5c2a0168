-- A DAY
/-- phrases, wants and LINE are as they must be -/
def BP (F : Nat → Int32) (n nw : Nat) : Prop := F 0 = nI n ∧ n ≤ 12 ∧ F 1 = nI nw ∧ nw ≤ 12 ∧ (∀ p, p < n → PI F p) ∧ (∀ w, w < nw → WI F w) ∧ rg (F 2) 1 100
theorem PI_cong {F G : Nat → Int32} {p : Nat} (h : ∀ a, a < 5 → G (6 + 6 * p + a) = F (6 + 6 * p + a)) (k : PI F p) : PI G p := by
  have h0 := h 0 (by decide)
  have h1 := h 1 (by decide)
  have h2 := h 2 (by decide)
  have h3 := h 3 (by decide)
  have h4 := h 4 (by decide)
  unfold PI kd tp mi sd hd at k ⊢
  rw [Nat.add_zero] at h0
  rw [h0, h1, h2, h3, h4]
  exact k
theorem WI_cong {F G : Nat → Int32} {p : Nat} (h : ∀ a, a < 5 → G (78 + 5 * p + a) = F (78 + 5 * p + a)) (k : WI F p) : WI G p := by
  have h0 := h 0 (by decide)
  have h1 := h 1 (by decide)
  have h2 := h 2 (by decide)
  have h3 := h 3 (by decide)
  have h4 := h 4 (by decide)
  unfold WI wt wo wy wh wc at k ⊢
  rw [Nat.add_zero] at h0
  rw [h0, h1, h2, h3, h4]
  exact k
/-- two books that are alike but for HELD, USED, DAY, SCORE, the order -/
def Sim (F G : Nat → Int32) : Prop := (∀ i, i < 3 → G i = F i) ∧ (∀ p a, p < 12 → a < 4 → G (6 + 6 * p + a) = F (6 + 6 * p + a)) ∧ (∀ p a, p < 12 → a < 5 → G (78 + 5 * p + a) = F (78 + 5 * p + a))
theorem Sim.rf (F : Nat → Int32) : Sim F F := ⟨fun _ _ => rfl, fun _ _ _ _ => rfl, fun _ _ _ _ => rfl⟩
theorem Sim.tr {F G H : Nat → Int32} (a : Sim F G) (b : Sim G H) : Sim F H := ⟨fun i hi => (b.1 i hi).trans (a.1 i hi), fun p x hp hx => (b.2.1 p x hp hx).trans (a.2.1 p x hp hx), fun p x hp hx => (b.2.2 p x hp hx).trans (a.2.2 p x hp hx)⟩
theorem Sim.up {F : Nat → Int32} {i : Nat} {x : Int32} (h : 3 ≤ i ∧ i < 6 ∨ (∃ p a, p < 12 ∧ 4 ≤ a ∧ a < 6 ∧ i = 6 + 6 * p + a) ∨ 138 ≤ i) : Sim F (upd F i x) := by
  refine ⟨fun j hj => up_n ?_, fun p a hp ha => up_n ?_, fun p a hp ha => up_n ?_⟩
  · rcases h with h | ⟨q, b, h⟩ | h <;> omega
  · rcases h with h | ⟨q, b, h⟩ | h <;> omega
  · rcases h with h | ⟨q, b, h⟩ | h <;> omega
section SimAcc
variable {F G : Nat → Int32} {p : Nat}
theorem Sim.kd (s : Sim F G) (hp : p < 12) : kd G p = kd F p := s.2.1 p 0 hp (by decide)
theorem Sim.tp (s : Sim F G) (hp : p < 12) : tp G p = tp F p := s.2.1 p 1 hp (by decide)
theorem Sim.mi (s : Sim F G) (hp : p < 12) : mi G p = mi F p := s.2.1 p 2 hp (by decide)
theorem Sim.sd (s : Sim F G) (hp : p < 12) : sd G p = sd F p := s.2.1 p 3 hp (by decide)
theorem Sim.wt (s : Sim F G) (hp : p < 12) : wt G p = wt F p := s.2.2 p 0 hp (by decide)
theorem Sim.wo (s : Sim F G) (hp : p < 12) : wo G p = wo F p := s.2.2 p 1 hp (by decide)
theorem Sim.wy (s : Sim F G) (hp : p < 12) : wy G p = wy F p := s.2.2 p 2 hp (by decide)
theorem Sim.wh (s : Sim F G) (hp : p < 12) : wh G p = wh F p := s.2.2 p 3 hp (by decide)
theorem Sim.wc (s : Sim F G) (hp : p < 12) : wc G p = wc F p := s.2.2 p 4 hp (by decide)
theorem Sim.gain {w : Nat} {r : Bool} (s : Sim F G) (hp : p < 12) (hw : w < 12) : gainS G p w r = gainS F p w r := by
  unfold gainS
  rw [s.kd hp, s.tp hp, s.sd hp, s.wt hw, s.wo hw, s.wh hw, s.wc hw]
theorem Sim.by {w n : Nat} {set : Int32} {r : Bool} (s : Sim F G) (hn : n ≤ 12) (hw : w < 12) : byS G n w set r = byS F n w set r := by
  unfold byS
  rw [s.wo hw]
  refine foldN_cong (fun i a hi => ?_) _
  unfold byF
  rw [s.gain (by omega) hw]
theorem Sim.met {w n : Nat} {set : Int32} {r md : Bool} (s : Sim F G) (hn : n ≤ 12) (hw : w < 12) : metS G n w set r md = metS F n w set r md := by
  unfold metS
  rw [s.by hn hw, s.wo hw]
theorem Sim.rope {n : Nat} {set : Int32} (s : Sim F G) (hn : n ≤ 12) : ropeS G n set = ropeS F n set := any_cong fun i hi => by rw [s.kd (by omega)]
theorem Sim.mend {n : Nat} {set : Int32} (s : Sim F G) (hn : n ≤ 12) : mendS G n set = mendS F n set := any_cong fun i hi => by rw [s.kd (by omega)]
/-- BP without HELD -/
theorem Sim.bp {n nw : Nat} (s : Sim F G) (b : BP F n nw) (hh : ∀ p, p < n → rg (hd G p) 0 100) : BP G n nw := by
  obtain ⟨b1, b2, b3, b4, b5, b6, b7⟩ := b
  refine ⟨(s.1 0 (by decide)).trans b1, b2, (s.1 1 (by decide)).trans b3, b4, fun p hp => ?_, fun w hw => WI_cong (fun a ha => s.2.2 w a (by omega) ha) (b6 w hw), by rw [s.1 2 (by decide)]; exact b7⟩
  have := b5 p hp
  exact ⟨by rw [s.kd (by omega)]; exact this.1, by rw [s.tp (by omega)]; exact this.2.1, by rw [s.mi (by omega)]; exact this.2.2.1, by rw [s.sd (by omega)]; exact this.2.2.2.1, hh p hp⟩
end SimAcc
theorem BP.K {F : Nat → Int32} {n nw : Nat} (b : BP F n nw) : ∀ p, p < n → rg (kd F p) 0 5 := fun p hp => (b.2.2.2.2.1 p hp).1
theorem BP.O {F : Nat → Int32} {n nw : Nat} (b : BP F n nw) : ∀ w, w < nw → rg (wo F w) 0 99 := fun w hw => (b.2.2.2.2.2.1 w hw).2.1
theorem or_0 (x : Int32) : x ||| 0 = x := set_ext (fun p hp => by rw [bs_bt _ hp, bs_bt _ hp, b_or, b_0, Bool.or_false])
-- those that are known
def knS (F : Nat → Int32) (n : Nat) : Int32 := mkS (fun p => !decide (hd F p < F 2)) n
theorem c_isKnown {g : Nat} {h : HI} {p : Nat} (hp : p < 12) : FX0_isKnown g (nI p) h = some (bI (!decide (hd (vw (h g)) p < vw (h g) 2))) := by
  simp only [FX0_isKnown, gd_ix hp (by decide), nC_n (show p < 2 ^ 31 by omega), vhd hp, vw_2]
  by_cases c : h g 6 p < h g 0 3 <;> simp [c, bI]
theorem r_isKnown {h : HI} {p : Nat} (hp : p < 12) : FX10_isKnown (nI p) h = some (bI (!decide (hd (tk (h 8 33)) p < tk (h 8 33) 2))) := by
  simp only [FX10_isKnown, its4 hp, Option.bind_some, tk_lt (show 2 < 150 by decide)]
  by_cases c : hd (tk (h 8 33)) p < h 8 33 2 <;> simp [c, bI]
theorem c_known {g : Nat} {h : HI} {n : Nat} (hn : h g 1 6 = nI n) (hn2 : n ≤ 12) : FX0_knownSet g h = some (knS (vw (h g)) n) := by
  unfold FX0_knownSet
  have e := for_loop (f := SX0_knownSet_4 g h) (fun i => (knS (vw (h g)) i, nI i)) n (knS (vw (h g)) n) ?_ ?_ FU (by have := FU_lt; omega)
  · exact (congrArg (fun z => Option.bind z fun e5 => some e5) e)
  · intro i hi
    simp only [SX0_knownSet_4, hn, nI_le12 hn2 (show i ≤ 12 by omega), c_isKnown (show i < 12 by omega), Option.bind_some, bI_if, nm_eq, nI_1]
    rw [if_neg (by omega)]
    unfold knS
    rw [mkS_s]
    split <;> simp_all [or_0]
  · simp only [SX0_knownSet_4, hn, Int32.le_refl, if_true]
theorem r_known {h : HI} {n : Nat} (hn : h 8 33 0 = nI n) (hn2 : n ≤ 12) : FX10_knownSet h = some (knS (tk (h 8 33)) n) := by
  unfold FX10_knownSet
  have e := for_loop (f := SX10_knownSet_4 h) (fun i => (knS (tk (h 8 33)) i, nI i)) n (knS (tk (h 8 33)) n) ?_ ?_ FU (by have := FU_lt; omega)
  · exact (congrArg (fun z => Option.bind z fun e5 => some e5) e)
  · intro i hi
    simp only [SX10_knownSet_4, hn, nI_le12 hn2 (show i ≤ 12 by omega), r_isKnown (show i < 12 by omega), Option.bind_some, bI_if, nm_eq, nI_1]
    rw [if_neg (by omega)]
    unfold knS
    rw [mkS_s]
    split <;> simp_all
  · simp only [SX10_knownSet_4, hn, Int32.le_refl, if_true]
-- what is forgotten
def forS (F : Nat → Int32) (p : Nat) : Int32 := if kd F p = 1 then 15 else if kd F p = 2 then 5 else if kd F p = 3 then 20 else if kd F p = 4 then 5 else if kd F p = 5 then 10 + (if 50 < hd F p then hd F p - 50 else 0) / 2 else 10
theorem r_forgets {h : HI} {p : Nat} (hp : p < 12) : FX10_forgets (nI p) h = some (forS (tk (h 8 33)) p) := by
  simp only [FX10_forgets, JX10_forgets_24, its0 hp, its4 hp, Option.bind_some, forS]
  by_cases c : 50 < hd (tk (h 8 33)) p
  · simp only [Int32.not_le.mpr c, c, if_true, if_false]
    (repeat' split) <;> rfl
  · simp only [Int32.not_lt.mp c, c, if_true, if_false]
    (repeat' split) <;> rfl
theorem c_forgets {g : Nat} {h : HI} {p : Nat} (hp : p < 12) (hh : rg (hd (vw (h g)) p) 0 100) : FX5_forgets g (nI p) h = some (forS (vw (h g)) p) := by
  have e : (0 < hd (vw (h g)) p - 50) ↔ 50 < hd (vw (h g)) p := by
    obtain ⟨a, -, ha, e⟩ := hh
    rw [e, show (50 : Int32) = nI 50 from rfl, nI_ltI (by omega) (by omega), Int32.lt_iff_toInt_lt, pk_sub_toInt (by omega) (by omega), show (0 : Int32).toInt = 0 from rfl]
    omega
  rw [vhd hp] at e
  simp only [FX5_forgets, gd_ix hp (by decide), nC_n (show p < 2 ^ 31 by omega), nm_eq, forS, vkd hp, vhd hp, e]
  (repeat' split) <;> rfl
theorem for_rg {F : Nat → Int32} {p : Nat} (hh : rg (hd F p) 0 100) : rg (forS F p) 0 35 := by
  unfold forS
  split
  · exact ⟨15, by decide, by decide, rfl⟩
  split
  · exact ⟨5, by decide, by decide, rfl⟩
  split
  · exact ⟨20, by decide, by decide, rfl⟩
  split
  · exact ⟨5, by decide, by decide, rfl⟩
  split
  · have k : rg (if 50 < hd F p then hd F p - 50 else 0) 0 50 := by
      split
      · next c =>
        obtain ⟨a, -, ha, e⟩ := hh
        rw [e, show (50 : Int32) = nI 50 from rfl] at c ⊢
        rw [nI_ltI (by omega) (by omega)] at c
        exact ⟨a - 50, by omega, by omega, pk_sub (by omega)⟩
      · exact ⟨0, by decide, by decide, rfl⟩
    exact rg_mono (rg_add (rg_lit 10) (rg_div 2 k (by decide) (by decide) (by decide))) (by decide) (by decide)
  · exact ⟨10, by decide, by decide, rfl⟩
