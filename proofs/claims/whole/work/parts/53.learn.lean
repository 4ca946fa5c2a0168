-- learning; an evening
def learnV (F : Nat → Int32) (p : Nat) (m : Int32) : Int32 := if hd F p + 100 * m / mi F p < 100 then hd F p + 100 * m / mi F p else 100
def learnS (F : Nat → Int32) (p : Nat) (m : Int32) : Nat → Int32 := upd F (6 + 6 * p + 4) (learnV F p m)
theorem mi_ne {x : Int32} (h : rg x 1 60) : ¬ x = 0 ∧ (if 1 < x then x else 1) = x := by
  obtain ⟨a, h1, h2, rfl⟩ := h
  refine ⟨nI_ne0 (by omega) (by omega), ?_⟩
  by_cases c : (1 : Int32) < nI a
  · rw [if_pos c]
  · rw [if_neg c]
    rw [show (1 : Int32) = nI 1 from rfl, nI_ltI (by decide) (by omega)] at c
    rw [show a = 1 by omega]
    rfl
theorem c_learn {g : Nat} {h : HI} {F : Nat → Int32} {p : Nat} {m : Int32} (e : vw (h g) = F) (hp : p < 12) (hm : rg (mi F p) 1 60) : ∃ h', FX5_learnFor g (nI p) m h = some h' ∧ BkTo h g (learnS F p m) h' := by
  have e4 : h g 4 p = mi F p := by rw [← e, vmi hp]
  have e6 : h g 6 p = hd F p := by rw [← e, vhd hp]
  have pu := bk_p (h := h) (g := g) (p := p) (k := 4) (x := learnV F p m) hp (by decide)
  rw [e] at pu
  refine ⟨_, ?_, pu⟩
  unfold FX5_learnFor
  rw [gd_ix hp (by decide), nC_n (show p < 2 ^ 31 by omega), e4, (mi_ne hm).2, gd_t (by rw [decide_eq_false (mi_ne hm).1]; rfl), nm_eq, gd_ix hp (by decide), gd_ix hp (by decide), nm_eq, e6]
  rfl
theorem r_learn {h : HI} {F : Nat → Int32} {p : Nat} {m : Int32} (e : tk (h 8 33) = F) (hp : p < 12) (hm : rg (mi F p) 1 60) : ∃ h', FX10_learns (nI p) m h = some h' ∧ RkTo h (learnS F p m) h' := by
  have pu := rk_u (h := h) (i := 6 + 6 * p + 4) (x := learnV F p m) (by omega)
  rw [e] at pu
  refine ⟨_, ?_, pu⟩
  have i4 := its4 (h := h) hp
  have i2 := its2 (h := h) hp
  have ea := f_at p 4
  rw [show nI 4 = (4 : Int32) from rfl] at ea
  rw [e] at i4 i2
  unfold FX10_learns
  rw [i4, Option.bind_some, i2, Option.bind_some, gd_t (by rw [decide_eq_false (mi_ne hm).1]; rfl), nm_eq, ea, Option.bind_some, gd_ix (show 6 + 6 * p + 4 < 150 by omega) (by decide), gd_ix (show 6 + 6 * p + 4 < 150 by omega) (by decide), nm_eq, nm_eq, nC_n (show 6 + 6 * p + 4 < 2 ^ 31 by omega)]
  unfold learnV
  by_cases c : hd F p + 100 * m / mi F p < 100
  · rw [if_neg (Int32.not_le.mpr c), if_pos c]
  · rw [if_pos (Int32.not_lt.mp c), if_neg c]
theorem learn_rg {F : Nat → Int32} {p : Nat} {m : Int32} (hh : rg (hd F p) 0 100) (hm : rg (mi F p) 1 60) (hq : rg m 0 600) : rg (learnV F p m) 0 100 := by
  obtain ⟨a, -, ha, ea⟩ := hh
  obtain ⟨b, hb1, hb2, eb⟩ := hm
  obtain ⟨c, -, hc, rfl⟩ := hq
  unfold learnV
  have hq1 : 100 * c / b ≤ 60000 := Nat.le_trans (Nat.div_le_self _ _) (by omega)
  have e1 : hd F p + 100 * nI c / mi F p = nI (a + 100 * c / b) := by
    rw [ea, eb, show (100 : Int32) = nI 100 from rfl, pk_mul, pk_div (by omega) (by omega) (by omega), nI_add]
  rw [e1]
  split
  · next z =>
    rw [show (100 : Int32) = nI 100 from rfl, nI_ltI (by omega) (by omega)] at z
    exact ⟨_, Nat.zero_le _, Nat.le_of_lt z, rfl⟩
  · exact ⟨100, by decide, by decide, rfl⟩
theorem learnS_inv {F : Nat → Int32} {n nw p : Nat} {m : Int32} (b : BP F n nw) (hp : p < n) (hq : rg m 0 600) : Sim F (learnS F p m) ∧ BP (learnS F p m) n nw ∧ (∀ i, i < 6 → learnS F p m i = F i) ∧ (∀ i, 138 ≤ i → learnS F p m i = F i) := by
  have hn2 := b.2.1
  have sm : Sim F (learnS F p m) := Sim.up (Or.inr (Or.inl ⟨p, 4, by omega, by decide, by decide, rfl⟩))
  refine ⟨sm, sm.bp b (fun q hq2 => ?_), fun i hi => up_n (by omega), fun i hi => up_n (by omega)⟩
  have hP := b.2.2.2.2.1
  show rg (upd F (6 + 6 * p + 4) _ (6 + 6 * q + 4)) 0 100
  by_cases e : q = p
  · subst e
    rw [up_s]
    exact learn_rg (hP q hq2).2.2.2.2 (hP q hq2).2.2.1 hq
  · rw [up_n (by omega)]
    exact (hP q hq2).2.2.2.2
/-- the order is of phrases -/
def OI (F : Nat → Int32) (n l : Nat) : Prop := F 5 = nI l ∧ l ≤ n ∧ (∀ i, i < l → ∃ p, p < n ∧ od F i = nI p) ∧ (∀ i j, i < l → j < l → od F i = od F j → i = j)
theorem OI_cong {F G : Nat → Int32} {n l : Nat} (h5 : G 5 = F 5) (ho : ∀ i, i < 12 → od G i = od F i) (hl : l ≤ 12) (o : OI F n l) : OI G n l := by
  obtain ⟨o1, o2, o3, o4⟩ := o
  exact ⟨h5.trans o1, o2, fun i hi => by rw [ho i (by omega)]; exact o3 i hi, fun i j hi hj e => o4 i j hi hj (by rw [← ho i (by omega), ← ho j (by omega)]; exact e)⟩
-- an evening: (minutes left, the book)
def evF (i : Nat) (x : Int32 × (Nat → Int32)) : Int32 × (Nat → Int32) :=
  if x.1 ≤ 0 then x else if hd x.2 (nC (od x.2 i)) < x.2 2 then (x.1 - (if mi x.2 (nC (od x.2 i)) < x.1 then mi x.2 (nC (od x.2 i)) else x.1), learnS x.2 (nC (od x.2 i)) (if mi x.2 (nC (od x.2 i)) < x.1 then mi x.2 (nC (od x.2 i)) else x.1)) else x
def evS (F : Nat → Int32) (m : Int32) (k : Nat) : Int32 × (Nat → Int32) := foldN evF k (m, F)
theorem spent_rg {x y : Int32} (hx : rg x 0 600) (hy : rg y 1 60) (hc : ¬ x ≤ 0) : rg (if y < x then y else x) 0 600 ∧ rg (x - (if y < x then y else x)) 0 600 := by
  obtain ⟨a, -, ha, rfl⟩ := hx
  obtain ⟨b, hb1, hb2, rfl⟩ := hy
  by_cases c : nI b < nI a
  · rw [if_pos c]
    rw [nI_ltI (by omega) (by omega)] at c
    exact ⟨⟨b, by omega, by omega, rfl⟩, ⟨a - b, by omega, by omega, pk_sub (by omega)⟩⟩
  · rw [if_neg c]
    exact ⟨⟨a, by omega, by omega, rfl⟩, ⟨0, by omega, by omega, by rw [Int32.sub_self]; rfl⟩⟩
theorem evF_inv {n nw l i : Nat} {x : Int32 × (Nat → Int32)} (b : BP x.2 n nw) (o : OI x.2 n l) (hi : i < l) (hx : rg x.1 0 600) : BP (evF i x).2 n nw ∧ Sim x.2 (evF i x).2 ∧ (∀ j, j < 6 → (evF i x).2 j = x.2 j) ∧ (∀ j, 138 ≤ j → (evF i x).2 j = x.2 j) ∧ rg (evF i x).1 0 600 := by
  obtain ⟨p, hp, ep⟩ := o.2.2.1 i hi
  have hn2 := b.2.1
  unfold evF
  rw [ep, nC_n (by omega)]
  split
  · exact ⟨b, Sim.rf _, fun _ _ => rfl, fun _ _ => rfl, hx⟩
  · next c =>
    split
    · have sp := spent_rg hx (b.2.2.2.2.1 p hp).2.2.1 c
      have li := learnS_inv b hp sp.1
      exact ⟨li.2.1, li.1, li.2.2.1, li.2.2.2, sp.2⟩
    · exact ⟨b, Sim.rf _, fun _ _ => rfl, fun _ _ => rfl, hx⟩
theorem evS_inv {F : Nat → Int32} {n nw l : Nat} {m : Int32} (b : BP F n nw) (o : OI F n l) (hm : rg m 0 600) (k : Nat) (hk : k ≤ l) : BP (evS F m k).2 n nw ∧ Sim F (evS F m k).2 ∧ (∀ j, j < 6 → (evS F m k).2 j = F j) ∧ (∀ j, 138 ≤ j → (evS F m k).2 j = F j) ∧ rg (evS F m k).1 0 600 ∧ OI (evS F m k).2 n l := by
  have hn2 := b.2.1
  have hl := o.2.1
  unfold evS
  refine foldN_inv (fun i (x : Int32 × (Nat → Int32)) => BP x.2 n nw ∧ Sim F x.2 ∧ (∀ j, j < 6 → x.2 j = F j) ∧ (∀ j, 138 ≤ j → x.2 j = F j) ∧ rg x.1 0 600 ∧ OI x.2 n l) ⟨b, Sim.rf F, fun _ _ => rfl, fun _ _ => rfl, hm, o⟩ (fun i x hi hx => ?_)
  obtain ⟨h1, h2, h3, h4, h5, h6⟩ := hx
  obtain ⟨k1, k2, k3, k4, k5⟩ := evF_inv h1 h6 (show i < l by omega) h5
  exact ⟨k1, h2.tr k2, fun j hj => (k3 j hj).trans (h3 j hj), fun j hj => (k4 j hj).trans (h4 j hj), k5, OI_cong (k3 5 (by decide)) (fun j hj => k4 (138 + j) (by omega)) (by omega) h6⟩
theorem evF_done {x : Int32 × (Nat → Int32)} (h : x.1 ≤ 0) (i : Nat) : evF i x = x := by
  unfold evF
  rw [if_pos h]
theorem evS_done {F : Nat → Int32} {m : Int32} {i : Nat} (h : (evS F m i).1 ≤ 0) : ∀ j, i ≤ j → evS F m j = evS F m i := by
  intro j hj
  obtain ⟨d, rfl⟩ : ∃ d, j = i + d := ⟨j - i, by omega⟩
  induction d with
  | zero => rfl
  | succ d ih =>
    have es : evS F m (i + (d + 1)) = evF (i + d) (evS F m (i + d)) := rfl
    have ih' := ih (by omega)
    rw [es, ih', evF_done h]
theorem c_evening {g : Nat} {h : HI} {F : Nat → Int32} {n nw l : Nat} {m : Int32} (e : vw (h g) = F) (b : BP F n nw) (o : OI F n l) (hm : rg m 0 600) : ∃ h', FX0_spendEvening g m h = some ((evS F m l).1, h') ∧ BkTo h g (evS F m l).2 h' := by
  have hn2 := b.2.1
  have hl := o.2.1
  have key : ∃ r, loopN (SX0_spendEvening_4 g) FU (m, 0, h) = some r ∧ (fun r : Int32 × HI => r.1 = (evS F m l).1 ∧ BkTo h g (evS F m l).2 r.2) r := by
    refine gloop (f := SX0_spendEvening_4 g) (fun i (s : Int32 × Int32 × HI) => s.1 = (evS F m i).1 ∧ s.2.1 = nI i ∧ BkTo h g (evS F m i).2 s.2.2) _ l ?_ (k := FU) (by have := FU_lt; omega) (s0 := (m, 0, h)) ⟨rfl, rfl, by rw [show (evS F m 0).2 = vw (h g) from e.symm]; exact BkTo.rf⟩
    rintro i ⟨a, q, h1⟩ hi ⟨rfl, rfl, i1⟩
    dsimp only at i1
    obtain ⟨v1, v2, v3, v4, v5, v6⟩ := evS_inv b o hm i hi
    have ei := i1.at
    obtain ⟨f0, f1, f2, f3, f4, f5⟩ := bk0 ei
    rw [v6.1] at f5
    by_cases z : i = l
    · refine Or.inr ⟨((evS F m i).1, h1), ?_, by rw [z], by rw [← z]; exact i1⟩
      simp only [SX0_spendEvening_4, f5, z, Int32.le_refl, if_true]
    · by_cases y : (evS F m i).1 ≤ 0
      · have ed := evS_done y l hi
        refine Or.inr ⟨((evS F m i).1, h1), ?_, by rw [ed], by rw [ed]; exact i1⟩
        simp only [SX0_spendEvening_4, f5, nI_le12 (show l ≤ 12 by omega) (show i ≤ 12 by omega), y, if_true]
        rw [if_neg (by omega)]
      · refine Or.inl ⟨by omega, ?_⟩
        have es : evS F m (i + 1) = evF i (evS F m i) := rfl
        rw [es]
        obtain ⟨p, hp, ep⟩ := v6.2.2.1 i (by omega)
        generalize evS F m i = x at i1 v1 v2 v5 v6 ei f2 f5 y ep ⊢
        have eo : h1 g 15 i = nI p := by rw [← ep, ← ei, vod (by omega)]
        have e4 : h1 g 4 p = mi x.2 p := by rw [← ei, vmi (by omega)]
        have hk := c_isKnown (g := g) (h := h1) (p := p) (by omega)
        rw [ei] at hk
        have hmi := (v1.2.2.2.2.1 p hp).2.2.1
        obtain ⟨h2, l1, l2⟩ := c_learn (g := g) (h := h1) (m := if mi x.2 p < x.1 then mi x.2 p else x.1) ei (show p < 12 by omega) hmi
        unfold SX0_spendEvening_4 evF
        dsimp only
        rw [f5, if_neg (show ¬ nI l ≤ nI i by rw [nI_le12 (by omega) (by omega)]; omega), if_neg y, if_neg y, gd_ix (show i < 12 by omega) (by decide), nC_n (show i < 2 ^ 31 by omega), nm_eq, eo, hk, Option.bind_some, bI_if, gd_ix (show p < 12 by omega) (by decide), nm_eq, nC_n (show p < 2 ^ 31 by omega), e4, l1, Option.bind_some, nm_eq, ep, nC_n (show p < 2 ^ 31 by omega), nI_1]
        by_cases c : hd x.2 p < x.2 2
        · rw [if_pos c, decide_eq_true c, if_neg (by decide)]
          exact ⟨_, rfl, rfl, rfl, i1.tr l2⟩
        · rw [if_neg c, decide_eq_false c, if_pos (by decide)]
          exact ⟨_, rfl, rfl, rfl, i1⟩
  obtain ⟨⟨x, h'⟩, k1, k2, k3⟩ := key
  dsimp only at k2 k3
  subst k2
  exact ⟨h', by simp only [FX0_spendEvening, k1, Option.bind_some], k3⟩
theorem r_evening {h : HI} {F : Nat → Int32} {n nw l : Nat} {m : Int32} (e : tk (h 8 33) = F) (b : BP F n nw) (o : OI F n l) (hm : rg m 0 600) : ∃ h', FX10_eveningOf m h = some ((evS F m l).1, h') ∧ RkTo h (evS F m l).2 h' := by
  have hn2 := b.2.1
  have hl := o.2.1
  have key : ∃ r, loopN (SX10_eveningOf_4) FU (m, 0, h) = some r ∧ (fun r : Int32 × HI => r.1 = (evS F m l).1 ∧ RkTo h (evS F m l).2 r.2) r := by
    refine gloop (f := SX10_eveningOf_4) (fun i (s : Int32 × Int32 × HI) => s.1 = (evS F m i).1 ∧ s.2.1 = nI i ∧ RkTo h (evS F m i).2 s.2.2) _ l ?_ (k := FU) (by have := FU_lt; omega) (s0 := (m, 0, h)) ⟨rfl, rfl, by rw [show (evS F m 0).2 = tk (h 8 33) from e.symm]; exact RkTo.rf⟩
    rintro i ⟨a, q, h1⟩ hi ⟨rfl, rfl, i1⟩
    dsimp only at i1
    obtain ⟨v1, v2, v3, v4, v5, v6⟩ := evS_inv b o hm i hi
    have ei := i1.at
    have f5 : h1 8 33 5 = nI l := (rk0 ei (by decide)).trans v6.1
    by_cases z : i = l
    · refine Or.inr ⟨((evS F m i).1, h1), ?_, by rw [z], by rw [← z]; exact i1⟩
      simp only [SX10_eveningOf_4, f5, z, Int32.le_refl, if_true]
    · by_cases y : (evS F m i).1 ≤ 0
      · have ed := evS_done y l hi
        refine Or.inr ⟨((evS F m i).1, h1), ?_, by rw [ed], by rw [ed]; exact i1⟩
        simp only [SX10_eveningOf_4, f5, nI_le12 (show l ≤ 12 by omega) (show i ≤ 12 by omega), y, if_true]
        rw [if_neg (by omega)]
      · refine Or.inl ⟨by omega, ?_⟩
        have es : evS F m (i + 1) = evF i (evS F m i) := rfl
        rw [es]
        obtain ⟨p, hp, ep⟩ := v6.2.2.1 i (by omega)
        generalize evS F m i = x at i1 v1 v2 v5 v6 ei y ep ⊢
        have e138 : (138 : Int32) + nI i = nI (138 + i) := by rw [show (138 : Int32) = nI 138 from rfl, nI_add]
        have eo : h1 8 33 (138 + i) = nI p := by rw [rk0 ei (by omega)]; exact ep
        have e2 := its2 (h := h1) (show p < 12 by omega)
        have hk := r_isKnown (h := h1) (p := p) (by omega)
        rw [ei] at hk e2
        have hmi := (v1.2.2.2.2.1 p hp).2.2.1
        obtain ⟨h2, l1, l2⟩ := r_learn (h := h1) (m := if mi x.2 p < x.1 then mi x.2 p else x.1) ei (show p < 12 by omega) hmi
        unfold SX10_eveningOf_4 evF JX10_eveningOf_61
        dsimp only
        rw [f5, if_neg (show ¬ nI l ≤ nI i by rw [nI_le12 (by omega) (by omega)]; omega), if_neg y, if_neg y, e138, gd_ix (show 138 + i < 150 by omega) (by decide), nC_n (show 138 + i < 2 ^ 31 by omega), nm_eq, eo, hk, Option.bind_some, bI_if, e2, Option.bind_some, Option.bind_some, ep, nC_n (show p < 2 ^ 31 by omega), nI_1]
        by_cases c : hd x.2 p < x.2 2
        · rw [if_pos c, decide_eq_true c, if_neg (by decide)]
          by_cases c2 : mi x.2 p < x.1
          · rw [if_pos c2] at l1 l2 ⊢
            rw [if_neg (Int32.not_le.mpr c2), l1, Option.bind_some, nm_eq]
            exact ⟨_, rfl, rfl, rfl, i1.tr l2⟩
          · rw [if_neg c2] at l1 l2 ⊢
            rw [if_pos (Int32.not_lt.mp c2), l1, Option.bind_some, nm_eq]
            exact ⟨_, rfl, rfl, rfl, i1.tr l2⟩
        · rw [if_neg c, decide_eq_false c, if_pos (by decide)]
          exact ⟨_, rfl, rfl, rfl, i1⟩
  obtain ⟨⟨x, h'⟩, k1, k2, k3⟩ := key
  dsimp only at k2 k3
  subst k2
  exact ⟨h', by simp only [FX10_eveningOf, k1, Option.bind_some], k3⟩
