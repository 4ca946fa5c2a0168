-- looking ahead: a book taken over, the row put by and put back
theorem BkTo.mk {h h' : HI} {g : Nat} {F : Nat → Int32} (o : ∀ g', g' ≠ g → h' g' = h g') (e : vw (h' g) = F) : BkTo h g F h' := by
  refine ⟨h' g, ?_, e⟩
  funext g'
  by_cases c : g' = g
  · subst c
    rw [hU_s]
  · rw [hU_n c, o g' c]
/-- of book g the cells of P are as those of book g1 -/
def TkP (h : HI) (g g1 : Nat) (P : Nat → Nat → Prop) (h' : HI) : Prop := (∀ g', g' ≠ g → h' g' = h g') ∧ ∀ k j, P k j → h' g k j = h g1 k j
theorem TkP.all {h h1 : HI} {g g1 k : Nat} {P : Nat → Nat → Prop} (a : TkP h g g1 P h1) (ne : g1 ≠ g) : TkP h g g1 (fun k' j => (k' = k ∧ j < 12) ∨ P k' j) (hPF h1 g k (va_cpy (h1 g1 k) (h1 g k) 0 0 12)) := by
  refine ⟨fun g' e => ?_, fun k' j p => ?_⟩
  · unfold hPF
    rw [hU_n e, a.1 g' e]
  · by_cases c : k' = k
    · subst c
      rw [hPF_s]
      unfold va_cpy
      by_cases d : j < 12
      · rw [if_pos (by omega), a.1 g1 ne]
        congr 1
        omega
      · rw [if_neg (by omega)]
        refine a.2 k' j ?_
        rcases p with p | p
        · exact absurd p.2 d
        · exact p
    · rw [hPF_n (fun z => c z.2)]
      refine a.2 k' j ?_
      rcases p with p | p
      · exact absurd p.1 c
      · exact p
theorem TkP.one {h h1 : HI} {g g1 k i : Nat} {P : Nat → Nat → Prop} (a : TkP h g g1 P h1) (ne : g1 ≠ g) : TkP h g g1 (fun k' j => (k' = k ∧ j = i) ∨ P k' j) (hP1 h1 g k i (h1 g1 k i)) := by
  refine ⟨fun g' e => ?_, fun k' j p => ?_⟩
  · unfold hP1
    rw [hU_n e, a.1 g' e]
  · rw [hP1_eq, hU_s]
    by_cases c : k' = k ∧ j = i
    · rw [c.1, c.2, bU_s, a.1 g1 ne]
    · rw [bU_n c]
      refine a.2 k' j ?_
      rcases p with p | p
      · exact absurd p c
      · exact p
theorem tk_all {h h1 : HI} {g g1 k : Nat} {P : Nat → Nat → Prop} {f : HI → Option HI} {Q : HI → Prop} (a : TkP h g g1 P h1) (ne : g1 ≠ g) (kk : ∀ h2, TkP h g g1 (fun k' j => (k' = k ∧ j < 12) ∨ P k' j) h2 → ∃ h', f h2 = some h' ∧ Q h') : ∃ h', nm (hPF h1 g k (va_cpy (h1 g1 k) (h1 g k) 0 0 12)) f = some h' ∧ Q h' := kk _ (a.all ne)
theorem tk_one {h h1 : HI} {g g1 k i : Nat} {P : Nat → Nat → Prop} {f : HI → Option HI} {Q : HI → Prop} (a : TkP h g g1 P h1) (ne : g1 ≠ g) (kk : ∀ h2, TkP h g g1 (fun k' j => (k' = k ∧ j = i) ∨ P k' j) h2 → ∃ h', f h2 = some h' ∧ Q h') : ∃ h', nm (hP1 h1 g k i (h1 g1 k i)) f = some h' ∧ Q h' := kk _ (a.one ne)
theorem TkP.mono {h h1 : HI} {g g1 : Nat} {P R : Nat → Nat → Prop} (a : TkP h g g1 P h1) (m : ∀ k j, R k j → P k j) : TkP h g g1 R h1 := ⟨a.1, fun k j r => a.2 k j (m k j r)⟩
theorem c_take5 {h h0 : HI} {g g1 : Nat} (ne : g1 ≠ g) {P : Nat → Nat → Prop} (t0 : TkP h g g1 P h0) : ∃ h', FX5_takeFrom g g1 h0 = some h' ∧ TkP h g g1 (fun k j => (k = 1 ∧ j = 6) ∨ (2 ≤ k ∧ k < 8 ∧ j < 12) ∨ P k j) h' := by
  unfold FX5_takeFrom
  refine tk_one t0 ne (fun h1 t1 => ?_)
  refine tk_all t1 ne (fun h2 t2 => ?_)
  refine tk_all t2 ne (fun h3 t3 => ?_)
  refine tk_all t3 ne (fun h4 t4 => ?_)
  refine tk_all t4 ne (fun h5 t5 => ?_)
  refine tk_all t5 ne (fun h6 t6 => ?_)
  refine tk_all t6 ne (fun h7 t7 => ?_)
  refine ⟨h7, rfl, t7.mono (fun k j r => ?_)⟩
  rcases r with r | r | r
  · omega
  · omega
  · exact Or.inr (Or.inr (Or.inr (Or.inr (Or.inr (Or.inr (Or.inr r))))))
theorem c_take8 {h h0 : HI} {g g1 : Nat} (ne : g1 ≠ g) {P : Nat → Nat → Prop} (t0 : TkP h g g1 P h0) : ∃ h', FX8_takeFrom g g1 h0 = some h' ∧ TkP h g g1 (fun k j => (k = 8 ∧ j = 5) ∨ (9 ≤ k ∧ k < 14 ∧ j < 12) ∨ P k j) h' := by
  unfold FX8_takeFrom
  refine tk_one t0 ne (fun h1 t1 => ?_)
  refine tk_all t1 ne (fun h2 t2 => ?_)
  refine tk_all t2 ne (fun h3 t3 => ?_)
  refine tk_all t3 ne (fun h4 t4 => ?_)
  refine tk_all t4 ne (fun h5 t5 => ?_)
  refine tk_all t5 ne (fun h6 t6 => ?_)
  refine ⟨h6, rfl, t6.mono (fun k j r => ?_)⟩
  rcases r with r | r | r
  · omega
  · omega
  · exact Or.inr (Or.inr (Or.inr (Or.inr (Or.inr (Or.inr r)))))
theorem c_take3 {h h0 : HI} {g g1 : Nat} (ne : g1 ≠ g) {P : Nat → Nat → Prop} (t0 : TkP h g g1 P h0) : ∃ h', FX3_takeFrom g g1 h0 = some h' ∧ TkP h g g1 (fun k j => (k = 14 ∧ j = 1) ∨ (k = 15 ∧ j < 12) ∨ P k j) h' := by
  unfold FX3_takeFrom
  refine tk_one t0 ne (fun h1 t1 => ?_)
  refine tk_all t1 ne (fun h2 t2 => ?_)
  refine ⟨h2, rfl, t2.mono (fun k j r => ?_)⟩
  rcases r with r | r | r
  · omega
  · omega
  · exact Or.inr (Or.inr r)
theorem c_take {h : HI} {g g1 : Nat} (ne : g1 ≠ g) : ∃ h', FX0_takeFrom g g1 h = some h' ∧ BkTo h g (vw (h g1)) h' := by
  have t0 : TkP h g g1 (fun _ _ => False) h := ⟨fun _ _ => rfl, fun _ _ z => z.elim⟩
  obtain ⟨h1, a1, t1⟩ := c_take5 ne t0
  obtain ⟨h2, a2, t2⟩ := c_take8 ne t1
  obtain ⟨h3, a3, t3⟩ := c_take3 ne t2
  unfold FX0_takeFrom
  rw [a1, Option.bind_some, a2, Option.bind_some, a3, Option.bind_some]
  refine tk_one t3 ne (fun h4 t4 => ?_)
  refine tk_one t4 ne (fun h5 t5 => ?_)
  refine tk_one t5 ne (fun h6 t6 => ?_)
  refine ⟨h6, rfl, BkTo.mk t6.1 ?_⟩
  have p := t6.2
  refine flat_ext (fun i hi => ?_) (fun q j hq hj => ?_) (fun q j hq hj => ?_) (fun i hi => ?_) (fun i hi => ?_)
  · rw [vw6 hi, vw6 hi, p 1 6 (by omega), p 8 5 (by omega), p 0 3 (by omega), p 0 4 (by omega), p 0 5 (by omega), p 14 1 (by omega)]
  · rw [vw_p hq hj, vw_p hq hj]
    exact p _ _ (by omega)
  · rw [vw_w hq hj, vw_w hq hj]
    exact p _ _ (by omega)
  · rw [vw_o hi, vw_o hi]
    exact p _ _ (by omega)
  · rw [vw_big hi, vw_big hi]
theorem r_puts {h : HI} : ∃ h', FX10_puts h = some h' ∧ ∃ s, h' = hPF h 8 35 s ∧ tk s = tk (h 8 33) := by
  have key : ∃ h', loopN SX10_puts_2 FU (0, h) = some h' ∧ ∃ s, h' = hPF h 8 35 s ∧ tk s = tk (h 8 33) := by
    refine gloop (f := SX10_puts_2) (fun i (s : Int32 × HI) => s.1 = nI i ∧ ∃ f, s.2 = hPF h 8 35 f ∧ ∀ j, j < i → f j = h 8 33 j) _ 150 ?_ (k := FU) (by have := FU_lt; omega) (s0 := (0, h)) ⟨rfl, h 8 35, hPF_self.symm, fun j hj => by omega⟩
    rintro i ⟨q, h1⟩ hi ⟨rfl, f, i1, i2⟩
    dsimp only at i1
    unfold SX10_puts_2
    dsimp only
    rw [show (150 : Int32) = nI 150 from rfl]
    by_cases z : i = 150
    · refine Or.inr ⟨h1, by rw [if_pos (le_t (by omega) (by omega) (by omega))], f, i1, ?_⟩
      funext j
      unfold tk
      by_cases c : j < 150
      · rw [if_pos c, if_pos c, i2 j (by omega)]
      · rw [if_neg c, if_neg c]
    · refine Or.inl ⟨by omega, (nI (i + 1), hP1 h1 8 35 i (h1 8 33 i)), ?_, rfl, upd f i (h 8 33 i), ?_, fun j hj => ?_⟩
      · rw [if_neg (le_f (by omega) (by omega) (by omega)), gd_ix (show i < 150 by omega) (by decide), gd_ix (show i < 150 by omega) (by decide), nC_n (show i < 2 ^ 31 by omega), nm_eq, nI_1]
      · dsimp only
        rw [i1, hPF_n (by decide)]
        show hPF (hPF h 8 35 f) 8 35 (upd (hPF h 8 35 f 8 35) i (h 8 33 i)) = _
        rw [hPF_hPF, hPF_s]
      · by_cases c : j = i
        · rw [c, up_s]
        · rw [up_n c, i2 j (by omega)]
  obtain ⟨h', k1, k2⟩ := key
  exact ⟨h', by unfold FX10_puts; rw [k1]; rfl, k2⟩
theorem r_putsBack {h : HI} {F : Nat → Int32} (e : tk (h 8 35) = F) : ∃ h', FX10_putsBack h = some h' ∧ RkTo h F h' := by
  have key : ∃ h', loopN SX10_putsBack_2 FU (0, h) = some h' ∧ RkTo h F h' := by
    refine gloop (f := SX10_putsBack_2) (fun i (s : Int32 × HI) => s.1 = nI i ∧ ∃ f, s.2 = hPF h 8 33 f ∧ ∀ j, j < i → f j = h 8 35 j) _ 150 ?_ (k := FU) (by have := FU_lt; omega) (s0 := (0, h)) ⟨rfl, h 8 33, hPF_self.symm, fun j hj => by omega⟩
    rintro i ⟨q, h1⟩ hi ⟨rfl, f, i1, i2⟩
    dsimp only at i1
    unfold SX10_putsBack_2
    dsimp only
    rw [show (150 : Int32) = nI 150 from rfl]
    by_cases z : i = 150
    · refine Or.inr ⟨h1, by rw [if_pos (le_t (by omega) (by omega) (by omega))], f, i1, ?_⟩
      rw [← e]
      funext j
      unfold tk
      by_cases c : j < 150
      · rw [if_pos c, if_pos c, i2 j (by omega)]
      · rw [if_neg c, if_neg c]
    · refine Or.inl ⟨by omega, (nI (i + 1), hP1 h1 8 33 i (h1 8 35 i)), ?_, rfl, upd f i (h 8 35 i), ?_, fun j hj => ?_⟩
      · rw [if_neg (le_f (by omega) (by omega) (by omega)), gd_ix (show i < 150 by omega) (by decide), gd_ix (show i < 150 by omega) (by decide), nC_n (show i < 2 ^ 31 by omega), nm_eq, nI_1]
      · dsimp only
        rw [i1, hPF_n (by decide)]
        show hPF (hPF h 8 33 f) 8 33 (upd (hPF h 8 33 f 8 33) i (h 8 35 i)) = _
        rw [hPF_hPF, hPF_s]
      · by_cases c : j = i
        · rw [c, up_s]
        · rw [up_n c, i2 j (by omega)]
  obtain ⟨h', k1, k2⟩ := key
  exact ⟨h', by unfold FX10_putsBack; rw [k1]; rfl, k2⟩
-- what was used: counters against bits
theorem bs_or2 (x y : Int32) {p : Nat} (hp : p < 32) : bs (x ||| y) p = (bs x p || bs y p) := by rw [bs_bt _ hp, bs_bt _ hp, bs_bt _ hp, b_or]
def UsI (F : Nat → Int32) (k : Nat) (x : Int32 × (Nat → Int32)) : Prop := ∀ p, p < 12 → ∃ c, c ≤ k ∧ us x.2 p = us F p + nI c ∧ bs x.1 p = decide (0 < c)
theorem UsI_0 (F : Nat → Int32) : UsI F 0 (0, F) := fun p hp => ⟨0, Nat.le_refl 0, (Int32.add_zero _).symm, bs_0 (by omega)⟩
theorem UsI_meet {F : Nat → Int32} {n nw w k : Nat} {set : Int32} {r md : Bool} {x : Int32 × (Nat → Int32)} (b : BP x.2 n nw) (hw : w < nw) (u : UsI F k x) : UsI F (k + 1) (meetF n set r md w x) := by
  have hn := b.2.1
  have keep : ∀ {y : Int32 × (Nat → Int32)}, y.1 = x.1 → (∀ p, p < 12 → us y.2 p = us x.2 p) → UsI F (k + 1) y := fun {y} e1 e2 p hp => by
    obtain ⟨c, c1, c2, c3⟩ := u p hp
    exact ⟨c, by omega, by rw [e2 p hp, c2], by rw [e1, c3]⟩
  unfold meetF
  split
  · rcases by_cases1 (n := n) (set := set) (r := r) (b.O w hw) with z | ⟨q, z1, z2⟩
    · rw [z, if_pos m1_neg]
      exact keep rfl (fun p hp => by
        show upd x.2 4 (x.2 4 + metS x.2 n w set r md) (6 + 6 * p + 5) = x.2 (6 + 6 * p + 5)
        exact up_n (by omega))
    · rw [z2, if_neg (nI_pos (by omega)), nC_n (by omega)]
      intro p hp
      obtain ⟨c, c1, c2, c3⟩ := u p hp
      dsimp only
      by_cases e : p = q
      · subst e
        refine ⟨c + 1, by omega, ?_, ?_⟩
        · show upd _ _ _ (6 + 6 * p + 5) = _
          rw [up_s, c2, Int32.add_assoc, nI_1]
        · rw [bs_or _ (by omega) (by omega), decide_eq_true rfl, Bool.or_true, decide_eq_true (by omega)]
      · refine ⟨c, by omega, ?_, ?_⟩
        · show upd _ _ _ (6 + 6 * p + 5) = _
          rw [up_n (by omega), up_n (by omega)]
          exact c2
        · rw [bs_or _ (by omega) (by omega), decide_eq_false e, Bool.or_false, c3]
  · exact keep rfl (fun p hp => rfl)
theorem UsI_day {F : Nat → Int32} {n nw : Nat} (b : BP F n nw) : UsI F 12 (dayS F n nw) := by
  have hn := b.2.1
  have hw := b.2.2.2.1
  have m : ∀ k, k ≤ nw → UsI F k (meetS F n (knS F n) k) := by
    intro k
    induction k with
    | zero => intro _; exact UsI_0 F
    | succ k ih =>
      intro hk
      exact UsI_meet (meetS_bp b k (by omega)) (show k < nw by omega) (ih (by omega))
  have mi2 := meetS_inv (set := knS F n) b nw (Nat.le_refl nw)
  have ni := nightS_inv (u := (meetS F n (knS F n) nw).1) (F := (meetS F n (knS F n) nw).2) hn (fun p hp => by rw [mi2.2.1 p (by omega)]; exact (b.2.2.2.2.1 p hp).2.2.2.2) n (Nat.le_refl n)
  intro p hp
  obtain ⟨c, c1, c2, c3⟩ := m nw (Nat.le_refl nw) p hp
  refine ⟨c, by omega, ?_, c3⟩
  rw [← c2, ← ni.2.2.2.2 p hp]
  unfold dayS us
  dsimp only
  rw [up_n (by omega)]
theorem UsI_days {F : Nat → Int32} {n nw : Nat} (b : BP F n nw) (k : Nat) : UsI F (12 * k) (daysS F n nw k) := by
  induction k with
  | zero => exact UsI_0 F
  | succ k ih =>
    intro p hp
    obtain ⟨c, c1, c2, c3⟩ := ih p hp
    obtain ⟨d, d1, d2, d3⟩ := UsI_day (daysS_inv b k).2.1 p hp
    refine ⟨c + d, by omega, ?_, ?_⟩
    · rw [daysS_s]
      dsimp only
      rw [d2, c2, Int32.add_assoc, nI_add]
    · rw [daysS_s]
      dsimp only
      rw [bs_or2 _ _ (by omega), c3, d3]
      by_cases e : 0 < c
      · rw [decide_eq_true e, decide_eq_true (show 0 < c + d by omega), Bool.true_or]
      · rw [decide_eq_false e, Bool.false_or]
        congr 1
        rw [show c = 0 by omega, Nat.zero_add]
