-- phrase, of, set, turn, as, want, wantOf, change
theorem nI_ne {a b : Nat} (h : ¬ a = b) (ha : a < 2 ^ 31) (hb : b < 2 ^ 31) : ¬ nI a = nI b := fun z => h ((nI_eq ha hb).mp z)
theorem bI_some (b : Bool) : (if bI b = 0 then some (0 : Int32) else some 1) = some (bI b) := by cases b <;> rfl
theorem bI_pair (b : Bool) (h : HI) : (if bI b = 0 then some ((0 : Int32), h) else some (1, h)) = some (bI b, h) := by cases b <;> rfl
/-- only the reference asks -/
theorem Two.refYes {h : HI} {q' : HI → Option Int32} {c : Option (Int32 × HI)} {r0 r1 : HI → Option (Int32 × HI)} (hq' : ∀ h', RV h' = CV h → q' h' = some (bI true)) (k : Two h c r1) : Two h c (fun h' => Option.bind (q' h') fun x => if x = 0 then r0 h' else r1 h') := Two.of k rfl (fun h' e => by rw [hq' h' e, Option.bind_some, bI_if, if_pos rfl])
theorem Two.refNo {h : HI} {q' : HI → Option Int32} {c : Option (Int32 × HI)} {r0 r1 : HI → Option (Int32 × HI)} (hq' : ∀ h', RV h' = CV h → q' h' = some (bI false)) (k : Two h c r0) : Two h c (fun h' => Option.bind (q' h') fun x => if x = 0 then r0 h' else r1 h') := Two.of k rfl (fun h' e => by rw [hq' h' e, Option.bind_some, bI_if, if_neg (by decide)])
theorem bkS {α : Type} {h h1 : HI} {g : Nat} {F : Nat → Int32} {x : Int32} {f : HI → Option α} {Q : α → Prop} (b : BkTo h g F h1) (p k : Nat) (hp : p < 12) (hk : k < 6) (kk : ∀ h2, BkTo h g (upd F (6 + 6 * p + k) x) h2 → ∃ y, f h2 = some y ∧ Q y) : ∃ y, nm (hP1 h1 g (2 + k) p x) f = some y ∧ Q y := kk _ (b.tr (by have := bk_p (h := h1) (g := g) (x := x) hp hk; rw [b.at] at this; exact this))
theorem bkW {α : Type} {h h1 : HI} {g : Nat} {F : Nat → Int32} {x : Int32} {f : HI → Option α} {Q : α → Prop} (b : BkTo h g F h1) (p k : Nat) (hp : p < 12) (hk : k < 5) (kk : ∀ h2, BkTo h g (upd F (78 + 5 * p + k) x) h2 → ∃ y, f h2 = some y ∧ Q y) : ∃ y, nm (hP1 h1 g (9 + k) p x) f = some y ∧ Q y := kk _ (b.tr (by have := bk_w (h := h1) (g := g) (x := x) hp hk; rw [b.at] at this; exact this))
theorem bk6S {α : Type} {h h1 : HI} {g : Nat} {F : Nat → Int32} {x : Int32} {f : HI → Option α} {Q : α → Prop} (b : BkTo h g F h1) (m : Nat) (hm : m < 6) (kk : ∀ h2, BkTo h g (upd F m x) h2 → ∃ y, f h2 = some y ∧ Q y) : ∃ y, nm (hP1 h1 g (c6 m).1 (c6 m).2 x) f = some y ∧ Q y := kk _ (b.tr (by have := bk_6 (h := h1) (g := g) (x := x) hm; rw [b.at] at this; exact this))
theorem rkS {α : Type} {h h1 : HI} {F : Nat → Int32} {x : Int32} {f : HI → Option α} {Q : α → Prop} (b : RkTo h F h1) (j : Nat) (hj : j < 150) (kk : ∀ h2, RkTo h (upd F j x) h2 → ∃ y, f h2 = some y ∧ Q y) : ∃ y, nm (hP1 h1 8 33 j x) f = some y ∧ Q y := kk _ (b.tr (by have := rk_u (h := h1) (x := x) hj; rw [b.at] at this; exact this))
def newP (F : Nat → Int32) (n : Nat) (a1 a2 a3 a4 : Int32) : Nat → Int32 := upd (upd (upd (upd (upd (upd (upd F (6 + 6 * n + 0) a1) (6 + 6 * n + 1) a2) (6 + 6 * n + 2) a3) (6 + 6 * n + 3) a4) (6 + 6 * n + 4) 0) (6 + 6 * n + 5) 0) 0 (nI (n + 1))
theorem c_addP {h : HI} {g n : Nat} {F : Nat → Int32} {a1 a2 a3 a4 : Int32} (e : vw (h g) = F) (e0 : F 0 = nI n) (hn : n < 12) : ∃ y : Int32 × HI, FX5_add g a1 a2 a3 a4 h = some y ∧ (y.1 = nI n ∧ BkTo h g (newP F n a1 a2 a3 a4) y.2) := by
  have up0 : ∀ {G : Nat → Int32} {k : Nat} {x : Int32}, G 0 = nI n → upd G (6 + 6 * n + k) x 0 = nI n := fun hG => (up_n (by omega)).trans hG
  have c0 : ∀ {h1 : HI} {G : Nat → Int32}, BkTo h g G h1 → G 0 = nI n → h1 g 1 6 = nI n := fun b hG => (bk0 b.at).1.trans hG
  have b0 : BkTo h g F h := by rw [← e]; exact BkTo.rf
  unfold FX5_add
  rw [c0 b0 e0, gd_ix hn (by decide), nC_n (by omega)]
  refine bkS b0 n 0 hn (by decide) (fun h1 b1 => ?_)
  rw [c0 b1 (up0 e0), gd_ix hn (by decide), nC_n (by omega)]
  refine bkS b1 n 1 hn (by decide) (fun h2 b2 => ?_)
  rw [c0 b2 (up0 (up0 e0)), gd_ix hn (by decide), nC_n (by omega)]
  refine bkS b2 n 2 hn (by decide) (fun h3 b3 => ?_)
  rw [c0 b3 (up0 (up0 (up0 e0))), gd_ix hn (by decide), nC_n (by omega)]
  refine bkS b3 n 3 hn (by decide) (fun h4 b4 => ?_)
  rw [c0 b4 (up0 (up0 (up0 (up0 e0)))), gd_ix hn (by decide), nC_n (by omega)]
  refine bkS b4 n 4 hn (by decide) (fun h5 b5 => ?_)
  rw [c0 b5 (up0 (up0 (up0 (up0 (up0 e0))))), gd_ix hn (by decide), nC_n (by omega)]
  refine bkS b5 n 5 hn (by decide) (fun h6 b6 => ?_)
  rw [c0 b6 (up0 (up0 (up0 (up0 (up0 (up0 e0)))))), nI_1]
  refine bk6S b6 0 (by decide) (fun h7 b7 => ⟨_, rfl, ?_, b7⟩)
  show h7 g 1 6 - 1 = nI n
  rw [(bk0 b7.at).1, up_s]
  exact nI_pred n
theorem r_newP {h : HI} {n : Nat} {F : Nat → Int32} {a1 a2 a3 a4 : Int32} (e : tk (h 8 33) = F) (e0 : F 0 = nI n) (hn : n < 12) : ∃ y : Int32 × HI, FX10_newPhrase a1 a2 a3 a4 h = some y ∧ (y.1 = nI n ∧ RkTo h (newP F n a1 a2 a3 a4) y.2) := by
  have up0 : ∀ {G : Nat → Int32} {k : Nat} {x : Int32}, G 0 = nI n → upd G (6 + 6 * n + k) x 0 = nI n := fun hG => (up_n (by omega)).trans hG
  have b0 : RkTo h F h := by rw [← e]; exact RkTo.rf
  unfold FX10_newPhrase
  rw [nm_eq, (rk0 e (show 0 < 150 by decide)).trans e0]
  rw [show FX10_at (nI n) 0 = some (nI (6 + 6 * n + 0)) from f_at n 0, Option.bind_some, gd_ix (show 6 + 6 * n + 0 < 150 by omega) (by decide), nC_n (show 6 + 6 * n + 0 < 2 ^ 31 by omega)]
  refine rkS b0 (6 + 6 * n + 0) (by omega) (fun h1 b1 => ?_)
  rw [show FX10_at (nI n) 1 = some (nI (6 + 6 * n + 1)) from f_at n 1, Option.bind_some, gd_ix (show 6 + 6 * n + 1 < 150 by omega) (by decide), nC_n (show 6 + 6 * n + 1 < 2 ^ 31 by omega)]
  refine rkS b1 (6 + 6 * n + 1) (by omega) (fun h2 b2 => ?_)
  rw [show FX10_at (nI n) 2 = some (nI (6 + 6 * n + 2)) from f_at n 2, Option.bind_some, gd_ix (show 6 + 6 * n + 2 < 150 by omega) (by decide), nC_n (show 6 + 6 * n + 2 < 2 ^ 31 by omega)]
  refine rkS b2 (6 + 6 * n + 2) (by omega) (fun h3 b3 => ?_)
  rw [show FX10_at (nI n) 3 = some (nI (6 + 6 * n + 3)) from f_at n 3, Option.bind_some, gd_ix (show 6 + 6 * n + 3 < 150 by omega) (by decide), nC_n (show 6 + 6 * n + 3 < 2 ^ 31 by omega)]
  refine rkS b3 (6 + 6 * n + 3) (by omega) (fun h4 b4 => ?_)
  rw [show FX10_at (nI n) 4 = some (nI (6 + 6 * n + 4)) from f_at n 4, Option.bind_some, gd_ix (show 6 + 6 * n + 4 < 150 by omega) (by decide), nC_n (show 6 + 6 * n + 4 < 2 ^ 31 by omega)]
  refine rkS b4 (6 + 6 * n + 4) (by omega) (fun h5 b5 => ?_)
  rw [show FX10_at (nI n) 5 = some (nI (6 + 6 * n + 5)) from f_at n 5, Option.bind_some, gd_ix (show 6 + 6 * n + 5 < 150 by omega) (by decide), nC_n (show 6 + 6 * n + 5 < 2 ^ 31 by omega)]
  refine rkS b5 (6 + 6 * n + 5) (by omega) (fun h6 b6 => ?_)
  rw [show h6 8 33 0 = nI n from (rk0 b6.at (by decide)).trans (up0 (up0 (up0 (up0 (up0 (up0 e0)))))), nI_1]
  exact rkS b6 0 (by decide) (fun h7 b7 => ⟨_, rfl, rfl, b7⟩)
-- the fields of a phrase, of a want, and their bounds
def pL0 (k : Nat) : Nat := [0, 0, 1, 0, 0].getD k 0
def pH0 (k : Nat) : Nat := [5, 9, 60, 10, 100].getD k 0
def wH0 (k : Nat) : Nat := [9, 99, 99, 1, 1].getD k 0
theorem PI_of {F : Nat → Int32} {p : Nat} (h : ∀ k, k < 5 → rg (F (6 + 6 * p + k)) (pL0 k) (pH0 k)) : PI F p := ⟨h 0 (by decide), h 1 (by decide), h 2 (by decide), h 3 (by decide), h 4 (by decide)⟩
theorem PI_at {F : Nat → Int32} {p : Nat} (h : PI F p) : ∀ k, k < 5 → rg (F (6 + 6 * p + k)) (pL0 k) (pH0 k) := by
  intro k hk
  match k, hk with
  | 0, _ => exact h.1
  | 1, _ => exact h.2.1
  | 2, _ => exact h.2.2.1
  | 3, _ => exact h.2.2.2.1
  | 4, _ => exact h.2.2.2.2
theorem WI_of {F : Nat → Int32} {p : Nat} (h : ∀ k, k < 5 → rg (F (78 + 5 * p + k)) 0 (wH0 k)) : WI F p := ⟨h 0 (by decide), h 1 (by decide), h 2 (by decide), h 3 (by decide), h 4 (by decide)⟩
theorem WI_at {F : Nat → Int32} {p : Nat} (h : WI F p) : ∀ k, k < 5 → rg (F (78 + 5 * p + k)) 0 (wH0 k) := by
  intro k hk
  match k, hk with
  | 0, _ => exact h.1
  | 1, _ => exact h.2.1
  | 2, _ => exact h.2.2.1
  | 3, _ => exact h.2.2.2.1
  | 4, _ => exact h.2.2.2.2
theorem OI_mono {F : Nat → Int32} {n l : Nat} (o : OI F n l) : OI F (n + 1) l := ⟨o.1, by have := o.2.1; omega, fun i hi => by obtain ⟨p, hp, e⟩ := o.2.2.1 i hi; exact ⟨p, by omega, e⟩, o.2.2.2⟩
theorem newP_inv {F : Nat → Int32} {n nw l d c : Nat} {a1 a2 a3 a4 : Int32} (b1 : BP F n nw) (b2 : OI F n l) (b3 : F 3 = nI d) (b4 : d ≤ 99) (b5 : F 4 = nI c) (b6 : c ≤ 1188 * d) (hn : n < 12) (r1 : rg a1 0 5) (r2 : rg a2 0 9) (r3 : rg a3 1 60) (r4 : rg a4 0 10) : BkI (newP F n a1 a2 a3 a4) := by
  have g : ∀ x, ¬ x = 0 → (∀ k, k < 6 → ¬ x = 6 + 6 * n + k) → newP F n a1 a2 a3 a4 x = F x := by
    intro x h0 hk
    unfold newP
    rw [up_n h0, up_n (hk 5 (by decide)), up_n (hk 4 (by decide)), up_n (hk 3 (by decide)), up_n (hk 2 (by decide)), up_n (hk 1 (by decide)), up_n (hk 0 (by decide))]
  have b1' : BP (newP F n a1 a2 a3 a4) (n + 1) nw := by
    refine ⟨up_s, by omega, (g 1 (by decide) (fun k hk => by omega)).trans b1.2.2.1, b1.2.2.2.1, fun p hp => ?_, fun w hw => WI_cong (fun a ha => g _ (by omega) (fun k hk => by omega)) (b1.2.2.2.2.2.1 w hw), by rw [g 2 (by decide) (fun k hk => by omega)]; exact b1.2.2.2.2.2.2⟩
    by_cases z : p = n
    · subst z
      refine PI_of (fun k hk => ?_)
      unfold newP
      match k, hk with
      | 0, _ => rw [up_n (by omega), up_n (by omega), up_n (by omega), up_n (by omega), up_n (by omega), up_n (by omega), up_s]; exact r1
      | 1, _ => rw [up_n (by omega), up_n (by omega), up_n (by omega), up_n (by omega), up_n (by omega), up_s]; exact r2
      | 2, _ => rw [up_n (by omega), up_n (by omega), up_n (by omega), up_n (by omega), up_s]; exact r3
      | 3, _ => rw [up_n (by omega), up_n (by omega), up_n (by omega), up_s]; exact r4
      | 4, _ => rw [up_n (by omega), up_n (by omega), up_s]; exact ⟨0, by decide, by decide, rfl⟩
    · exact PI_cong (fun a ha => g _ (by omega) (fun k hk => by omega)) (b1.2.2.2.2.1 p (by omega))
  have hl := b2.2.1
  refine ⟨n + 1, nw, l, d, c, b1', OI_mono (OI_cong (g 5 (by decide) (fun k hk => by omega)) (fun j hj => g (138 + j) (by omega) (fun k hk => by omega)) (by omega) b2), (g 3 (by decide) (fun k hk => by omega)).trans b3, b4, (g 4 (by decide) (fun k hk => by omega)).trans b5, b6⟩
theorem part0 (x : Int32) : FX10_isPart 0 x = some (bI (wi x 0 5)) := by
  unfold FX10_isPart
  rw [if_pos rfl, f_in (a := 0) (b := 5) 0 5 rfl rfl, Option.bind_some, gd_B]
theorem part1 (x : Int32) : FX10_isPart 1 x = some (bI (wi x 0 9)) := by
  unfold FX10_isPart
  rw [if_neg (by decide), if_pos rfl, f_in (a := 0) (b := 9) 0 9 rfl rfl, Option.bind_some, gd_B]
theorem part2 (x : Int32) : FX10_isPart 2 x = some (bI (wi x 1 60)) := by
  unfold FX10_isPart
  rw [if_neg (by decide), if_neg (by decide), if_pos rfl, f_in (a := 1) (b := 60) 1 60 rfl rfl, Option.bind_some, gd_B]
theorem part3 (x : Int32) : FX10_isPart 3 x = some (bI (wi x 0 10)) := by
  unfold FX10_isPart
  rw [if_neg (by decide), if_neg (by decide), if_neg (by decide), if_pos rfl, f_in (a := 0) (b := 10) 0 10 rfl rfl, Option.bind_some, gd_B]
theorem part4 (x : Int32) : FX10_isPart 4 x = some (bI (wi x 0 100)) := by
  unfold FX10_isPart
  rw [if_neg (by decide), if_neg (by decide), if_neg (by decide), if_neg (by decide), if_pos rfl, f_in (a := 0) (b := 100) 0 100 rfl rfl, Option.bind_some, bI_some]
theorem wi_rg {v : Int32} {a b : Nat} (h : wi v (nI a) (nI b) = true) (ha : a < 2 ^ 31) (hb : b < 2 ^ 31) : rg v a b := by
  obtain ⟨k, k1, k2, e⟩ := wi_nat hb h ha
  exact ⟨k, k1, k2, e⟩
theorem phrase_ok (a1 a2 a3 a4 : Int32) : Ops (FX9_phrase a1 a2 a3 a4) (FX10_phrase a1 a2 a3 a4) := by
  refine Ops_two (fun h i => ?_)
  obtain ⟨n, nw, l, d, c, b1, b2, b3, b4, b5, b6⟩ := i.1
  have hn := b1.2.1
  unfold FX9_phrase FX10_phrase
  refine Two.ask (f_within a1 0 5) (fun h' e => part0 a1) (fun _ => Two.bad i) (fun y1 => ?_)
  refine Two.ask (f_within a2 0 9) (fun h' e => part1 a2) (fun _ => Two.bad i) (fun y2 => ?_)
  refine Two.ask (f_within a3 1 60) (fun h' e => part2 a3) (fun _ => Two.bad i) (fun y3 => ?_)
  refine Two.ask (f_within a4 0 10) (fun h' e => part3 a4) (fun _ => Two.bad i) (fun y4 => ?_)
  have g0 : ∀ h', RV h' = CV h → h' 8 33 0 = nI n := fun h' e => (rk0 (rB e) (by decide)).trans b1.1
  have k0 : h 0 1 6 = nI n := b1.1
  by_cases z : n < 12
  · obtain ⟨⟨x, h1⟩, q1, q2, q3⟩ := c_addP (g := 0) (a1 := a1) (a2 := a2) (a3 := a3) (a4 := a4) (show vw (h 0) = CV h 0 from rfl) b1.1 z
    dsimp only at q2 q3
    subst q2
    refine Two.book (F := newP (CV h 0) n a1 a2 a3 a4) (x := nI n) (h1 := h1) i (newP_inv b1 b2 b3 b4 b5 b6 z (wi_rg (a := 0) (b := 5) y1 (by decide) (by decide)) (wi_rg (a := 0) (b := 9) y2 (by decide) (by decide)) (wi_rg (a := 1) (b := 60) y3 (by decide) (by decide)) (wi_rg (a := 0) (b := 10) y4 (by decide) (by decide))) ?_ q3 (fun h' e => ?_)
    · unfold FX5_isFull
      rw [k0, if_pos (show nI n < 12 from lt_t (b := 12) z (by omega) (by decide)), Option.bind_some, if_pos rfl, q1, Option.bind_some]
    · obtain ⟨⟨x2, h2⟩, u1, u2, u3⟩ := r_newP (a1 := a1) (a2 := a2) (a3 := a3) (a4 := a4) (rB e) b1.1 z
      dsimp only at u2 u3
      subst u2
      refine ⟨h2, ?_, RkA.of u3⟩
      try dsimp only
      rw [g0 h' e, if_neg (show ¬ nI n = 12 from nI_ne (b := 12) (by omega) (by omega) (by decide)), u1, Option.bind_some]
  · have z2 : n = 12 := by omega
    subst z2
    refine Two.of (Two.full i) ?_ (fun h' e => ?_)
    · unfold FX5_isFull
      rw [k0, if_neg (by decide), Option.bind_some, if_neg (by decide)]
    · rw [g0 h' e, if_pos (show nI 12 = 12 from rfl)]
theorem c_row (g : Nat) : ∀ k, k < 6 → FX5_row g (nI k) = some (2 + k) := by
  intro k hk
  match k, hk with
  | 0, _ => rfl
  | 1, _ => rfl
  | 2, _ => rfl
  | 3, _ => rfl
  | 4, _ => rfl
  | 5, _ => rfl
theorem c_wrow (g : Nat) : ∀ k, k < 5 → FX8_row g (nI k) = some (9 + k) := by
  intro k hk
  match k, hk with
  | 0, _ => rfl
  | 1, _ => rfl
  | 2, _ => rfl
  | 3, _ => rfl
  | 4, _ => rfl
theorem ok_row : ∀ k, k < 6 → okI 0 (2 + k) = true ∧ alen (2 + k) = 12 := by decide
theorem ok_wrow : ∀ k, k < 5 → okI 0 (9 + k) = true ∧ alen (9 + k) = 12 := by decide
theorem gd_ok {β : Type} {o : Option β} {g k p : Nat} (ok : okI g k = true ∧ alen k = 12) (hp : p < 12) : gd (okI g k && ixb (nI p) (alen k)) o = o := by
  rw [ok.1, ok.2, ixb_n hp (by decide)]
  rfl
theorem of_ok (a b : Int32) : Ops (FX9_of a b) (FX10_of a b) := by
  refine Ops_two (fun h i => ?_)
  obtain ⟨n, nw, l, d, c, b1, b2, b3, b4, b5, b6⟩ := i.1
  have hn := b1.2.1
  unfold FX9_of FX10_of
  refine Two.ask (c_isP a h) (q_isP i a) (fun _ => Two.bad i) (fun z => ?_)
  refine Two.ask (f_within b 0 7) (fun h' e => f_in (a := 0) (b := 7) 0 7 rfl rfl) (fun _ => Two.bad i) (fun y => ?_)
  rw [b1.1] at z
  obtain ⟨p, hp, rfl⟩ := isP_nat (by omega) z
  have hp2 : p < 12 := by omega
  obtain ⟨k, k1, k2, rfl⟩ := wi_nat (a := 0) (b := 7) (by decide) y (by decide)
  by_cases c6 : k = 6
  · subst c6
    refine Two.pure (x := bI (!decide (hd (CV h 0) p < CV h 0 2))) i ?_ (fun h' e => ?_)
    · rw [if_pos (show nI 6 = 6 from rfl), c_isKnown hp2, Option.bind_some, bI_pair]
      rfl
    · rw [if_pos (show (6 : Int32) ≤ nI 6 by decide), if_pos (show nI 6 = 6 from rfl), r_isKnown hp2, Option.bind_some, bI_pair, rB e]
  by_cases c7 : k = 7
  · subst c7
    refine Two.pure (x := forS (CV h 0) p) i ?_ (fun h' e => ?_)
    · rw [if_neg (by decide), if_pos (show nI 7 = 7 from rfl), c_forgets hp2 (b1.2.2.2.2.1 p hp).2.2.2.2, Option.bind_some]
      rfl
    · rw [if_pos (show (6 : Int32) ≤ nI 7 by decide), if_neg (by decide), r_forgets hp2, Option.bind_some, rB e]
  · have hk : k < 6 := by omega
    refine Two.pure (x := CV h 0 (6 + 6 * p + k)) i ?_ (fun h' e => ?_)
    · rw [if_neg (show ¬ nI k = 6 from nI_ne (b := 6) (by omega) (by omega) (by decide)), if_neg (show ¬ nI k = 7 from nI_ne (b := 7) (by omega) (by omega) (by decide)), c_row 0 k hk, Option.bind_some, gd_ok (ok_row k hk) hp2, nC_n (by omega), show CV h 0 (6 + 6 * p + k) = h 0 (2 + k) p from vw_p hp2 hk]
    · rw [if_neg (show ¬ 6 ≤ nI k from le_f (a := 6) (by omega) (by decide) (by omega)), f_its hp2 hk, Option.bind_some, rk0 (rB e) (by omega)]
def pLo (k : Nat) : Int32 := ([0, 0, 1, 0, 0] : List Int32).getD k 0
def pHi (k : Nat) : Int32 := ([5, 9, 60, 10, 100] : List Int32).getD k 0
def wHi (k : Nat) : Int32 := ([9, 99, 99, 1, 1] : List Int32).getD k 0
theorem pB : ∀ k, k < 5 → pLo k = nI (pL0 k) ∧ pHi k = nI (pH0 k) ∧ wHi k = nI (wH0 k) ∧ pL0 k < 2 ^ 31 ∧ pH0 k < 2 ^ 31 ∧ wH0 k < 2 ^ 31 := by decide
theorem c_may {g k : Nat} {h : HI} (x : Int32) (h1 : 1 ≤ k) (h4 : k ≤ 4) : FX5_maySet g (nI k) x h = some (bI (wi x (pLo k) (pHi k))) := by
  unfold FX5_maySet
  rw [if_neg (show ¬ nI k < 1 from lt_f (b := 1) (by omega) (by omega) (by decide)), if_neg (show ¬ 5 ≤ nI k from le_f (a := 5) (by omega) (by decide) (by omega)), gd_ix (show k < 5 by omega) (by decide), gd_ix (show k < 5 by omega) (by decide), nC_n (by omega), f_within, Option.bind_some, bI_some]
  rfl
theorem c_mayW {g k : Nat} {h : HI} (x : Int32) (h1 : 1 ≤ k) (h4 : k ≤ 4) : FX8_mayChange g (nI k) x h = some (bI (wi x 0 (wHi k))) := by
  unfold FX8_mayChange
  rw [if_neg (show ¬ nI k < 1 from lt_f (b := 1) (by omega) (by omega) (by decide)), if_neg (show ¬ 5 ≤ nI k from le_f (a := 5) (by omega) (by decide) (by omega)), gd_ix (show k < 5 by omega) (by decide), nC_n (by omega), f_within, Option.bind_some, bI_some]
  rfl
theorem wi14_f {x : Int32} (h : wi x 1 4 = false) : x < 1 ∨ (¬ x < 1 ∧ 5 ≤ x) := by
  by_cases c : x < 1
  · exact Or.inl c
  · refine Or.inr ⟨c, ?_⟩
    have c2 : ¬ x < 0 := fun z => c (Int32.lt_of_lt_of_le z (by decide))
    obtain ⟨j, hj, rfl⟩ := nI_of c2
    refine le_t (a := 5) ?_ (by decide) hj
    unfold wi at h
    have c3 : 1 ≤ j := by
      by_cases y : 1 ≤ j
      · exact y
      · exact absurd (lt_t (b := 1) (show j < 1 by omega) hj (by decide)) c
    rw [decide_eq_true (show (1 : Int32) ≤ nI j from le_t (a := 1) c3 (by decide) hj), Bool.true_and] at h
    by_cases y : 5 ≤ j
    · exact y
    · rw [decide_eq_true (show nI j ≤ 4 from le_t (b := 4) (by omega) hj (by decide))] at h
      exact absurd h (by decide)
theorem c_mayF {g : Nat} {h : HI} {x : Int32} (y : Int32) (z : wi x 1 4 = false) : FX5_maySet g x y h = some (bI false) ∧ FX8_mayChange g x y h = some (bI false) := by
  unfold FX5_maySet FX8_mayChange
  rcases wi14_f z with c | ⟨c, d⟩
  · rw [if_pos c, if_pos c]
    exact ⟨rfl, rfl⟩
  · rw [if_neg c, if_pos d, if_neg c, if_pos d]
    exact ⟨rfl, rfl⟩
theorem r_part {k : Nat} (x : Int32) (h4 : k ≤ 4) : FX10_isPart (nI k) x = some (bI (wi x (pLo k) (pHi k))) := by
  match k, h4 with
  | 0, _ => exact part0 x
  | 1, _ => exact part1 x
  | 2, _ => exact part2 x
  | 3, _ => exact part3 x
  | 4, _ => exact part4 x
theorem c_exch {g k p : Nat} {x : Int32} {h : HI} (ok : okI g k = true ∧ alen k = 12) (hp : p < 12) : FX9_exchange g k (nI p) x h = some (h g k p, hP1 h g k p x) := by
  unfold FX9_exchange
  rw [gd_ok ok hp, nm_eq, gd_ok ok hp, nm_eq, nC_n (by omega)]
theorem BP_upP {F : Nat → Int32} {n nw p k : Nat} {x : Int32} (b : BP F n nw) (hp : p < n) (hk : k < 5) (hx : rg x (pL0 k) (pH0 k)) : BP (upd F (6 + 6 * p + k) x) n nw := by
  refine ⟨by rw [up_n (by omega)]; exact b.1, b.2.1, by rw [up_n (by omega)]; exact b.2.2.1, b.2.2.2.1, fun q hq => ?_, fun w hw => WI_cong (fun a ha => up_n (by have := b.2.1; omega)) (b.2.2.2.2.2.1 w hw), by rw [up_n (by omega)]; exact b.2.2.2.2.2.2⟩
  refine PI_of (fun a ha => ?_)
  rw [upP (by omega) (by omega)]
  by_cases z : q = p ∧ a = k
  · rw [if_pos z, z.2]
    exact hx
  · rw [if_neg z]
    exact PI_at (b.2.2.2.2.1 q hq) a ha
theorem BP_upW {F : Nat → Int32} {n nw p k : Nat} {x : Int32} (b : BP F n nw) (hp : p < nw) (hk : k < 5) (hx : rg x 0 (wH0 k)) : BP (upd F (78 + 5 * p + k) x) n nw := by
  refine ⟨by rw [up_n (by omega)]; exact b.1, b.2.1, by rw [up_n (by omega)]; exact b.2.2.1, b.2.2.2.1, fun q hq => PI_cong (fun a ha => up_n (by have := b.2.1; omega)) (b.2.2.2.2.1 q hq), fun w hw => ?_, by rw [up_n (by omega)]; exact b.2.2.2.2.2.2⟩
  refine WI_of (fun a ha => ?_)
  rw [upW (by omega) (by omega)]
  by_cases z : w = p ∧ a = k
  · rw [if_pos z, z.2]
    exact hx
  · rw [if_neg z]
    exact WI_at (b.2.2.2.2.2.1 w hw) a ha
theorem Two.setP {h : HI} {c : Option (Int32 × HI)} {r : HI → Option (Int32 × HI)} {n nw l d cc p k : Nat} {x : Int32} (i : AI (CV h)) (b1 : BP (CV h 0) n nw) (b2 : OI (CV h 0) n l) (b3 : CV h 0 3 = nI d) (b4 : d ≤ 99) (b5 : CV h 0 4 = nI cc) (b6 : cc ≤ 1188 * d) (hp : p < n) (hk : k < 5) (hx : rg x (pL0 k) (pH0 k)) (hc : c = some (h 0 (2 + k) p, hP1 h 0 (2 + k) p x)) (hr : ∀ h', RV h' = CV h → r h' = some (h' 8 33 (6 + 6 * p + k), hP1 h' 8 33 (6 + 6 * p + k) x)) : Two h c r := by
  have hn := b1.2.1
  have hp2 : p < 12 := by omega
  refine Two.book (F := upd (CV h 0) (6 + 6 * p + k) x) (x := h 0 (2 + k) p) i (BkI.up (BP_upP b1 hp hk hx) b2 b3 b4 b5 b6 (fun j h1 h2 => up_n (by omega)) (fun j hj => up_n (by omega))) hc (bk_p hp2 (by omega)) (fun h' e => ?_)
  refine ⟨_, (hr h' e).trans ?_, by rw [← rB e]; exact RkA.of (rk_u (by omega))⟩
  rw [rk0 (rB e) (by omega), show CV h 0 (6 + 6 * p + k) = h 0 (2 + k) p from vw_p hp2 (by omega)]
theorem Two.setW {h : HI} {c : Option (Int32 × HI)} {r : HI → Option (Int32 × HI)} {n nw l d cc p k : Nat} {x : Int32} (i : AI (CV h)) (b1 : BP (CV h 0) n nw) (b2 : OI (CV h 0) n l) (b3 : CV h 0 3 = nI d) (b4 : d ≤ 99) (b5 : CV h 0 4 = nI cc) (b6 : cc ≤ 1188 * d) (hp : p < nw) (hk : k < 5) (hx : rg x 0 (wH0 k)) (hc : c = some (h 0 (9 + k) p, hP1 h 0 (9 + k) p x)) (hr : ∀ h', RV h' = CV h → r h' = some (h' 8 33 (78 + 5 * p + k), hP1 h' 8 33 (78 + 5 * p + k) x)) : Two h c r := by
  have hn := b1.2.2.2.1
  have hp2 : p < 12 := by omega
  refine Two.book (F := upd (CV h 0) (78 + 5 * p + k) x) (x := h 0 (9 + k) p) i (BkI.up (BP_upW b1 hp hk hx) b2 b3 b4 b5 b6 (fun j h1 h2 => up_n (by omega)) (fun j hj => up_n (by omega))) hc (bk_w hp2 hk) (fun h' e => ?_)
  refine ⟨_, (hr h' e).trans ?_, by rw [← rB e]; exact RkA.of (rk_u (by omega))⟩
  rw [rk0 (rB e) (by omega), show CV h 0 (78 + 5 * p + k) = h 0 (9 + k) p from vw_w hp2 hk]
theorem turn_ok (a b : Int32) : Ops (FX9_turn a b) (FX10_turn a b) := by
  refine Ops_two (fun h i => ?_)
  obtain ⟨n, nw, l, d, c, b1, b2, b3, b4, b5, b6⟩ := i.1
  have hn := b1.2.1
  unfold FX9_turn FX10_turn
  refine Two.ask (c_isP a h) (q_isP i a) (fun _ => Two.bad i) (fun z => ?_)
  refine Two.ask (f_within b 0 5) (fun h' e => part0 b) (fun _ => Two.bad i) (fun y => ?_)
  rw [b1.1] at z
  obtain ⟨p, hp, rfl⟩ := isP_nat (by omega) z
  have hp2 : p < 12 := by omega
  refine Two.setP (p := p) (k := 0) (x := b) i b1 b2 b3 b4 b5 b6 hp (by decide) (wi_rg (a := 0) (b := 5) y (by decide) (by decide)) ?_ (fun h' e => ?_)
  · rw [c_exch (ok_row 0 (by decide)) hp2, Option.bind_some]
  · rw [show FX10_its (nI p) 0 h' = some (h' 8 33 (6 + 6 * p + 0)) from f_its hp2 (k := 0) (by decide), Option.bind_some, show FX10_at (nI p) 0 = some (nI (6 + 6 * p + 0)) from f_at p 0, Option.bind_some, gd_ix (show 6 + 6 * p + 0 < 150 by omega) (by decide), nm_eq, nC_n (show 6 + 6 * p + 0 < 2 ^ 31 by omega)]
theorem set_ok (a b x : Int32) : Ops (FX9_set a b x) (FX10_set a b x) := by
  refine Ops_two (fun h i => ?_)
  obtain ⟨n, nw, l, d, c, b1, b2, b3, b4, b5, b6⟩ := i.1
  have hn := b1.2.1
  unfold FX9_set FX10_set
  refine Two.ask (c_isP a h) (q_isP i a) (fun _ => Two.bad i) (fun z => ?_)
  rw [b1.1] at z
  obtain ⟨p, hp, rfl⟩ := isP_nat (by omega) z
  have hp2 : p < 12 := by omega
  cases w : wi b 1 4 with
  | false =>
    refine Two.refNo (fun h' e => by rw [f_in (a := 1) (b := 4) 1 4 rfl rfl, w]) (Two.of (Two.bad i) ?_ (fun _ _ => rfl))
    rw [(c_mayF x w).1, Option.bind_some, bI_if, if_neg (by decide)]
  | true =>
    refine Two.refYes (fun h' e => by rw [f_in (a := 1) (b := 4) 1 4 rfl rfl, w]) ?_
    obtain ⟨k, k1, k2, rfl⟩ := wi_nat (a := 1) (b := 4) (by decide) w (by decide)
    refine Two.ask (c_may x k1 k2) (fun h' e => r_part x k2) (fun _ => Two.bad i) (fun y => ?_)
    have pb := pB k (by omega)
    rw [pb.1, pb.2.1] at y
    refine Two.setP (p := p) (k := k) (x := x) i b1 b2 b3 b4 b5 b6 hp (by omega) (wi_rg y pb.2.2.2.1 pb.2.2.2.2.1) ?_ (fun h' e => ?_)
    · rw [c_row 0 k (by omega), Option.bind_some, c_exch (ok_row k (by omega)) hp2, Option.bind_some]
    · rw [f_its hp2 (show k < 6 by omega), Option.bind_some, f_at, Option.bind_some, gd_ix (show 6 + 6 * p + k < 150 by omega) (by decide), nm_eq, nC_n (show 6 + 6 * p + k < 2 ^ 31 by omega)]
theorem r_asK (a b k : Int32) (h : HI) : (if b = 0 then JX10_as_59 a h else if k = b then JX10_as_59 a h else if b = 1 then (if k = 3 then JX10_as_59 a h else JX10_as_49 a b k h) else JX10_as_49 a b k h) = JX10_as_64 a (bI (underS k b)) h := by
  unfold JX10_as_49 JX10_as_59 JX10_as_63 underS
  by_cases c1 : b = 0
  · rw [if_pos c1, decide_eq_true c1]
    rfl
  · rw [if_neg c1, decide_eq_false c1]
    by_cases c2 : k = b
    · rw [if_pos c2, decide_eq_true c2]
      rfl
    · rw [if_neg c2, decide_eq_false c2]
      by_cases c3 : b = 1
      · rw [if_pos c3, decide_eq_true c3]
        by_cases c4 : k = 3
        · rw [if_pos c4, decide_eq_true c4]
          rfl
        · rw [if_neg c4, decide_eq_false c4]
          have c5 : ¬ b = 2 := by rw [c3]; decide
          rw [if_neg c5, decide_eq_false c5]
          rfl
      · rw [if_neg c3, decide_eq_false c3]
        by_cases c5 : b = 2
        · rw [if_pos c5, decide_eq_true c5]
          by_cases c6 : k = 4
          · rw [if_pos c6, decide_eq_true c6]
            rfl
          · rw [if_neg c6, decide_eq_false c6]
            rfl
        · rw [if_neg c5, decide_eq_false c5]
          rfl
theorem as_ok (a b : Int32) : Ops (FX9_as a b) (FX10_as a b) := by
  refine Ops_two (fun h i => ?_)
  obtain ⟨n, nw, l, d, c, b1, b2, b3, b4, b5, b6⟩ := i.1
  have hn := b1.2.1
  unfold FX9_as FX10_as
  refine Two.ask (c_isP a h) (q_isP i a) (fun _ => Two.bad i) (fun z => ?_)
  refine Two.ask (f_within b 0 5) (fun h' e => part0 b) (fun _ => Two.bad i) (fun y => ?_)
  rw [b1.1] at z
  obtain ⟨p, hp, rfl⟩ := isP_nat (by omega) z
  have hp2 : p < 12 := by omega
  have hk := (b1.2.2.2.2.1 p hp).1
  have hw := wi_rg (a := 0) (b := 5) y (by decide) (by decide)
  cases u : underS (kd (CV h 0) p) b with
  | false =>
    refine Two.of (Two.kind i) ?_ (fun h' e => ?_)
    · rw [f_under (g := 0) hp2 hk hw, show underS (kd (vw (h 0)) p) b = false from u, Option.bind_some, bI_if, if_neg (by decide)]
    · rw [its0 hp2, Option.bind_some, r_asK, rB e, u]
      unfold JX10_as_64
      rw [if_pos bI_f]
  | true =>
    refine Two.pure (x := hd (CV h 0) p) i ?_ (fun h' e => ?_)
    · rw [f_under (g := 0) hp2 hk hw, show underS (kd (vw (h 0)) p) b = true from u, Option.bind_some, bI_if, if_pos rfl, gd_ix hp2 (by decide), nC_n (by omega), show hd (CV h 0) p = h 0 6 p from vhd hp2]
    · rw [its0 hp2, Option.bind_some, r_asK, rB e, u]
      unfold JX10_as_64
      rw [if_neg (by decide), its4 hp2, Option.bind_some, rB e]
def newW (F : Nat → Int32) (n : Nat) (a1 a2 a3 : Int32) : Nat → Int32 := upd (upd (upd (upd (upd (upd F (78 + 5 * n + 0) a1) (78 + 5 * n + 1) a2) (78 + 5 * n + 2) a3) (78 + 5 * n + 3) 0) (78 + 5 * n + 4) 0) 1 (nI (n + 1))
theorem c_addW {h : HI} {g n : Nat} {F : Nat → Int32} {a1 a2 a3 : Int32} (e : vw (h g) = F) (e0 : F 1 = nI n) (hn : n < 12) : ∃ y : Int32 × HI, FX8_add g a1 a2 a3 h = some y ∧ (y.1 = nI n ∧ BkTo h g (newW F n a1 a2 a3) y.2) := by
  have up0 : ∀ {G : Nat → Int32} {k : Nat} {x : Int32}, G 1 = nI n → upd G (78 + 5 * n + k) x 1 = nI n := fun hG => (up_n (by omega)).trans hG
  have c0 : ∀ {h1 : HI} {G : Nat → Int32}, BkTo h g G h1 → G 1 = nI n → h1 g 8 5 = nI n := fun b hG => (bk0 b.at).2.1.trans hG
  have b0 : BkTo h g F h := by rw [← e]; exact BkTo.rf
  unfold FX8_add
  rw [c0 b0 e0, gd_ix hn (by decide), nC_n (by omega)]
  refine bkW b0 n 0 hn (by decide) (fun h1 b1 => ?_)
  rw [c0 b1 (up0 e0), gd_ix hn (by decide), nC_n (by omega)]
  refine bkW b1 n 1 hn (by decide) (fun h2 b2 => ?_)
  rw [c0 b2 (up0 (up0 e0)), gd_ix hn (by decide), nC_n (by omega)]
  refine bkW b2 n 2 hn (by decide) (fun h3 b3 => ?_)
  rw [c0 b3 (up0 (up0 (up0 e0))), gd_ix hn (by decide), nC_n (by omega)]
  refine bkW b3 n 3 hn (by decide) (fun h4 b4 => ?_)
  rw [c0 b4 (up0 (up0 (up0 (up0 e0)))), gd_ix hn (by decide), nC_n (by omega)]
  refine bkW b4 n 4 hn (by decide) (fun h5 b5 => ?_)
  rw [c0 b5 (up0 (up0 (up0 (up0 (up0 e0))))), nI_1]
  refine bk6S b5 1 (by decide) (fun h7 b7 => ⟨_, rfl, ?_, b7⟩)
  show h7 g 8 5 - 1 = nI n
  rw [(bk0 b7.at).2.1, up_s]
  exact nI_pred n
theorem r_newW {h : HI} {n : Nat} {F : Nat → Int32} {a1 a2 a3 : Int32} (e : tk (h 8 33) = F) (e0 : F 1 = nI n) (hn : n < 12) : ∃ y : Int32 × HI, FX10_newWant a1 a2 a3 h = some y ∧ (y.1 = nI n ∧ RkTo h (newW F n a1 a2 a3) y.2) := by
  have up0 : ∀ {G : Nat → Int32} {k : Nat} {x : Int32}, G 1 = nI n → upd G (78 + 5 * n + k) x 1 = nI n := fun hG => (up_n (by omega)).trans hG
  have b0 : RkTo h F h := by rw [← e]; exact RkTo.rf
  have eA : ∀ k : Nat, nI (78 + 5 * n) + nI k = nI (78 + 5 * n + k) := fun k => nI_add _ _
  unfold FX10_newWant
  rw [nm_eq, (rk0 e (show 1 < 150 by decide)).trans e0, show (78 : Int32) + 5 * nI n = nI (78 + 5 * n) by rw [show (78 : Int32) = nI 78 from rfl, show (5 : Int32) = nI 5 from rfl, pk_mul, nI_add]]
  rw [gd_ix (show 78 + 5 * n < 150 by omega) (by decide), nC_n (show 78 + 5 * n < 2 ^ 31 by omega)]
  refine rkS b0 (78 + 5 * n + 0) (by omega) (fun h1 b1 => ?_)
  rw [show nI (78 + 5 * n) + 1 = nI (78 + 5 * n + 1) from eA 1, gd_ix (show 78 + 5 * n + 1 < 150 by omega) (by decide), nC_n (show 78 + 5 * n + 1 < 2 ^ 31 by omega)]
  refine rkS b1 (78 + 5 * n + 1) (by omega) (fun h2 b2 => ?_)
  rw [show nI (78 + 5 * n) + 2 = nI (78 + 5 * n + 2) from eA 2, gd_ix (show 78 + 5 * n + 2 < 150 by omega) (by decide), nC_n (show 78 + 5 * n + 2 < 2 ^ 31 by omega)]
  refine rkS b2 (78 + 5 * n + 2) (by omega) (fun h3 b3 => ?_)
  rw [show nI (78 + 5 * n) + 3 = nI (78 + 5 * n + 3) from eA 3, gd_ix (show 78 + 5 * n + 3 < 150 by omega) (by decide), nC_n (show 78 + 5 * n + 3 < 2 ^ 31 by omega)]
  refine rkS b3 (78 + 5 * n + 3) (by omega) (fun h4 b4 => ?_)
  rw [show nI (78 + 5 * n) + 4 = nI (78 + 5 * n + 4) from eA 4, gd_ix (show 78 + 5 * n + 4 < 150 by omega) (by decide), nC_n (show 78 + 5 * n + 4 < 2 ^ 31 by omega)]
  refine rkS b4 (78 + 5 * n + 4) (by omega) (fun h5 b5 => ?_)
  rw [show h5 8 33 1 = nI n from (rk0 b5.at (by decide)).trans (up0 (up0 (up0 (up0 (up0 e0))))), nI_1]
  refine rkS b5 1 (by decide) (fun h7 b7 => ⟨_, rfl, ?_, b7⟩)
  show h7 8 33 1 - 1 = nI n
  rw [rk0 b7.at (by decide), up_s]
  exact nI_pred n
theorem newW_inv {F : Nat → Int32} {n nw l d c : Nat} {a1 a2 a3 : Int32} (b1 : BP F n nw) (b2 : OI F n l) (b3 : F 3 = nI d) (b4 : d ≤ 99) (b5 : F 4 = nI c) (b6 : c ≤ 1188 * d) (hw : nw < 12) (r1 : rg a1 0 9) (r2 : rg a2 0 99) (r3 : rg a3 0 99) : BkI (newW F nw a1 a2 a3) := by
  have hn := b1.2.1
  have g : ∀ x, ¬ x = 1 → (∀ k, k < 5 → ¬ x = 78 + 5 * nw + k) → newW F nw a1 a2 a3 x = F x := by
    intro x h0 hk
    unfold newW
    rw [up_n h0, up_n (hk 4 (by decide)), up_n (hk 3 (by decide)), up_n (hk 2 (by decide)), up_n (hk 1 (by decide)), up_n (hk 0 (by decide))]
  have b1' : BP (newW F nw a1 a2 a3) n (nw + 1) := by
    refine ⟨(g 0 (by decide) (fun k hk => by omega)).trans b1.1, b1.2.1, up_s, by omega, fun p hp => PI_cong (fun a ha => g _ (by omega) (fun k hk => by omega)) (b1.2.2.2.2.1 p hp), fun w hw2 => ?_, by rw [g 2 (by decide) (fun k hk => by omega)]; exact b1.2.2.2.2.2.2⟩
    by_cases z : w = nw
    · subst z
      refine WI_of (fun k hk => ?_)
      unfold newW
      match k, hk with
      | 0, _ => rw [up_n (by omega), up_n (by omega), up_n (by omega), up_n (by omega), up_n (by omega), up_s]; exact r1
      | 1, _ => rw [up_n (by omega), up_n (by omega), up_n (by omega), up_n (by omega), up_s]; exact r2
      | 2, _ => rw [up_n (by omega), up_n (by omega), up_n (by omega), up_s]; exact r3
      | 3, _ => rw [up_n (by omega), up_n (by omega), up_s]; exact ⟨0, by decide, by decide, rfl⟩
      | 4, _ => rw [up_n (by omega), up_s]; exact ⟨0, by decide, by decide, rfl⟩
    · exact WI_cong (fun a ha => g _ (by omega) (fun k hk => by omega)) (b1.2.2.2.2.2.1 w (by omega))
  exact BkI.up b1' b2 b3 b4 b5 b6 (fun j h1 h2 => g j (by omega) (fun k hk => by omega)) (fun j hj => g j (by omega) (fun k hk => by omega))
theorem want_ok (a1 a2 a3 : Int32) : Ops (FX9_want a1 a2 a3) (FX10_want a1 a2 a3) := by
  refine Ops_two (fun h i => ?_)
  obtain ⟨n, nw, l, d, c, b1, b2, b3, b4, b5, b6⟩ := i.1
  have hw := b1.2.2.2.1
  unfold FX9_want FX10_want
  refine Two.ask (f_within a1 0 9) (fun h' e => f_in (a := 0) (b := 9) 0 9 rfl rfl) (fun _ => Two.bad i) (fun y1 => ?_)
  refine Two.ask (f_within a2 0 99) (fun h' e => f_in (a := 0) (b := 99) 0 99 rfl rfl) (fun _ => Two.bad i) (fun y2 => ?_)
  refine Two.ask (f_within a3 0 99) (fun h' e => f_in (a := 0) (b := 99) 0 99 rfl rfl) (fun _ => Two.bad i) (fun y3 => ?_)
  have g0 : ∀ h', RV h' = CV h → h' 8 33 1 = nI nw := fun h' e => (rk0 (rB e) (by decide)).trans b1.2.2.1
  have k0 : h 0 8 5 = nI nw := b1.2.2.1
  by_cases z : nw < 12
  · obtain ⟨⟨x, h1⟩, q1, q2, q3⟩ := c_addW (g := 0) (a1 := a1) (a2 := a2) (a3 := a3) (show vw (h 0) = CV h 0 from rfl) b1.2.2.1 z
    dsimp only at q2 q3
    subst q2
    refine Two.book (F := newW (CV h 0) nw a1 a2 a3) (x := nI nw) (h1 := h1) i (newW_inv b1 b2 b3 b4 b5 b6 z (wi_rg (a := 0) (b := 9) y1 (by decide) (by decide)) (wi_rg (a := 0) (b := 99) y2 (by decide) (by decide)) (wi_rg (a := 0) (b := 99) y3 (by decide) (by decide))) ?_ q3 (fun h' e => ?_)
    · unfold FX8_isFull
      rw [k0, if_pos (show nI nw < 12 from lt_t (b := 12) z (by omega) (by decide)), Option.bind_some, if_pos rfl, q1, Option.bind_some]
    · obtain ⟨⟨x2, h2⟩, u1, u2, u3⟩ := r_newW (a1 := a1) (a2 := a2) (a3 := a3) (rB e) b1.2.2.1 z
      dsimp only at u2 u3
      subst u2
      refine ⟨h2, ?_, RkA.of u3⟩
      try dsimp only
      rw [g0 h' e, if_neg (show ¬ nI nw = 12 from nI_ne (b := 12) (by omega) (by omega) (by decide)), u1, Option.bind_some]
  · have z2 : nw = 12 := by omega
    subst z2
    refine Two.of (Two.full i) ?_ (fun h' e => ?_)
    · unfold FX8_isFull
      rw [k0, if_neg (by decide), Option.bind_some, if_neg (by decide)]
    · rw [g0 h' e, if_pos (show nI 12 = 12 from rfl)]
theorem wantOf_ok (a b : Int32) : Ops (FX9_wantOf a b) (FX10_wantOf a b) := by
  refine Ops_two (fun h i => ?_)
  obtain ⟨n, nw, l, d, c, b1, b2, b3, b4, b5, b6⟩ := i.1
  have hw := b1.2.2.2.1
  unfold FX9_wantOf FX10_wantOf
  refine Two.ask (c_isW a h) (q_isW i a) (fun _ => Two.bad i) (fun z => ?_)
  refine Two.ask (f_within b 0 4) (fun h' e => f_in (a := 0) (b := 4) 0 4 rfl rfl) (fun _ => Two.bad i) (fun y => ?_)
  rw [b1.2.2.1] at z
  obtain ⟨p, hp, rfl⟩ := isP_nat (by omega) z
  have hp2 : p < 12 := by omega
  obtain ⟨k, k1, k2, rfl⟩ := wi_nat (a := 0) (b := 4) (by decide) y (by decide)
  refine Two.pure (x := CV h 0 (78 + 5 * p + k)) i ?_ (fun h' e => ?_)
  · rw [c_wrow 0 k (by omega), Option.bind_some, gd_ok (ok_wrow k (by omega)) hp2, nC_n (by omega), show CV h 0 (78 + 5 * p + k) = h 0 (9 + k) p from vw_w hp2 (by omega)]
  · rw [f_wants hp2 (by omega), Option.bind_some, rk0 (rB e) (by omega)]
theorem change_ok (a b x : Int32) : Ops (FX9_change a b x) (FX10_change a b x) := by
  refine Ops_two (fun h i => ?_)
  obtain ⟨n, nw, l, d, c, b1, b2, b3, b4, b5, b6⟩ := i.1
  have hw := b1.2.2.2.1
  unfold FX9_change FX10_change
  refine Two.ask (c_isW a h) (q_isW i a) (fun _ => Two.bad i) (fun z => ?_)
  rw [b1.2.2.1] at z
  obtain ⟨p, hp, rfl⟩ := isP_nat (by omega) z
  have hp2 : p < 12 := by omega
  cases w : wi b 1 4 with
  | false =>
    refine Two.refNo (fun h' e => by rw [f_in (a := 1) (b := 4) 1 4 rfl rfl, w]) (Two.of (Two.bad i) ?_ (fun _ _ => rfl))
    rw [(c_mayF x w).2, Option.bind_some, bI_if, if_neg (by decide)]
  | true =>
    refine Two.refYes (fun h' e => by rw [f_in (a := 1) (b := 4) 1 4 rfl rfl, w]) ?_
    obtain ⟨k, k1, k2, rfl⟩ := wi_nat (a := 1) (b := 4) (by decide) w (by decide)
    have rr : ∀ h' : HI, (if 3 ≤ nI k then JX10_change_35 (nI p) (nI k) x (Int32.toInt64 x) 0 1 h' else JX10_change_35 (nI p) (nI k) x (Int32.toInt64 x) 0 99 h') = Option.bind (some (bI (wi x 0 (wHi k)))) fun r7 => if r7 = 0 then (Option.bind (FX10_finds (-1000000001) h') fun y => some (y.1, y.2)) else Option.bind (FX10_wants (nI p) (nI k) h') fun r8 => gd (ixb ((78 + (5 * nI p)) + nI k) 150) <| nm (hP1 h' 8 33 (nC ((78 + (5 * nI p)) + nI k)) x) fun h9 => some (r8, h9) := by
      intro h'
      unfold JX10_change_35
      match k, k1, k2 with
      | 1, _, _ => rw [if_neg (by decide), f_in (a := 0) (b := 99) 0 99 rfl rfl]; rfl
      | 2, _, _ => rw [if_neg (by decide), f_in (a := 0) (b := 99) 0 99 rfl rfl]; rfl
      | 3, _, _ => rw [if_pos (by decide), f_in (a := 0) (b := 1) 0 1 rfl rfl]; rfl
      | 4, _, _ => rw [if_pos (by decide), f_in (a := 0) (b := 1) 0 1 rfl rfl]; rfl
    refine Two.of (Two.ask (c_mayW x k1 k2) (q' := fun _ => some (bI (wi x 0 (wHi k)))) (fun h' e => rfl) (fun _ => Two.bad i) (fun y => ?_)) rfl (fun h' e => rr h')
    have pb := pB k (by omega)
    rw [pb.2.2.1] at y
    refine Two.setW (p := p) (k := k) (x := x) i b1 b2 b3 b4 b5 b6 hp (by omega) (wi_rg (a := 0) y (by decide) pb.2.2.2.2.2) ?_ (fun h' e => ?_)
    · rw [c_wrow 0 k (by omega), Option.bind_some, c_exch (ok_wrow k (by omega)) hp2, Option.bind_some]
    · rw [f_wants hp2 (show k < 5 by omega), Option.bind_some, show (78 : Int32) + 5 * nI p + nI k = nI (78 + 5 * p + k) by rw [show (78 : Int32) = nI 78 from rfl, show (5 : Int32) = nI 5 from rfl, pk_mul, nI_add, nI_add], gd_ix (show 78 + 5 * p + k < 150 by omega) (by decide), nm_eq, nC_n (show 78 + 5 * p + k < 2 ^ 31 by omega)]
