-- CHANGES of a book: the class's cells, the reference's row, the flat book
theorem flat_ext {F G : Nat → Int32} (h0 : ∀ i, i < 6 → F i = G i) (hp : ∀ p k, p < 12 → k < 6 → F (6 + 6 * p + k) = G (6 + 6 * p + k)) (hw : ∀ p k, p < 12 → k < 5 → F (78 + 5 * p + k) = G (78 + 5 * p + k)) (ho : ∀ i, i < 12 → F (138 + i) = G (138 + i)) (hx : ∀ i, 150 ≤ i → F i = G i) : F = G := by
  funext i
  by_cases a : i < 6
  · exact h0 i a
  · by_cases b : i < 78
    · have := hp ((i - 6) / 6) ((i - 6) % 6) (by omega) (by omega)
      rw [show 6 + 6 * ((i - 6) / 6) + (i - 6) % 6 = i by omega] at this
      exact this
    · by_cases c : i < 138
      · have := hw ((i - 78) / 5) ((i - 78) % 5) (by omega) (by omega)
        rw [show 78 + 5 * ((i - 78) / 5) + (i - 78) % 5 = i by omega] at this
        exact this
      · by_cases d : i < 150
        · have := ho (i - 138) (by omega)
          rw [show 138 + (i - 138) = i by omega] at this
          exact this
        · exact hx i (by omega)
theorem vw_big {u : Nat → Nat → Int32} {i : Nat} (h : 150 ≤ i) : vw u i = 0 := by
  unfold vw
  rw [if_neg (by omega), if_neg (by omega), if_neg (by omega), if_neg (by omega), if_neg (by omega), if_neg (by omega), if_neg (by omega), if_neg (by omega), if_neg (by omega)]
theorem tk_big {s : Nat → Int32} {i : Nat} (h : 150 ≤ i) : tk s i = 0 := if_neg (by omega)
theorem up_s {f : Nat → Int32} {k : Nat} {x : Int32} : upd f k x k = x := pk_us
theorem up_n {f : Nat → Int32} {k j : Nat} {x : Int32} (h : j ≠ k) : upd f k x j = f j := pk_un h
theorem vw6 {u : Nat → Nat → Int32} {i : Nat} (h : i < 6) : vw u i = [u 1 6, u 8 5, u 0 3, u 0 4, u 0 5, u 14 1].getD i 0 := by
  match i, h with
  | 0, _ => rfl
  | 1, _ => rfl
  | 2, _ => rfl
  | 3, _ => rfl
  | 4, _ => rfl
  | 5, _ => rfl
/-- one place of a cell of a book -/
def bU (u : Nat → Nat → Int32) (k j : Nat) (x : Int32) : Nat → Nat → Int32 := cU u k (upd (u k) j x)
theorem bU_s {u : Nat → Nat → Int32} {k j : Nat} {x : Int32} : bU u k j x k j = x := by unfold bU; rw [cU_s, up_s]
theorem bU_n {u : Nat → Nat → Int32} {k j k' j' : Nat} {x : Int32} (h : ¬ (k' = k ∧ j' = j)) : bU u k j x k' j' = u k' j' := by
  unfold bU
  by_cases e : k' = k
  · subst e
    rw [cU_s, up_n (fun z => h ⟨rfl, z⟩)]
  · rw [cU_n e]
theorem hP1_eq (h : HI) (g k j : Nat) (x : Int32) : hP1 h g k j x = hU h g (bU (h g) k j x) := rfl
theorem vw_up {u : Nat → Nat → Int32} {p k : Nat} {x : Int32} (hp : p < 12) (hk : k < 6) : vw (bU u (2 + k) p x) = upd (vw u) (6 + 6 * p + k) x := by
  refine flat_ext (fun i hi => ?_) (fun q j hq hj => ?_) (fun q j hq hj => ?_) (fun i hi => ?_) (fun i hi => ?_)
  · rw [up_n (by omega), vw6 hi, vw6 hi]
    rw [bU_n (by omega), bU_n (by omega), bU_n (by omega), bU_n (by omega), bU_n (by omega), bU_n (by omega)]
  · rw [vw_p hq hj]
    by_cases e : q = p ∧ j = k
    · rw [e.1, e.2, bU_s, up_s]
    · rw [bU_n (by omega), up_n (by omega), vw_p hq hj]
  · rw [vw_w hq hj, bU_n (by omega), up_n (by omega), vw_w hq hj]
  · rw [vw_o hi, bU_n (by omega), up_n (by omega), vw_o hi]
  · rw [vw_big hi, up_n (by omega), vw_big hi]
theorem vw_uw {u : Nat → Nat → Int32} {p k : Nat} {x : Int32} (hp : p < 12) (hk : k < 5) : vw (bU u (9 + k) p x) = upd (vw u) (78 + 5 * p + k) x := by
  refine flat_ext (fun i hi => ?_) (fun q j hq hj => ?_) (fun q j hq hj => ?_) (fun i hi => ?_) (fun i hi => ?_)
  · rw [up_n (by omega), vw6 hi, vw6 hi]
    rw [bU_n (by omega), bU_n (by omega), bU_n (by omega), bU_n (by omega), bU_n (by omega), bU_n (by omega)]
  · rw [vw_p hq hj, bU_n (by omega), up_n (by omega), vw_p hq hj]
  · rw [vw_w hq hj]
    by_cases e : q = p ∧ j = k
    · rw [e.1, e.2, bU_s, up_s]
    · rw [bU_n (by omega), up_n (by omega), vw_w hq hj]
  · rw [vw_o hi, bU_n (by omega), up_n (by omega), vw_o hi]
  · rw [vw_big hi, up_n (by omega), vw_big hi]
theorem vw_uo {u : Nat → Nat → Int32} {p : Nat} {x : Int32} (hp : p < 12) : vw (bU u 15 p x) = upd (vw u) (138 + p) x := by
  refine flat_ext (fun i hi => ?_) (fun q j hq hj => ?_) (fun q j hq hj => ?_) (fun i hi => ?_) (fun i hi => ?_)
  · rw [up_n (by omega), vw6 hi, vw6 hi]
    rw [bU_n (by omega), bU_n (by omega), bU_n (by omega), bU_n (by omega), bU_n (by omega), bU_n (by omega)]
  · rw [vw_p hq hj, bU_n (by omega), up_n (by omega), vw_p hq hj]
  · rw [vw_w hq hj, bU_n (by omega), up_n (by omega), vw_w hq hj]
  · rw [vw_o hi]
    by_cases e : i = p
    · rw [e, bU_s, up_s]
    · rw [bU_n (by omega), up_n (by omega), vw_o hi]
  · rw [vw_big hi, up_n (by omega), vw_big hi]
/-- where the six numbers of a book lie -/
def c6 : Nat → Nat × Nat
  | 0 => (1, 6)
  | 1 => (8, 5)
  | 2 => (0, 3)
  | 3 => (0, 4)
  | 4 => (0, 5)
  | _ => (14, 1)
theorem vw_u6 {u : Nat → Nat → Int32} {m : Nat} {x : Int32} (hm : m < 6) : vw (bU u (c6 m).1 (c6 m).2 x) = upd (vw u) m x := by
  have key : ∀ m : Fin 6, ∀ i : Fin 6, i ≠ m → c6 i.val ≠ c6 m.val := by decide
  have cs : ∀ m : Fin 6, (c6 m.val).1 < 2 ∨ (c6 m.val).1 = 8 ∨ (c6 m.val).1 = 14 := by decide
  have at6 : ∀ (v : Nat → Nat → Int32) (i : Nat), i < 6 → vw v i = v (c6 i).1 (c6 i).2 := by
    intro v i hi
    match i, hi with
    | 0, _ => rfl
    | 1, _ => rfl
    | 2, _ => rfl
    | 3, _ => rfl
    | 4, _ => rfl
    | 5, _ => rfl
  have c := cs ⟨m, hm⟩
  dsimp only at c
  refine flat_ext (fun i hi => ?_) (fun q j hq hj => ?_) (fun q j hq hj => ?_) (fun i hi => ?_) (fun i hi => ?_)
  · rw [at6 _ i hi]
    by_cases e : i = m
    · rw [e, bU_s, up_s]
    · have := key ⟨m, hm⟩ ⟨i, hi⟩ (fun z => e (Fin.mk.inj z))
      rw [bU_n (fun z => this (Prod.ext z.1 z.2)), up_n e, at6 _ i hi]
  · rw [vw_p hq hj, bU_n (fun z => by omega), up_n (by omega), vw_p hq hj]
  · rw [vw_w hq hj, bU_n (fun z => by omega), up_n (by omega), vw_w hq hj]
  · rw [vw_o hi, bU_n (fun z => by omega), up_n (by omega), vw_o hi]
  · rw [vw_big hi, up_n (by omega), vw_big hi]
theorem tk_up {s : Nat → Int32} {i : Nat} {x : Int32} (hi : i < 150) : tk (upd s i x) = upd (tk s) i x := by
  funext j
  unfold tk
  by_cases e : j = i
  · subst e
    rw [if_pos hi, up_s, up_s]
  · rw [up_n e, up_n e]
/-- the class's book g becomes F; nothing else changes -/
def BkTo (h : HI) (g : Nat) (F : Nat → Int32) (h' : HI) : Prop := ∃ u, h' = hU h g u ∧ vw u = F
theorem BkTo.at {h h' : HI} {g : Nat} {F : Nat → Int32} (b : BkTo h g F h') : vw (h' g) = F := by
  obtain ⟨u, rfl, e⟩ := b
  rw [hU_s, e]
theorem BkTo.out {h h' : HI} {g g' : Nat} {F : Nat → Int32} (b : BkTo h g F h') (e : g' ≠ g) : h' g' = h g' := by
  obtain ⟨u, rfl, -⟩ := b
  exact hU_n e
theorem BkTo.rf {h : HI} {g : Nat} : BkTo h g (vw (h g)) h := ⟨h g, by funext g'; unfold hU; split <;> simp_all, rfl⟩
theorem hU_hU {h : HI} {g : Nat} {u v : Nat → Nat → Int32} : hU (hU h g u) g v = hU h g v := by
  funext g'
  unfold hU
  split <;> rfl
theorem BkTo.tr {h h1 h2 : HI} {g : Nat} {F G : Nat → Int32} (a : BkTo h g F h1) (b : BkTo h1 g G h2) : BkTo h g G h2 := by
  obtain ⟨u, rfl, -⟩ := a
  obtain ⟨v, rfl, e⟩ := b
  exact ⟨v, hU_hU, e⟩
theorem bk_p {h : HI} {g p k : Nat} {x : Int32} (hp : p < 12) (hk : k < 6) : BkTo h g (upd (vw (h g)) (6 + 6 * p + k) x) (hP1 h g (2 + k) p x) := ⟨_, hP1_eq h g (2 + k) p x, vw_up hp hk⟩
theorem bk_w {h : HI} {g p k : Nat} {x : Int32} (hp : p < 12) (hk : k < 5) : BkTo h g (upd (vw (h g)) (78 + 5 * p + k) x) (hP1 h g (9 + k) p x) := ⟨_, hP1_eq h g (9 + k) p x, vw_uw hp hk⟩
theorem bk_o {h : HI} {g p : Nat} {x : Int32} (hp : p < 12) : BkTo h g (upd (vw (h g)) (138 + p) x) (hP1 h g 15 p x) := ⟨_, hP1_eq h g 15 p x, vw_uo hp⟩
theorem bk_6 {h : HI} {g m : Nat} {x : Int32} (hm : m < 6) : BkTo h g (upd (vw (h g)) m x) (hP1 h g (c6 m).1 (c6 m).2 x) := ⟨_, hP1_eq h g (c6 m).1 (c6 m).2 x, vw_u6 hm⟩
/-- the reference's row becomes F; nothing else changes -/
def RkTo (h : HI) (F : Nat → Int32) (h' : HI) : Prop := ∃ s, h' = hPF h 8 33 s ∧ tk s = F
theorem RkTo.at {h h' : HI} {F : Nat → Int32} (b : RkTo h F h') : tk (h' 8 33) = F := by
  obtain ⟨u, rfl, e⟩ := b
  rw [hPF_s, e]
theorem RkTo.out {h h' : HI} {g k : Nat} {F : Nat → Int32} (b : RkTo h F h') (e : ¬ (g = 8 ∧ k = 33)) : h' g k = h g k := by
  obtain ⟨u, rfl, -⟩ := b
  exact hPF_n e
theorem RkTo.grp {h h' : HI} {g : Nat} {F : Nat → Int32} (b : RkTo h F h') (e : g ≠ 8) : h' g = h g := by
  funext k
  exact b.out (fun z => e z.1)
theorem hPF_hPF {h : HI} {g k : Nat} {f f' : Nat → Int32} : hPF (hPF h g k f) g k f' = hPF h g k f' := by
  funext g' k'
  by_cases e : g' = g ∧ k' = k
  · rw [e.1, e.2, hPF_s, hPF_s]
  · rw [hPF_n e, hPF_n e, hPF_n e]
theorem hPF_self {h : HI} {g k : Nat} : hPF h g k (h g k) = h := by
  funext g' k'
  by_cases e : g' = g ∧ k' = k
  · rw [e.1, e.2, hPF_s]
  · rw [hPF_n e]
theorem RkTo.rf {h : HI} : RkTo h (tk (h 8 33)) h := ⟨h 8 33, hPF_self.symm, rfl⟩
theorem RkTo.tr {h h1 h2 : HI} {F G : Nat → Int32} (a : RkTo h F h1) (b : RkTo h1 G h2) : RkTo h G h2 := by
  obtain ⟨u, rfl, -⟩ := a
  obtain ⟨v, rfl, e⟩ := b
  exact ⟨v, hPF_hPF, e⟩
theorem rk_u {h : HI} {i : Nat} {x : Int32} (hi : i < 150) : RkTo h (upd (tk (h 8 33)) i x) (hP1 h 8 33 i x) := ⟨upd (h 8 33) i x, rfl, tk_up hi⟩
-- accessors of a changed book
section Acc
variable {F : Nat → Int32} {x : Int32} {p q k : Nat}
theorem upP {a : Nat} (hk : k < 6) (ha : a < 6) : upd F (6 + 6 * p + k) x (6 + 6 * q + a) = if q = p ∧ a = k then x else F (6 + 6 * q + a) := by
  by_cases e : q = p ∧ a = k
  · rw [if_pos e, e.1, e.2, up_s]
  · rw [if_neg e, up_n (by omega)]
theorem upW {a : Nat} (hk : k < 5) (ha : a < 5) : upd F (78 + 5 * p + k) x (78 + 5 * q + a) = if q = p ∧ a = k then x else F (78 + 5 * q + a) := by
  by_cases e : q = p ∧ a = k
  · rw [if_pos e, e.1, e.2, up_s]
  · rw [if_neg e, up_n (by omega)]
end Acc
