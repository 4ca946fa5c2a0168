-- FUNCTIONS: numbers, loops
theorem nm_eq {α β : Type} (a : α) (f : α → β) : nm a f = f a := rfl
theorem nC_n {n : Nat} (h : n < 2 ^ 31) : nC (nI n) = n := nI_clamp h
theorem ixb_n {p n : Nat} (h : p < n) (hn : n < 2 ^ 31) : ixb (nI p) n = true := ixb_iff.mpr ⟨nI_pos (by omega), by rw [nC_n (by omega)]; exact h⟩
theorem gd_1 {β : Type} {o : Option β} : gd true o = o := rfl
theorem gd_ix {β : Type} {o : Option β} {p n : Nat} (h : p < n) (hn : n < 2 ^ 31) : gd (ixb (nI p) n) o = o := by rw [ixb_n h hn]; rfl
theorem isB_bI (b : Bool) : isB (bI b) = true := by cases b <;> rfl
theorem gd_B {β : Type} {o : Option β} {b : Bool} : gd (isB (bI b)) o = o := by rw [isB_bI]; rfl
theorem FU_lt : 4200 < FU := by decide
/-- a loop that goes from state to state and ends -/
theorem for_loop {σ ε : Type} {f : σ → Option (σ ⊕ ε)} (st : Nat → σ) (n : Nat) (r : ε) (hs : ∀ i, i < n → f (st i) = some (.inl (st (i + 1)))) (he : f (st n) = some (.inr r)) (k : Nat) (hk : n < k) : loopN f k (st 0) = some r := by
  have key : ∀ (j i k : Nat), i + j = n → j < k → loopN f k (st i) = some r := by
    intro j
    induction j with
    | zero =>
      intro i k hi hk
      have e : i = n := by omega
      subst e
      cases k with
      | zero => omega
      | succ k => unfold loopN; rw [he]
    | succ j ih =>
      intro i k hi hk
      cases k with
      | zero => omega
      | succ k =>
        unfold loopN
        rw [hs i (by omega)]
        exact ih (i + 1) k (by omega) (by omega)
  exact key n 0 k (by omega) hk
/-- a loop that looks for one: it ends there, or behind the last -/
theorem any_loop {σ ε : Type} {f : σ → Option (σ ⊕ ε)} (st : Nat → σ) (n : Nat) (P : Nat → Bool) (r1 r0 : ε) (hs : ∀ i, i < n → P i = false → f (st i) = some (.inl (st (i + 1)))) (ht : ∀ i, i < n → P i = true → f (st i) = some (.inr r1)) (he : f (st n) = some (.inr r0)) (k : Nat) (hk : n < k) : loopN f k (st 0) = some (if (List.range n).any P = true then r1 else r0) := by
  have key : ∀ (j i k : Nat), i + j = n → j < k → loopN f k (st i) = some (if (List.range' i j).any P = true then r1 else r0) := by
    intro j
    induction j with
    | zero =>
      intro i k hi hk
      have e : i = n := by omega
      subst e
      cases k with
      | zero => omega
      | succ k => unfold loopN; rw [he]; rfl
    | succ j ih =>
      intro i k hi hk
      cases k with
      | zero => omega
      | succ k =>
        unfold loopN
        rw [List.range'_succ, List.any_cons]
        cases hP : P i with
        | true => rw [ht i (by omega) hP]; rfl
        | false =>
          rw [hs i (by omega) hP, Bool.false_or]
          exact ih (i + 1) k (by omega) (by omega)
  have h := key n 0 k (by omega) hk
  rwa [← List.range_eq_range'] at h
def foldN {α : Type} (f : Nat → α → α) : Nat → α → α
  | 0, a => a
  | n + 1, a => f n (foldN f n a)
theorem foldN_s {α : Type} (f : Nat → α → α) (n : Nat) (a : α) : foldN f (n + 1) a = f n (foldN f n a) := rfl
theorem foldN_cong {α : Type} {f g : Nat → α → α} {n : Nat} (h : ∀ i a, i < n → f i a = g i a) (a : α) : foldN f n a = foldN g n a := by
  induction n with
  | zero => rfl
  | succ n ih => rw [foldN_s, foldN_s, ih (fun i a hi => h i a (by omega)), h n _ (by omega)]
theorem foldN_inv {α : Type} {f : Nat → α → α} (I : Nat → α → Prop) {n : Nat} {a : α} (h0 : I 0 a) (hs : ∀ i x, i < n → I i x → I (i + 1) (f i x)) : I n (foldN f n a) := by
  induction n with
  | zero => exact h0
  | succ n ih => exact hs n _ (by omega) (ih (fun i x hi => hs i x (by omega)))
-- the flat book: the reference's row, and a class's book seen so
def tk (s : Nat → Int32) : Nat → Int32 := fun i => if i < 150 then s i else 0
def vw (u : Nat → Nat → Int32) : Nat → Int32 := fun i =>
  if i = 0 then u 1 6 else if i = 1 then u 8 5 else if i = 2 then u 0 3 else if i = 3 then u 0 4 else if i = 4 then u 0 5 else if i = 5 then u 14 1
  else if i < 78 then u (2 + (i - 6) % 6) ((i - 6) / 6)
  else if i < 138 then u (9 + (i - 78) % 5) ((i - 78) / 5)
  else if i < 150 then u 15 (i - 138) else 0
theorem tk_lt {s : Nat → Int32} {i : Nat} (h : i < 150) : tk s i = s i := if_pos h
def kd (F : Nat → Int32) (p : Nat) : Int32 := F (6 + 6 * p)
def tp (F : Nat → Int32) (p : Nat) : Int32 := F (6 + 6 * p + 1)
def mi (F : Nat → Int32) (p : Nat) : Int32 := F (6 + 6 * p + 2)
def sd (F : Nat → Int32) (p : Nat) : Int32 := F (6 + 6 * p + 3)
def hd (F : Nat → Int32) (p : Nat) : Int32 := F (6 + 6 * p + 4)
def us (F : Nat → Int32) (p : Nat) : Int32 := F (6 + 6 * p + 5)
def wt (F : Nat → Int32) (w : Nat) : Int32 := F (78 + 5 * w)
def wo (F : Nat → Int32) (w : Nat) : Int32 := F (78 + 5 * w + 1)
def wy (F : Nat → Int32) (w : Nat) : Int32 := F (78 + 5 * w + 2)
def wh (F : Nat → Int32) (w : Nat) : Int32 := F (78 + 5 * w + 3)
def wc (F : Nat → Int32) (w : Nat) : Int32 := F (78 + 5 * w + 4)
def od (F : Nat → Int32) (i : Nat) : Int32 := F (138 + i)
theorem vw_p {u : Nat → Nat → Int32} {p k : Nat} (hp : p < 12) (hk : k < 6) : vw u (6 + 6 * p + k) = u (2 + k) p := by
  unfold vw
  rw [if_neg (by omega), if_neg (by omega), if_neg (by omega), if_neg (by omega), if_neg (by omega), if_neg (by omega), if_pos (by omega)]
  congr 1
  · congr 1; omega
  · omega
theorem vw_w {u : Nat → Nat → Int32} {p k : Nat} (hp : p < 12) (hk : k < 5) : vw u (78 + 5 * p + k) = u (9 + k) p := by
  unfold vw
  rw [if_neg (by omega), if_neg (by omega), if_neg (by omega), if_neg (by omega), if_neg (by omega), if_neg (by omega), if_neg (by omega), if_pos (by omega)]
  congr 1
  · congr 1; omega
  · omega
theorem vw_o {u : Nat → Nat → Int32} {i : Nat} (hi : i < 12) : vw u (138 + i) = u 15 i := by
  unfold vw
  rw [if_neg (by omega), if_neg (by omega), if_neg (by omega), if_neg (by omega), if_neg (by omega), if_neg (by omega), if_neg (by omega), if_neg (by omega), if_pos (by omega), Nat.add_sub_cancel_left]
theorem vw_0 (u : Nat → Nat → Int32) : vw u 0 = u 1 6 := rfl
theorem vw_1 (u : Nat → Nat → Int32) : vw u 1 = u 8 5 := rfl
theorem vw_2 (u : Nat → Nat → Int32) : vw u 2 = u 0 3 := rfl
theorem vw_3 (u : Nat → Nat → Int32) : vw u 3 = u 0 4 := rfl
theorem vw_4 (u : Nat → Nat → Int32) : vw u 4 = u 0 5 := rfl
theorem vw_5 (u : Nat → Nat → Int32) : vw u 5 = u 14 1 := rfl
section Views
variable {u : Nat → Nat → Int32} {s : Nat → Int32} {p : Nat}
theorem vkd (hp : p < 12) : kd (vw u) p = u 2 p := vw_p hp (k := 0) (by decide)
theorem vtp (hp : p < 12) : tp (vw u) p = u 3 p := vw_p hp (k := 1) (by decide)
theorem vmi (hp : p < 12) : mi (vw u) p = u 4 p := vw_p hp (k := 2) (by decide)
theorem vsd (hp : p < 12) : sd (vw u) p = u 5 p := vw_p hp (k := 3) (by decide)
theorem vhd (hp : p < 12) : hd (vw u) p = u 6 p := vw_p hp (k := 4) (by decide)
theorem vus (hp : p < 12) : us (vw u) p = u 7 p := vw_p hp (k := 5) (by decide)
theorem vwt (hp : p < 12) : wt (vw u) p = u 9 p := vw_w hp (k := 0) (by decide)
theorem vwo (hp : p < 12) : wo (vw u) p = u 10 p := vw_w hp (k := 1) (by decide)
theorem vwy (hp : p < 12) : wy (vw u) p = u 11 p := vw_w hp (k := 2) (by decide)
theorem vwh (hp : p < 12) : wh (vw u) p = u 12 p := vw_w hp (k := 3) (by decide)
theorem vwc (hp : p < 12) : wc (vw u) p = u 13 p := vw_w hp (k := 4) (by decide)
theorem vod (hp : p < 12) : od (vw u) p = u 15 p := vw_o hp
theorem tkd (hp : p < 12) : kd (tk s) p = s (6 + 6 * p) := tk_lt (by omega)
theorem ttp (hp : p < 12) : tp (tk s) p = s (6 + 6 * p + 1) := tk_lt (by omega)
theorem tmi (hp : p < 12) : mi (tk s) p = s (6 + 6 * p + 2) := tk_lt (by omega)
theorem tsd (hp : p < 12) : sd (tk s) p = s (6 + 6 * p + 3) := tk_lt (by omega)
theorem thd (hp : p < 12) : hd (tk s) p = s (6 + 6 * p + 4) := tk_lt (by omega)
theorem tus (hp : p < 12) : us (tk s) p = s (6 + 6 * p + 5) := tk_lt (by omega)
theorem twt (hp : p < 12) : wt (tk s) p = s (78 + 5 * p) := tk_lt (by omega)
theorem two (hp : p < 12) : wo (tk s) p = s (78 + 5 * p + 1) := tk_lt (by omega)
theorem twy (hp : p < 12) : wy (tk s) p = s (78 + 5 * p + 2) := tk_lt (by omega)
theorem twh (hp : p < 12) : wh (tk s) p = s (78 + 5 * p + 3) := tk_lt (by omega)
theorem twc (hp : p < 12) : wc (tk s) p = s (78 + 5 * p + 4) := tk_lt (by omega)
theorem tod (hp : p < 12) : od (tk s) p = s (138 + p) := tk_lt (by omega)
end Views
/-- a number of a range, as a natural number -/
def rg (x : Int32) (a b : Nat) : Prop := ∃ n : Nat, a ≤ n ∧ n ≤ b ∧ x = nI n
/-- phrase p is as it must be -/
def PI (F : Nat → Int32) (p : Nat) : Prop := rg (kd F p) 0 5 ∧ rg (tp F p) 0 9 ∧ rg (mi F p) 1 60 ∧ rg (sd F p) 0 10 ∧ rg (hd F p) 0 100
def WI (F : Nat → Int32) (w : Nat) : Prop := rg (wt F w) 0 9 ∧ rg (wo F w) 0 99 ∧ rg (wy F w) 0 99 ∧ rg (wh F w) 0 1 ∧ rg (wc F w) 0 1
/-- the book is as it must be: n phrases, w wants, an order of l of them -/
def BI (F : Nat → Int32) (n w l : Nat) : Prop := F 0 = nI n ∧ n ≤ 12 ∧ F 1 = nI w ∧ w ≤ 12 ∧ F 5 = nI l ∧ l ≤ n ∧ rg (F 2) 1 100 ∧ (∃ d c : Nat, F 3 = nI d ∧ d ≤ 200 ∧ F 4 = nI c ∧ c ≤ 1188 * d) ∧ (∀ p, p < n → PI F p) ∧ (∀ j, j < w → WI F j) ∧ (∀ i, i < l → ∃ p, p < n ∧ od F i = nI p) ∧ (∀ i j, i < l → j < l → od F i = od F j → i = j)
/-- any loop: an invariant by rounds, n rounds at most -/
theorem gloop {σ ε : Type} {f : σ → Option (σ ⊕ ε)} (I : Nat → σ → Prop) (R : ε → Prop) (n : Nat) (hs : ∀ i s, i ≤ n → I i s → (i < n ∧ ∃ s', f s = some (.inl s') ∧ I (i + 1) s') ∨ ∃ r, f s = some (.inr r) ∧ R r) {k : Nat} (hk : n < k) {s0 : σ} (h0 : I 0 s0) : ∃ r, loopN f k s0 = some r ∧ R r := by
  have key : ∀ (j i k : Nat) (s : σ), i + j = n → j < k → I i s → ∃ r, loopN f k s = some r ∧ R r := by
    intro j
    induction j with
    | zero =>
      intro i k s hi hk hI
      cases k with
      | zero => omega
      | succ k =>
        rcases hs i s (by omega) hI with ⟨h1, -⟩ | ⟨r, h1, h2⟩
        · omega
        · exact ⟨r, by unfold loopN; rw [h1], h2⟩
    | succ j ih =>
      intro i k s hi hk hI
      cases k with
      | zero => omega
      | succ k =>
        rcases hs i s (by omega) hI with ⟨h1, s', h2, h3⟩ | ⟨r, h1, h2⟩
        · obtain ⟨r, h4, h5⟩ := ih (i + 1) k s' (by omega) (by omega) h3
          exact ⟨r, by unfold loopN; rw [h2]; exact h4, h5⟩
        · exact ⟨r, by unfold loopN; rw [h1], h2⟩
  exact key n 0 k s0 (by omega) hk h0
