-- arrangements by number, and the next arrangement
def fct (k : Nat) : Nat := [1, 1, 2, 6, 24, 120].getD k 0
def stp (x : List Nat × Nat × List Nat) (j : Nat) : List Nat × Nat × List Nat := (x.1.filter (fun q => decide (q ≠ x.1.getD (x.2.1 / fct j) 0)), x.2.1 % fct j, x.2.2 ++ [x.1.getD (x.2.1 / fct j) 0])
def stI (m a : Nat) : Nat → List Nat × Nat × List Nat
  | 0 => (List.range m, a, [])
  | i + 1 => stp (stI m a i) (m - 1 - i)
def rwI (m a : Nat) : List Nat := (stI m a m).2.2
theorem kP0 : ∀ m, m < 6 → ∀ a, a < fct m → ∀ i, i < m → (stI m a i).1.length = m - i ∧ (stI m a i).2.1 / fct (m - 1 - i) < m - i ∧ (stI m a i).2.1 < 120 ∧ ((stI m a i).1.all fun y => decide (y < m) && decide (¬ y ∈ (stI m a i).2.2)) = true ∧ (stI m a i).2.2.length = i ∧ ((stI m a i).2.2.all fun y => decide (y < m)) = true := by decide +kernel
theorem kP {m a i : Nat} (h1 : m < 6) (h2 : a < fct m) (h3 : i < m) : (stI m a i).1.length = m - i ∧ (stI m a i).2.1 / fct (m - 1 - i) < m - i ∧ (stI m a i).2.1 < 120 ∧ (∀ y ∈ (stI m a i).1, y < m ∧ ¬ y ∈ (stI m a i).2.2) ∧ (stI m a i).2.2.length = i ∧ ∀ y ∈ (stI m a i).2.2, y < m := by
  obtain ⟨k1, k2, k3, k4, k5, k6⟩ := kP0 m h1 a h2 i h3
  rw [List.all_eq_true] at k4 k6
  refine ⟨k1, k2, k3, fun y hy => ?_, k5, fun y hy => of_decide_eq_true (k6 y hy)⟩
  have := k4 y hy
  rw [Bool.and_eq_true] at this
  exact ⟨of_decide_eq_true this.1, of_decide_eq_true this.2⟩
theorem kR0 : ∀ m, m < 6 → ∀ a, a < fct m → (rwI m a).length = m ∧ ((rwI m a).all fun y => decide (y < m)) = true := by decide +kernel
theorem kR1 : ∀ m, m < 6 → ∀ a, a < fct m → ∀ i, i < m → ∀ j, j < m → (rwI m a).getD i 0 = (rwI m a).getD j 0 → i = j := by decide +kernel
theorem kR {m a : Nat} (h1 : m < 6) (h2 : a < fct m) : (rwI m a).length = m ∧ (∀ y ∈ rwI m a, y < m) ∧ (∀ i, i < m → ∀ j, j < m → (rwI m a).getD i 0 = (rwI m a).getD j 0 → i = j) := by
  obtain ⟨k1, k2⟩ := kR0 m h1 a h2
  rw [List.all_eq_true] at k2
  exact ⟨k1, fun y hy => of_decide_eq_true (k2 y hy), kR1 m h1 a h2⟩
theorem kO : ∀ m, m < 6 → rwI m 0 = List.range m ∧ 0 < fct m ∧ fct m ≤ 120 := by decide +kernel
def fkN (f : Nat → Nat) : Nat → Option Nat
  | 0 => none
  | t + 1 => if f t ≤ f (t + 1) then some t else fkN f t
def flN (f : Nat → Nat) (k : Nat) : Nat → Nat
  | 0 => 0
  | t + 1 => if f k ≤ f t then t else flN f k t
def swN (f : Nat → Nat) (k l : Nat) : Nat → Nat := fun i => if i = l then f k else if i = k then f l else f i
def rvN : Nat → (Nat → Nat) → Nat → Nat → Nat → Nat
  | 0, f, _, _ => f
  | t + 1, f, i, j => if j ≤ i then f else rvN t (swN f i j) (i + 1) (j - 1)
def rF (m a : Nat) : Nat → Nat := fun i => (rwI m a).getD i 0
theorem kN : ∀ m, m < 6 → ∀ a, a < fct m → (a + 1 = fct m → fkN (rF m a) (m - 1) = none) ∧ (a + 1 < fct m → ∃ k, k < m - 1 ∧ fkN (rF m a) (m - 1) = some k ∧ k < flN (rF m a) k m ∧ flN (rF m a) k m < m ∧ ∀ i, i < m → rvN 5 (swN (rF m a) k (flN (rF m a) k m)) (k + 1) (m - 1) i = rF m (a + 1) i) := by decide +kernel
