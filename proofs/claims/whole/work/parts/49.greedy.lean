-- GREEDY
theorem memL_cong {x y : Int32} {n : Nat} (h : ∀ p, p < n → bs x p = bs y p) : memL x n = memL y n := by
  induction n with
  | zero => simp [memL]
  | succ n ih => rw [memL_s, memL_s, ih (fun p hp => h p (by omega)), h n (by omega)]
theorem memL_add {set : Int32} {p n : Nat} (hn : n ≤ 32) (hp : p < n) (hb : bs set p = false) : (memL (set ||| ((1 : Int32) <<< (nI p &&& 31))) n).length = (memL set n).length + 1 := by
  induction n with
  | zero => omega
  | succ n ih =>
    rw [memL_s, memL_s, bs_or set (show p < 32 by omega) (show n < 32 by omega)]
    by_cases e : p = n
    · subst e
      have := memL_cong (x := set ||| ((1 : Int32) <<< (nI p &&& 31))) (y := set) (n := p) (fun q hq => by rw [bs_or set (by omega) (by omega)]; simp [show ¬ q = p by omega])
      rw [this]
      simp [hb]
    · have ih' := ih (by omega) (by omega)
      rw [show decide (n = p) = false from decide_eq_false (by omega), Bool.or_false]
      cases bs set n <;> simp [ih']
def fnd (F : Nat → Int32) (n nw : Nat) (x : Int32 × Int32) : Int32 := (mostS F n nw x.1 x.2 true n).1
def grS (F : Nat → Int32) (n nw : Nat) (m : Int32) : Nat → Int32 × Int32
  | 0 => (0, m)
  | i + 1 => if fnd F n nw (grS F n nw m i) < 0 then grS F n nw m i else ((grS F n nw m i).1 ||| ((1 : Int32) <<< (fnd F n nw (grS F n nw m i) &&& 31)), (grS F n nw m i).2 - mi F (nC (fnd F n nw (grS F n nw m i))))
theorem grS_s (F : Nat → Int32) (n nw : Nat) (m : Int32) (i : Nat) : grS F n nw m (i + 1) = if fnd F n nw (grS F n nw m i) < 0 then grS F n nw m i else ((grS F n nw m i).1 ||| ((1 : Int32) <<< (fnd F n nw (grS F n nw m i) &&& 31)), (grS F n nw m i).2 - mi F (nC (fnd F n nw (grS F n nw m i)))) := rfl
theorem grS_0 (F : Nat → Int32) (n nw : Nat) (m : Int32) : (grS F n nw m 0).1 = 0 := rfl
theorem m1_neg : (-1 : Int32) < 0 := by decide
theorem memL_0 {n : Nat} (hn : n ≤ 12) : memL 0 n = [] := by
  unfold memL
  rw [List.filter_eq_nil_iff]
  intro p hp
  rw [List.mem_range] at hp
  rw [bs_0 (by omega)]
  simp
set_option maxRecDepth 100000 in
theorem gr_end {F : Nat → Int32} {n nw : Nat} {m : Int32} (hn : n ≤ 12) (hV : ∀ s, rg (valueS F n nw s) 0 1188) : ∃ K, K ≤ n ∧ fnd F n nw (grS F n nw m K) < 0 ∧ ∀ i, i < K → ¬ fnd F n nw (grS F n nw m i) < 0 ∧ ∃ p, p < n ∧ fnd F n nw (grS F n nw m i) = nI p ∧ bs (grS F n nw m i).1 p = false := by
  have inv : ∀ i, ¬ fnd F n nw (grS F n nw m i) < 0 → ∃ p, p < n ∧ fnd F n nw (grS F n nw m i) = nI p ∧ bs (grS F n nw m i).1 p = false := by
    intro i hi
    rcases (mostS_inv (F := F) (set := (grS F n nw m i).1) (lim := (grS F n nw m i).2) (few := true) hV n).2 with z | ⟨p, z1, z2, z3, -⟩
    · exact absurd (show fnd F n nw (grS F n nw m i) < 0 by unfold fnd; rw [z]; exact m1_neg) hi
    · exact ⟨p, z1, z2, z3⟩
  have cnt : ∀ i, (∀ j, j < i → ¬ fnd F n nw (grS F n nw m j) < 0) → (memL (grS F n nw m i).1 n).length = i := by
    intro i
    induction i with
    | zero =>
      intro _
      rw [grS_0, memL_0 hn]
      rfl
    | succ i ih =>
      intro h
      have ih' := ih (fun j hj => h j (by omega))
      obtain ⟨p, h1, h2, h3⟩ := inv i (h i (by omega))
      have e : (grS F n nw m (i + 1)).1 = (grS F n nw m i).1 ||| ((1 : Int32) <<< (nI p &&& 31)) := by
        rw [grS_s, if_neg (h i (by omega)), h2]
      rw [e, memL_add (by omega) h1 h3, ih']
  have ex : ∃ k, fnd F n nw (grS F n nw m k) < 0 ∧ k ≤ n := by
    by_cases z : ∀ j, j < n → ¬ fnd F n nw (grS F n nw m j) < 0
    · refine ⟨n, ?_, Nat.le_refl n⟩
      by_cases y : fnd F n nw (grS F n nw m n) < 0
      · exact y
      · obtain ⟨p, h1, h2, h3⟩ := inv n y
        have c1 := cnt n z
        have c2 := memL_add (set := (grS F n nw m n).1) (show n ≤ 32 by omega) h1 h3
        have c3 := memL_len ((grS F n nw m n).1 ||| ((1 : Int32) <<< (nI p &&& 31))) n
        omega
    · have ⟨j, hj⟩ := Classical.not_forall.mp z
      have ⟨h1, h2⟩ := Classical.not_imp.mp hj
      exact ⟨j, Classical.not_not.mp h2, by omega⟩
  obtain ⟨K, ⟨h1, h2⟩, h3⟩ := pk_least (fun k => fnd F n nw (grS F n nw m k) < 0 ∧ k ≤ n) ex
  refine ⟨K, h2, h1, fun i hi => ?_⟩
  have : ¬ fnd F n nw (grS F n nw m i) < 0 := fun z => h3 i hi ⟨z, by omega⟩
  exact ⟨this, inv i this⟩
theorem gr_s {F : Nat → Int32} {n nw : Nat} {m : Int32} {i p : Nat} (h : ¬ fnd F n nw (grS F n nw m i) < 0) (e : fnd F n nw (grS F n nw m i) = nI p) (hp : p < 12) : grS F n nw m (i + 1) = ((grS F n nw m i).1 ||| ((1 : Int32) <<< (nI p &&& 31)), (grS F n nw m i).2 - mi F p) := by
  rw [grS_s, if_neg h, e, nC_n (by omega)]
theorem c_greedy {F : Nat → Int32} {n nw K : Nat} {h : HI} {m : Int32} (c : CH F n nw h) (hn2 : n ≤ 12) (hw2 : nw ≤ 12) (hV : ∀ s, rg (valueS F n nw s) 0 1188) (hK : K ≤ n) (hK1 : fnd F n nw (grS F n nw m K) < 0) (hK2 : ∀ i, i < K → ¬ fnd F n nw (grS F n nw m i) < 0 ∧ ∃ p, p < n ∧ fnd F n nw (grS F n nw m i) = nI p ∧ bs (grS F n nw m i).1 p = false) : ∃ h', FX1_greedySet m h = some ((grS F n nw m K).1, h') ∧ (∀ g, g ≠ 4 → h' g = h g) ∧ CH F n nw h' := by
  have key : ∃ r, loopN (SX1_greedySet_7) FU (0, m, 0, h) = some r ∧ (fun r : Int32 × HI => r.1 = (grS F n nw m K).1 ∧ (∀ g, g ≠ 4 → r.2 g = h g) ∧ CH F n nw r.2) r := by
    refine gloop (f := SX1_greedySet_7) (fun i (s : Int32 × Int32 × Int32 × HI) => (s.1, s.2.1) = grS F n nw m i ∧ s.2.2.1 = nI i ∧ (∀ g, g ≠ 4 → s.2.2.2 g = h g) ∧ CH F n nw s.2.2.2) _ K ?_ (k := FU) (by have := FU_lt; omega) (s0 := (0, m, 0, h)) ⟨rfl, rfl, fun _ _ => rfl, c⟩
    rintro i ⟨a, b, d, h2⟩ hi ⟨i0, rfl, i1, i2⟩
    dsimp only at i0 i1 i2
    obtain ⟨h3, f1, f2, f3⟩ := c_step (set := a) (lim := b) i2 hn2 hw2 hV
    have fr : ∀ g, g ≠ 4 → h3 g = h g := fun g hg => by rw [f2 g hg]; exact i1 g hg
    have ef : (mostS F n nw a b true n).1 = fnd F n nw (grS F n nw m i) := by rw [← i0]; rfl
    by_cases z : i = K
    · by_cases y : K = n
      · refine Or.inr ⟨(a, h2), ?_, by rw [← z, ← i0], i1, i2⟩
        simp only [SX1_greedySet_7, i2.1, z, y, Int32.le_refl, if_true]
      · refine Or.inr ⟨(a, h3), ?_, by rw [← z, ← i0], fr, f3⟩
        have nn : ¬ 0 ≤ (mostS F n nw a b true n).1 := by rw [ef, z]; exact Int32.not_le.mpr hK1
        simp only [SX1_greedySet_7, i2.1, nI_le12 hn2 (show i ≤ 12 by omega), f1, Option.bind_some, nn, if_false]
        rw [if_neg (by omega)]
    · refine Or.inl ⟨by omega, ?_⟩
      obtain ⟨g1, p, g2, g3, g4⟩ := hK2 i (by omega)
      have es := gr_s g1 g3 (by omega)
      rw [← ef] at g3
      simp only [SX1_greedySet_7, i2.1, nI_le12 hn2 (show i ≤ 12 by omega), f1, Option.bind_some, g3, nI_pos' (show p < 2 ^ 31 by omega), if_true, nm_eq, gd_ix (show p < 12 by omega) (by decide), nC_n (show p < 2 ^ 31 by omega), f3.2.2.1 p g2, nI_1, es, ← i0]
      rw [if_neg (by omega)]
      exact ⟨_, rfl, rfl, rfl, fr, f3⟩
  obtain ⟨⟨x, h'⟩, k1, k2, k3, k4⟩ := key
  dsimp only at k2 k3 k4
  subst k2
  refine ⟨h', ?_, k3, k4⟩
  simp only [FX1_greedySet, k1, Option.bind_some]
theorem r_greedy {h : HI} {n nw K : Nat} {m wh : Int32} (hn : h 8 33 0 = nI n) (hn2 : n ≤ 12) (hw : h 8 33 1 = nI nw) (hw2 : nw ≤ 12) (ho : ∀ w, w < nw → rg (wo (tk (h 8 33)) w) 0 99) (hV : ∀ s, rg (valueS (tk (h 8 33)) n nw s) 0 1188) (hK : K ≤ n) (hK1 : fnd (tk (h 8 33)) n nw (grS (tk (h 8 33)) n nw m K) < 0) (hK2 : ∀ i, i < K → ¬ fnd (tk (h 8 33)) n nw (grS (tk (h 8 33)) n nw m i) < 0 ∧ ∃ p, p < n ∧ fnd (tk (h 8 33)) n nw (grS (tk (h 8 33)) n nw m i) = nI p ∧ bs (grS (tk (h 8 33)) n nw m i).1 p = false) : loopN (SX10_greedy_44 wh h) FU (0, m, fnd (tk (h 8 33)) n nw (0, m)) = some (grS (tk (h 8 33)) n nw m K).1 := by
  refine for_loop (f := SX10_greedy_44 wh h) (fun i => ((grS (tk (h 8 33)) n nw m i).1, (grS (tk (h 8 33)) n nw m i).2, fnd (tk (h 8 33)) n nw (grS (tk (h 8 33)) n nw m i))) K _ ?_ ?_ FU (by have := FU_lt; omega)
  · intro i hi
    obtain ⟨g1, p, g2, g3, g4⟩ := hK2 i hi
    have es := gr_s g1 g3 (by omega)
    have rm := r_most (h := h) (few := true) (set := (grS (tk (h 8 33)) n nw m i).1 ||| ((1 : Int32) <<< (nI p &&& 31))) (lim := (grS (tk (h 8 33)) n nw m i).2 - mi (tk (h 8 33)) p) hn hn2 hw hw2 ho hV
    rw [show bI true = (1 : Int32) from rfl] at rm
    simp only [SX10_greedy_44, g1, if_false, nm_eq]
    simp only [g3, its2 (show p < 12 by omega), Option.bind_some, rm, es]
    rfl
  · simp only [SX10_greedy_44, hK1, if_true]
