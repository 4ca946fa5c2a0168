-- arrangements: the reference's step on a row
section Mono
variable {M : Nat → Nat} {m : Nat}
theorem fk_M (hM : ∀ x y, x < m → y < m → (M x ≤ M y ↔ x ≤ y)) {c : Nat → Nat} (hc : ∀ i, i < m → c i < m) : ∀ t, t ≤ m - 1 → fkN (fun i => M (c i)) t = fkN c t := by
  intro t
  induction t with
  | zero => intro _; rfl
  | succ t ih =>
    intro ht
    show (if M (c t) ≤ M (c (t + 1)) then some t else fkN (fun i => M (c i)) t) = if c t ≤ c (t + 1) then some t else fkN c t
    have q := hM (c t) (c (t + 1)) (hc t (by omega)) (hc (t + 1) (by omega))
    rw [ih (by omega)]
    by_cases z : c t ≤ c (t + 1)
    · rw [if_pos z, if_pos (q.mpr z)]
    · rw [if_neg z, if_neg (fun y => z (q.mp y))]
theorem fl_M (hM : ∀ x y, x < m → y < m → (M x ≤ M y ↔ x ≤ y)) {c : Nat → Nat} (hc : ∀ i, i < m → c i < m) {k : Nat} (hk : k < m) : ∀ t, t ≤ m → flN (fun i => M (c i)) k t = flN c k t := by
  intro t
  induction t with
  | zero => intro _; rfl
  | succ t ih =>
    intro ht
    show (if M (c k) ≤ M (c t) then t else flN (fun i => M (c i)) k t) = if c k ≤ c t then t else flN c k t
    have q := hM (c k) (c t) (hc k hk) (hc t (by omega))
    rw [ih (by omega)]
    by_cases z : c k ≤ c t
    · rw [if_pos z, if_pos (q.mpr z)]
    · rw [if_neg z, if_neg (fun y => z (q.mp y))]
theorem sw_M (c : Nat → Nat) (k l : Nat) : swN (fun i => M (c i)) k l = fun i => M (swN c k l i) := by
  funext i
  unfold swN
  by_cases a : i = l
  · rw [if_pos a, if_pos a]
  · rw [if_neg a, if_neg a]
    by_cases b : i = k
    · rw [if_pos b, if_pos b]
    · rw [if_neg b, if_neg b]
theorem rv_M : ∀ (t : Nat) (c : Nat → Nat) (i j : Nat), rvN t (fun i => M (c i)) i j = fun x => M (rvN t c i j x) := by
  intro t
  induction t with
  | zero => intro c i j; rfl
  | succ t ih =>
    intro c i j
    show (if j ≤ i then (fun i => M (c i)) else rvN t (swN (fun i => M (c i)) i j) (i + 1) (j - 1)) = fun x => M ((if j ≤ i then c else rvN t (swN c i j) (i + 1) (j - 1)) x)
    by_cases z : j ≤ i
    · rw [if_pos z, if_pos z]
    · rw [if_neg z, if_neg z, sw_M, ih]
end Mono
theorem r_swaps {h : HI} {u : Nat → Int32} {k l : Nat} (hk : k < 5) (hl : l < 5) : FX10_swaps (nI k) (nI l) (hPF h 8 37 u) = some (hPF h 8 37 (upd (upd u k (u l)) l (u k))) := by
  unfold FX10_swaps
  rw [gd_ix hk (by decide), nm_eq, gd_ix hl (by decide), gd_ix hk (by decide), nm_eq, gd_ix hl (by decide), nm_eq, nC_n (show k < 2 ^ 31 by omega), nC_n (show l < 2 ^ 31 by omega), hPF_s]
  show some (hPF (hPF (hPF h 8 37 u) 8 37 (upd (hPF h 8 37 u 8 37) k (u l))) 8 37 (upd (hPF (hPF h 8 37 u) 8 37 (upd (hPF h 8 37 u 8 37) k (u l)) 8 37) l (u k))) = _
  rw [hPF_s, hPF_s, hPF_hPF, hPF_hPF]
theorem sw_row {u : Nat → Int32} {g : Nat → Nat} {m k l : Nat} (hk : k < m) (hl : l < m) (e : ∀ x, x < m → u x = nI (g x)) : ∀ x, x < m → upd (upd u k (u l)) l (u k) x = nI (swN g k l x) := by
  intro x hx
  unfold swN
  by_cases a : x = l
  · rw [if_pos a, a, up_s, e k hk]
  · rw [if_neg a, up_n a]
    by_cases b : x = k
    · rw [if_pos b, b, up_s, e l hl]
    · rw [if_neg b, up_n b, e x hx]
theorem sw_lt {g : Nat → Nat} {m k l B : Nat} (hk : k < m) (hl : l < m) (e : ∀ x, x < m → g x < B) : ∀ x, x < m → swN g k l x < B := by
  intro x hx
  unfold swN
  split
  · exact e k hk
  · split
    · exact e l hl
    · exact e x hx
theorem r_goes4 {h : HI} {f : Nat → Nat} {m : Nat} (hm : m ≤ 5) (e : ∀ i, i < m → h 8 37 i = nI (f i)) (hf : ∀ i, i < m → f i < 2 ^ 31) : ∃ r, loopN (SX10_goesOn_4 (nI m) h) FU (nI m - 2) = some r ∧ ((fkN f (m - 1) = none ∧ r < 0) ∨ ∃ k, fkN f (m - 1) = some k ∧ r = nI k) := by
  by_cases z0 : m = 0
  · subst z0
    refine ⟨nI 0 - 2, ?_, Or.inl ⟨rfl, by decide⟩⟩
    refine for_loop (f := SX10_goesOn_4 (nI 0) h) (fun _ => nI 0 - 2) 0 _ (fun i hi => by omega) ?_ FU (by have := FU_lt; omega)
    unfold SX10_goesOn_4
    dsimp only
    rw [if_pos (by decide)]
  have s0 : nI m - 2 = nI (m - 1) - 1 := by
    have : ∀ m, m < 6 → ¬ m = 0 → nI m - 2 = nI (m - 1) - 1 := by decide
    exact this m (by omega) z0
  rw [s0]
  refine gloop (f := SX10_goesOn_4 (nI m) h) (fun i (a : Int32) => a = nI (m - 1 - i) - 1 ∧ fkN f (m - 1 - i) = fkN f (m - 1)) _ (m - 1) ?_ (k := FU) (by have := FU_lt; omega) ⟨rfl, rfl⟩
  rintro i a hi ⟨rfl, i1⟩
  unfold SX10_goesOn_4
  dsimp only
  by_cases z : i = m - 1
  · rw [z, Nat.sub_self] at i1 ⊢
    exact Or.inr ⟨_, by rw [if_pos (by decide)], Or.inl ⟨i1.symm, by decide⟩⟩
  · obtain ⟨t, et⟩ : ∃ t, m - 1 - i = t + 1 := ⟨m - 1 - i - 1, by omega⟩
    rw [et] at i1 ⊢
    rw [nI_pred, if_neg (nI_nn (by omega)), gd_ix (show t < 5 by omega) (by decide), nI_1, gd_ix (show t + 1 < 5 by omega) (by decide), nC_n (show t < 2 ^ 31 by omega), nC_n (show t + 1 < 2 ^ 31 by omega), e t (by omega), e (t + 1) (by omega)]
    have q : fkN f (t + 1) = if f t ≤ f (t + 1) then some t else fkN f t := rfl
    rw [q] at i1
    by_cases y : f t ≤ f (t + 1)
    · rw [if_pos y] at i1
      exact Or.inr ⟨_, by rw [if_pos (le_t y (hf _ (by omega)) (hf _ (by omega)))], Or.inr ⟨t, i1.symm, rfl⟩⟩
    · rw [if_neg y] at i1
      refine Or.inl ⟨by omega, nI t + (-1), by rw [if_neg (le_f y (hf _ (by omega)) (hf _ (by omega)))], ?_, ?_⟩
      · rw [show m - 1 - (i + 1) = t by omega]
        exact (Int32.sub_eq_add_neg _ _).symm
      · rw [show m - 1 - (i + 1) = t by omega]
        exact i1
theorem r_goes41 {h : HI} {f : Nat → Nat} {m k : Nat} (hm : m ≤ 5) (hk : k < m) (e : ∀ i, i < m → h 8 37 i = nI (f i)) (hf : ∀ i, i < m → f i < 2 ^ 31) : loopN (SX10_goesOn_41 (nI m) (nI k) h) FU (nI m - 1) = some (nI (flN f k m)) := by
  have key : ∃ r, loopN (SX10_goesOn_41 (nI m) (nI k) h) FU (nI m - 1) = some r ∧ r = nI (flN f k m) := by
    refine gloop (f := SX10_goesOn_41 (nI m) (nI k) h) (fun i (a : Int32) => a = nI (m - i) - 1 ∧ k < m - i ∧ flN f k (m - i) = flN f k m) _ m ?_ (k := FU) (by have := FU_lt; omega) ⟨rfl, by omega, rfl⟩
    rintro i a hi ⟨rfl, i1, i2⟩
    unfold SX10_goesOn_41
    dsimp only
    obtain ⟨t, et⟩ : ∃ t, m - i = t + 1 := ⟨m - i - 1, by omega⟩
    rw [et] at i1 i2 ⊢
    rw [nI_pred, gd_ix (show t < 5 by omega) (by decide), gd_ix (show k < 5 by omega) (by decide), nC_n (show t < 2 ^ 31 by omega), nC_n (show k < 2 ^ 31 by omega), e t (by omega), e k hk]
    have q : flN f k (t + 1) = if f k ≤ f t then t else flN f k t := rfl
    rw [q] at i2
    by_cases y : f k ≤ f t
    · rw [if_pos y] at i2
      exact Or.inr ⟨_, by rw [if_pos (le_t y (hf _ (by omega)) (hf _ (by omega)))], by rw [i2]⟩
    · rw [if_neg y] at i2
      have kt : k ≠ t := fun q => y (by rw [q]; exact Nat.le_refl _)
      refine Or.inl ⟨by omega, nI t + (-1), by rw [if_neg (le_f y (hf _ (by omega)) (hf _ (by omega)))], ?_, by omega, ?_⟩
      · rw [show m - (i + 1) = t by omega]
        exact (Int32.sub_eq_add_neg _ _).symm
      · rw [show m - (i + 1) = t by omega]
        exact i2
  obtain ⟨r, k1, rfl⟩ := key
  exact k1
theorem r_goes78 {h : HI} {u : Nat → Int32} {g : Nat → Nat} {m k : Nat} (hm : m ≤ 5) (hk : k + 1 < m) (e : ∀ x, x < m → u x = nI (g x)) : ∃ u', loopN SX10_goesOn_78 FU (nI (k + 1), nI (m - 1), hPF h 8 37 u) = some (hPF h 8 37 u') ∧ ∀ x, x < m → u' x = nI (rvN 5 g (k + 1) (m - 1) x) := by
  have key : ∃ r, loopN SX10_goesOn_78 FU (nI (k + 1), nI (m - 1), hPF h 8 37 u) = some r ∧ (fun r : HI => ∃ u', r = hPF h 8 37 u' ∧ ∀ x, x < m → u' x = nI (rvN 5 g (k + 1) (m - 1) x)) r := by
    refine gloop (f := SX10_goesOn_78) (fun t (s : Int32 × Int32 × HI) => ∃ i j c w, s = (nI i, nI j, hPF h 8 37 w) ∧ (∀ x, x < m → w x = nI (c x)) ∧ rvN (5 - t) c i j = rvN 5 g (k + 1) (m - 1) ∧ j < m ∧ i ≤ k + 1 + t ∧ j - i ≤ 4 - 2 * t ∧ t ≤ 2) _ 2 ?_ (k := FU) (by have := FU_lt; omega) ⟨k + 1, m - 1, g, u, rfl, e, rfl, by omega, by omega, by omega, by omega⟩
    rintro t s ht ⟨i, j, c, w, rfl, i1, i2, i3, i4, i5, i6⟩
    unfold SX10_goesOn_78
    dsimp only
    obtain ⟨d, ed⟩ : ∃ d, 5 - t = d + 1 := ⟨4 - t, by omega⟩
    rw [ed] at i2
    have q : rvN (d + 1) c i j = if j ≤ i then c else rvN d (swN c i j) (i + 1) (j - 1) := rfl
    rw [q] at i2
    by_cases y : j ≤ i
    · rw [if_pos y] at i2
      exact Or.inr ⟨_, by rw [if_pos (le_t y (by omega) (by omega))], w, rfl, fun x hx => by rw [← i2]; exact i1 x hx⟩
    · rw [if_neg y] at i2
      refine Or.inl ⟨by omega, (nI (i + 1), nI (j - 1), hPF h 8 37 (upd (upd w i (w j)) j (w i))), ?_, i + 1, j - 1, swN c i j, _, rfl, sw_row (by omega) i3 i1, ?_, by omega, by omega, by omega, by omega⟩
      · rw [if_neg (le_f y (by omega) (by omega)), r_swaps (by omega) (by omega), Option.bind_some, nI_1, show nI j + (-1) = nI (j - 1) from (Int32.sub_eq_add_neg _ _).symm.trans (pk_sub (b := 1) (by omega))]
      · rw [show 5 - (t + 1) = d by omega]
        exact i2
  obtain ⟨r, k1, u', rfl, k2⟩ := key
  exact ⟨u', k1, k2⟩
theorem r_goesNo {h : HI} {f : Nat → Nat} {m : Nat} (hm : m ≤ 5) (e : ∀ i, i < m → h 8 37 i = nI (f i)) (hf : ∀ i, i < m → f i < 2 ^ 31) (hn : fkN f (m - 1) = none) : FX10_goesOn (nI m) h = some (0, h) := by
  obtain ⟨r, r1, r2⟩ := r_goes4 hm e hf
  unfold FX10_goesOn JX10_goesOn_31
  rw [nm_eq, r1, Option.bind_some]
  rcases r2 with ⟨-, r2⟩ | ⟨k, r2, -⟩
  · rw [if_neg (Int32.not_le.mpr r2)]
  · rw [hn] at r2
    exact absurd r2 (by simp)
theorem r_goesYes {h : HI} {u : Nat → Int32} {f : Nat → Nat} {m k : Nat} (hm : m ≤ 5) (e : ∀ i, i < m → u i = nI (f i)) (hf : ∀ i, i < m → f i < 2 ^ 31) (hk : fkN f (m - 1) = some k) (k1 : k < m - 1) (l1 : flN f k m < m) : ∃ u', FX10_goesOn (nI m) (hPF h 8 37 u) = some (1, hPF h 8 37 u') ∧ ∀ x, x < m → u' x = nI (rvN 5 (swN f k (flN f k m)) (k + 1) (m - 1) x) := by
  have e2 : ∀ i, i < m → hPF h 8 37 u 8 37 i = nI (f i) := fun i hi => by rw [hPF_s]; exact e i hi
  obtain ⟨r, r1, r2⟩ := r_goes4 hm e2 hf
  unfold FX10_goesOn JX10_goesOn_31
  rw [nm_eq, r1, Option.bind_some]
  rcases r2 with ⟨r2, -⟩ | ⟨k', r2, rfl⟩
  · rw [hk] at r2
    exact absurd r2 (by simp)
  · rw [hk] at r2
    have ek : k = k' := Option.some.inj r2
    subst ek
    rw [if_pos (Int32.not_lt.mp (nI_nn (by omega))), nm_eq, r_goes41 hm (by omega) e2 hf, Option.bind_some, r_swaps (by omega) (by omega), Option.bind_some, nm_eq, nm_eq, nI_1, show nI m - 1 = nI (m - 1) from pk_sub (b := 1) (by omega)]
    obtain ⟨u', v1, v2⟩ := r_goes78 (h := h) hm (show k + 1 < m by omega) (sw_row (show k < m by omega) l1 e)
    rw [v1, Option.bind_some]
    exact ⟨u', rfl, v2⟩
