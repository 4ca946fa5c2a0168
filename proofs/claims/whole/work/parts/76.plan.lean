-- plan: the scores of all arrangements, the best one
def rowM (s m a : Nat) : List Nat := (rwI m a).map (Mb s)
def scA (F : Nat → Int32) (n nw s m k : Nat) (mm : Int32) (a : Nat) : Int32 := (daysS (evS (ordS F (rowM s m a)) mm m).2 n nw k).2 4
def bestA (sc : Nat → Int32) (k : Nat) : Int32 × Nat := foldN (fun a x => if sc a ≤ x.1 then x else (sc a, a)) k (-1, 0)
theorem bestA_s (sc : Nat → Int32) (k : Nat) : bestA sc (k + 1) = if sc k ≤ (bestA sc k).1 then bestA sc k else (sc k, k) := rfl
theorem bestA_inv {sc : Nat → Int32} {K : Nat} (hs : ∀ a, a < K → 0 ≤ sc a) (k : Nat) (hk : k < K) : (bestA sc (k + 1)).1 = sc (bestA sc (k + 1)).2 ∧ (bestA sc (k + 1)).2 ≤ k := by
  induction k with
  | zero =>
    have : ¬ sc 0 ≤ (bestA sc 0).1 := fun z => absurd (show (0 : Int32) ≤ -1 from Int32.le_trans (hs 0 hk) z) (by decide)
    rw [bestA_s, if_neg this]
    exact ⟨rfl, Nat.le_refl _⟩
  | succ k ih =>
    obtain ⟨i1, i2⟩ := ih (by omega)
    rw [bestA_s]
    by_cases c : sc (k + 1) ≤ (bestA sc (k + 1)).1
    · rw [if_pos c]
      exact ⟨i1, by omega⟩
    · rw [if_neg c]
      exact ⟨rfl, Nat.le_refl _⟩
section Scores
variable {F : Nat → Int32} {n nw s m k a : Nat} {mm : Int32}
theorem ord_BP (b : BP F n nw) (l : List Nat) : BP (ordS F l) n nw := b.of ordS_low
theorem sc_0 (b : BP F n nw) (t : StI s n m) (ha : a < fct m) (hm : rg mm 0 600) (hk : k ≤ 60) {c : Nat} (h4 : F 4 = nI c) (hc : c < 2 ^ 30) : 0 ≤ scA F n nw s m k mm a := by
  have o := row_OI (F := F) t ha
  have iv := evS_inv (ord_BP b (rowM s m a)) o.1 hm m (Nat.le_refl m)
  obtain ⟨c', -, c2, c3⟩ := (daysS_inv iv.1 k).2.2.2.2.2 c (by rw [iv.2.2.1 4 (by decide), ordS_low 4 (by decide) (by decide)]; exact h4)
  unfold scA
  rw [c3]
  exact Int32.not_lt.mp (nI_nn (by omega))
theorem c_scoreA {h : HI} (e : vw (h 0) = F) (b : BP F n nw) (t : StI s n m) (ha : a < fct m) (hm : rg mm 0 600) (hk : k ≤ 60) : ∃ h', FX4_scoreByOrder 0 (nI s) (nI a) mm (nI k) h = some (scA F n nw s m k mm a, h') ∧ ∀ g, g ≠ 2 → h' g = h g := by
  obtain ⟨h1, p1, p2⟩ := c_take (h := h) (g := 2) (g1 := 0) (by decide)
  rw [e] at p2
  obtain ⟨h2, q1, q2⟩ := c_arrange (g := 2) p2.at t.1 t.2.2.2.1 t.2.2.2.2 ha
  have o := row_OI (F := F) t ha
  have iv := evS_inv (ord_BP b (rowM s m a)) o.1 hm m (Nat.le_refl m)
  obtain ⟨h3, u1, u2⟩ := c_evening (g := 2) q2.at (ord_BP b (rowM s m a)) o.1 hm
  obtain ⟨h4, v1, v2⟩ := c_days (g := 2) (k := k) u2.at iv.1 (by omega)
  refine ⟨h4, ?_, fun g eg => by rw [v2.out eg, u2.out eg, q2.out eg, p2.out eg]⟩
  unfold FX4_scoreByOrder
  rw [p1, Option.bind_some, q1, Option.bind_some, u1, Option.bind_some]
  dsimp only
  rw [v1, Option.bind_some, (bk0 v2.at).2.2.2.2.1]
  rfl
theorem c_bestA {h : HI} (e : vw (h 0) = F) (b : BP F n nw) (t : StI s n m) (hm : rg mm 0 600) (hk : k ≤ 60) : ∃ h', FX4_placeOfBestOrder 0 (nI s) mm (nI k) h = some (nI (bestA (scA F n nw s m k mm) (fct m)).2, h') ∧ ∀ g, g ≠ 2 → h' g = h g := by
  obtain ⟨-, f1, f2⟩ := kO m (by have := t.2.2.2.2; omega)
  have ar : ∀ h1 : HI, FX3_arrangements (nI s) h1 = some (nI (fct m)) := by
    intro h1
    have m5 := t.2.2.2.2
    unfold FX3_arrangements
    rw [(kS t.1).1, Option.bind_some, t.2.2.2.1, five m (by omega), gd_ix (show m < 6 by omega) (by decide), nC_n (by omega), (fctI m (by omega)).1]
  have key : ∃ r, loopN (SX4_placeOfBestOrder_9 0 (nI s) mm (nI k)) FU (-1, 0, 0, h) = some r ∧ (fun r : Int32 × HI => r.1 = nI (bestA (scA F n nw s m k mm) (fct m)).2 ∧ ∀ g, g ≠ 2 → r.2 g = h g) r := by
    refine gloop (f := SX4_placeOfBestOrder_9 0 (nI s) mm (nI k)) (fun i (x : Int32 × Int32 × Int32 × HI) => x.1 = (bestA (scA F n nw s m k mm) i).1 ∧ x.2.1 = nI (bestA (scA F n nw s m k mm) i).2 ∧ x.2.2.1 = nI i ∧ ∀ g, g ≠ 2 → x.2.2.2 g = h g) _ (fct m) ?_ (k := FU) (by have := FU_lt; omega) (s0 := (-1, 0, 0, h)) ⟨rfl, rfl, rfl, fun _ _ => rfl⟩
    rintro i ⟨x, y, z, h1⟩ hi ⟨rfl, rfl, rfl, i1⟩
    dsimp only at i1
    unfold SX4_placeOfBestOrder_9
    dsimp only
    rw [ar h1, Option.bind_some]
    by_cases c : i = fct m
    · subst c
      exact Or.inr ⟨_, by rw [if_pos (Int32.le_refl _)], rfl, i1⟩
    · obtain ⟨h2, q1, q2⟩ := c_scoreA (h := h1) (a := i) (by rw [i1 0 (by decide)]; exact e) b t (by omega) hm hk
      rw [if_neg (le_f (by omega) (by omega) (by omega)), q1, Option.bind_some]
      dsimp only
      rw [bestA_s, nI_1]
      by_cases d : scA F n nw s m k mm i ≤ (bestA (scA F n nw s m k mm) i).1
      · rw [if_pos d, if_pos d]
        exact Or.inl ⟨by omega, _, rfl, rfl, rfl, rfl, fun g eg => (q2 g eg).trans (i1 g eg)⟩
      · rw [if_neg d, if_neg d]
        exact Or.inl ⟨by omega, _, rfl, rfl, rfl, rfl, fun g eg => (q2 g eg).trans (i1 g eg)⟩
  obtain ⟨⟨x, h'⟩, k1, k2, k3⟩ := key
  dsimp only at k2 k3
  subst k2
  refine ⟨h', ?_, k3⟩
  unfold FX4_placeOfBestOrder
  rw [k1, Option.bind_some]
end Scores
theorem ordS_up {F : Nat → Int32} {l : List Nat} {G : Nat → Int32} (g5 : G 5 = nI l.length) (go : ∀ j, j < l.length → G (138 + j) = nI (l.getD j 0)) (gx : ∀ x, ¬ x = 5 → ¬ (138 ≤ x ∧ x < 138 + l.length) → G x = F x) : G = ordS F l := by
  funext x
  unfold ordS
  by_cases c : x = 5
  · rw [if_pos c, c, g5]
  · rw [if_neg c]
    by_cases d : 138 ≤ x ∧ x < 138 + l.length
    · rw [if_pos d, ← go (x - 138) (by omega), show 138 + (x - 138) = x by omega]
    · rw [if_neg d, gx x c d]
theorem r_rowIn {h : HI} {F : Nat → Int32} {l : List Nat} (a2 a3 a4 : Int32) (e : tk (h 8 33) = F) (hl : l.length ≤ 5) (hr : ∀ i, i < l.length → h 8 37 i = nI (l.getD i 0)) : ∃ h', loopN (SX10_triesRow_10 (nI l.length) a2 a3 a4) FU (0, hP1 h 8 33 5 (nI l.length)) = some h' ∧ RkTo h (ordS F l) h' := by
  have key : ∃ r, loopN (SX10_triesRow_10 (nI l.length) a2 a3 a4) FU (0, hP1 h 8 33 5 (nI l.length)) = some r ∧ RkTo h (ordS F l) r := by
    refine gloop (f := SX10_triesRow_10 (nI l.length) a2 a3 a4) (fun i (x : Int32 × HI) => x.1 = nI i ∧ ∃ G, RkTo h G x.2 ∧ G 5 = nI l.length ∧ (∀ j, j < i → G (138 + j) = nI (l.getD j 0)) ∧ ∀ x, ¬ x = 5 → ¬ (138 ≤ x ∧ x < 138 + i) → G x = F x) _ l.length ?_ (k := FU) (by have := FU_lt; omega) (s0 := (0, hP1 h 8 33 5 (nI l.length))) ⟨rfl, upd F 5 (nI l.length), ?_, up_s, fun j hj => by omega, fun x c _ => up_n c⟩
    · rintro i ⟨x, h1⟩ hi ⟨rfl, G, g1, g2, g3, g4⟩
      dsimp only at g1
      unfold SX10_triesRow_10
      dsimp only
      by_cases c : i = l.length
      · subst c
        exact Or.inr ⟨h1, by rw [if_pos (Int32.le_refl _)], by rw [← ordS_up g2 g3 g4]; exact g1⟩
      · have r1 : h1 8 37 i = nI (l.getD i 0) := by rw [g1.out (by decide)]; exact hr i (by omega)
        refine Or.inl ⟨by omega, (nI (i + 1), hP1 h1 8 33 (138 + i) (nI (l.getD i 0))), ?_, rfl, upd G (138 + i) (nI (l.getD i 0)), ?_, ?_, fun j hj => ?_, fun x c d => ?_⟩
        · rw [if_neg (le_f (by omega) (by omega) (by omega)), gd_ix (show i < 5 by omega) (by decide), i138, gd_ix (show 138 + i < 150 by omega) (by decide), nm_eq, nC_n (show 138 + i < 2 ^ 31 by omega), nC_n (show i < 2 ^ 31 by omega), r1, nI_1]
        · have := rk_u (h := h1) (i := 138 + i) (x := nI (l.getD i 0)) (by omega)
          rw [g1.at] at this
          exact g1.tr this
        · rw [up_n (by omega)]
          exact g2
        · by_cases d : j = i
          · rw [d, up_s]
          · rw [up_n (by omega)]
            exact g3 j (by omega)
        · rw [up_n (by omega)]
          exact g4 x c (by omega)
    · rw [← e]
      exact rk_u (by decide)
  exact key
theorem r_rowOut {h : HI} {m : Nat} (hm : m ≤ 5) : ∃ w, loopN (SX10_triesRow_77 (nI m)) FU (0, h) = some (hPF h 8 38 w) ∧ ∀ i, i < m → w i = h 8 37 i := by
  have key : ∃ r, loopN (SX10_triesRow_77 (nI m)) FU (0, h) = some r ∧ (fun r : HI => ∃ w, r = hPF h 8 38 w ∧ ∀ i, i < m → w i = h 8 37 i) r := by
    refine gloop (f := SX10_triesRow_77 (nI m)) (fun i (x : Int32 × HI) => x.1 = nI i ∧ ∃ w, x.2 = hPF h 8 38 w ∧ ∀ j, j < i → w j = h 8 37 j) _ m ?_ (k := FU) (by have := FU_lt; omega) (s0 := (0, h)) ⟨rfl, h 8 38, hPF_self.symm, fun j hj => by omega⟩
    rintro i ⟨x, h1⟩ hi ⟨rfl, w, w1, w2⟩
    dsimp only at w1
    subst w1
    unfold SX10_triesRow_77
    dsimp only
    by_cases c : i = m
    · subst c
      exact Or.inr ⟨_, by rw [if_pos (Int32.le_refl _)], w, rfl, w2⟩
    · refine Or.inl ⟨by omega, (nI (i + 1), hPF h 8 38 (upd w i (h 8 37 i))), ?_, rfl, _, rfl, fun j hj => ?_⟩
      · rw [if_neg (le_f (by omega) (by omega) (by omega)), gd_ix (show i < 5 by omega) (by decide), gd_ix (show i < 5 by omega) (by decide), nm_eq, nC_n (show i < 2 ^ 31 by omega), nI_1, hPF_n (by decide)]
        show some (Sum.inl (nI (i + 1), hPF (hPF h 8 38 w) 8 38 (upd (hPF h 8 38 w 8 38) i (h 8 37 i)))) = _
        rw [hPF_hPF, hPF_s]
      · by_cases d : j = i
        · rw [d, up_s]
        · rw [up_n d]
          exact w2 j (by omega)
  obtain ⟨r, k1, w, rfl, k2⟩ := key
  exact ⟨w, k1, k2⟩
/-- of the reference only scratch changed -/
def FrP (h0 : HI) (F : Nat → Int32) (h : HI) : Prop := (∀ g, g ≠ 8 → h g = h0 g) ∧ (∀ k, k ≠ 32 → k ≠ 33 → k ≠ 35 → k ≠ 37 → k ≠ 38 → h 8 k = h0 8 k) ∧ h 8 32 4 = h0 8 32 4 ∧ h 8 32 12 = h0 8 32 12 ∧ tk (h 8 33) = F ∧ tk (h 8 35) = F
theorem FrP.rk {h0 h h' : HI} {F : Nat → Int32} (a : FrP h0 F h) (b : RkTo h F h') : FrP h0 F h' := by
  obtain ⟨a1, a2, a3, a4, a5, a6⟩ := a
  refine ⟨fun g e => (b.grp e).trans (a1 g e), fun k e1 e2 e3 e4 e5 => (b.out (fun z => e2 z.2)).trans (a2 k e1 e2 e3 e4 e5), ?_, ?_, b.at, ?_⟩
  · rw [b.out (by decide)]; exact a3
  · rw [b.out (by decide)]; exact a4
  · rw [b.out (by decide)]; exact a6
theorem FrP.pf {h0 h : HI} {F u : Nat → Int32} {j : Nat} (a : FrP h0 F h) (hj : j = 37 ∨ j = 38) : FrP h0 F (hPF h 8 j u) := by
  obtain ⟨a1, a2, a3, a4, a5, a6⟩ := a
  refine ⟨fun g e => (funext fun k => hPF_n (fun z => e z.1)).trans (a1 g e), fun k e1 e2 e3 e4 e5 => (hPF_n (fun z => by omega)).trans (a2 k e1 e2 e3 e4 e5), ?_, ?_, ?_, ?_⟩
  · rw [hPF_n (by omega)]; exact a3
  · rw [hPF_n (by omega)]; exact a4
  · rw [hPF_n (by omega)]; exact a5
  · rw [hPF_n (by omega)]; exact a6
theorem FrP.p10 {h0 h : HI} {F : Nat → Int32} {x : Int32} (a : FrP h0 F h) : FrP h0 F (hP1 h 8 32 10 x) := by
  obtain ⟨a1, a2, a3, a4, a5, a6⟩ := a
  refine ⟨fun g e => (hP1_g e).trans (a1 g e), fun k e1 e2 e3 e4 e5 => (hP1_k e1).trans (a2 k e1 e2 e3 e4 e5), ?_, ?_, ?_, ?_⟩
  · rw [hP1_at, if_neg (by decide)]; exact a3
  · rw [hP1_at, if_neg (by decide)]; exact a4
  · rw [hP1_k (by decide)]; exact a5
  · rw [hP1_k (by decide)]; exact a6
theorem FrP.to {h0 h : HI} (a : FrP h0 (RV h0 0) h) : RTo h0 (RV h0) h := by
  obtain ⟨a1, a2, a3, a4, a5, a6⟩ := a
  refine ⟨a1, row_ext a5 ?_ ?_ ?_ ?_ ?_ ?_ ?_ (fun i => rfl)⟩
  · show (if h 8 32 4 = 0 then fun _ => 0 else tk (h 8 34)) = (if h0 8 32 4 = 0 then fun _ => 0 else tk (h0 8 34))
    rw [a3, a2 34 (by decide) (by decide) (by decide) (by decide) (by decide)]
  · show (fun _ : Nat => h 8 32 4) = fun _ => h0 8 32 4
    rw [a3]
  · show cut 7 (h 8 36) = cut 7 (h0 8 36)
    rw [a2 36 (by decide) (by decide) (by decide) (by decide) (by decide)]
  · show (fun _ : Nat => h 8 32 12) = fun _ => h0 8 32 12
    rw [a4]
  · show cut 120 (h 8 39) = cut 120 (h0 8 39)
    rw [a2 39 (by decide) (by decide) (by decide) (by decide) (by decide)]
  · show cut 4 (h 8 40) = cut 4 (h0 8 40)
    rw [a2 40 (by decide) (by decide) (by decide) (by decide) (by decide)]
  · show cut 4 (h 8 41) = cut 4 (h0 8 41)
    rw [a2 41 (by decide) (by decide) (by decide) (by decide) (by decide)]
theorem r_tries {h h0 : HI} {F : Nat → Int32} {n nw s m k a : Nat} {mm : Int32} {fl : Bool} (fr : FrP h0 F h) (b : BP F n nw) (t : StI s n m) (ha : a < fct m) (hm : rg mm 0 600) (hk : k ≤ 60) (hr : ∀ i, i < m → h 8 37 i = nI (Mb s (rF m a i))) : ∃ h', FX10_triesRow (nI m) mm (nI k) (bI fl) h = some h' ∧ FrP h0 F h' ∧ h' 8 37 = h 8 37 ∧ ((fl = false ∧ scA F n nw s m k mm a ≤ h 8 32 10 ∧ h' 8 32 10 = h 8 32 10 ∧ h' 8 38 = h 8 38) ∨ ((fl = true ∨ ¬ scA F n nw s m k mm a ≤ h 8 32 10) ∧ h' 8 32 10 = scA F n nw s m k mm a ∧ ∀ i, i < m → h' 8 38 i = nI (Mb s (rF m a i)))) := by
  have m5 := t.2.2.2.2
  have o := row_OI (F := F) t ha
  have el : (rowM s m a).length = m := o.2
  have kr := kR (show m < 6 by omega) ha
  have hr2 : ∀ i, i < (rowM s m a).length → h 8 37 i = nI ((rowM s m a).getD i 0) := fun i hi => by
    rw [el] at hi
    rw [hr i hi]
    unfold rowM rF
    rw [map_gD (by omega)]
  obtain ⟨h1, p1, p2⟩ := r_rowIn mm (nI k) (bI fl) fr.2.2.2.2.1 (by omega) hr2
  rw [el] at p1
  have iv := evS_inv (ord_BP b (rowM s m a)) o.1 hm m (Nat.le_refl m)
  obtain ⟨h2, q1, q2⟩ := r_evening p2.at (ord_BP b (rowM s m a)) o.1 hm
  obtain ⟨h3, u1, u2⟩ := r_score (k := k) (G := F) q2.at iv.1 (by omega) (by rw [q2.out (by decide), p2.out (by decide)]; exact fr.2.2.2.2.2)
  have r3 : RkTo h F h3 := (p2.tr q2).tr u2
  have fr3 := fr.rk r3
  have e10 : h3 8 32 10 = h 8 32 10 := by rw [r3.out (by decide)]
  have e37 : h3 8 37 = h 8 37 := r3.out (by decide)
  have e38 : h3 8 38 = h 8 38 := r3.out (by decide)
  obtain ⟨w, w1, w2⟩ := r_rowOut (h := hP1 h3 8 32 10 (scA F n nw s m k mm a)) m5
  have fin : JX10_triesRow_68 (nI m) (scA F n nw s m k mm a) h3 = some (hPF (hP1 h3 8 32 10 (scA F n nw s m k mm a)) 8 38 w) := by
    unfold JX10_triesRow_68
    rw [nm_eq, w1, Option.bind_some]
  have good : FrP h0 F (hPF (hP1 h3 8 32 10 (scA F n nw s m k mm a)) 8 38 w) ∧ hPF (hP1 h3 8 32 10 (scA F n nw s m k mm a)) 8 38 w 8 37 = h 8 37 ∧ hPF (hP1 h3 8 32 10 (scA F n nw s m k mm a)) 8 38 w 8 32 10 = scA F n nw s m k mm a ∧ ∀ i, i < m → hPF (hP1 h3 8 32 10 (scA F n nw s m k mm a)) 8 38 w 8 38 i = nI (Mb s (rF m a i)) := by
    refine ⟨fr3.p10.pf (Or.inr rfl), ?_, ?_, fun i hi => ?_⟩
    · rw [hPF_n (by decide), hP1_k (by decide), e37]
    · rw [hPF_n (by decide), hP1_s]
    · rw [hPF_s, w2 i hi, hP1_k (by decide), e37, hr i hi]
  unfold FX10_triesRow
  rw [nm_eq, p1, Option.bind_some, q1, Option.bind_some]
  dsimp only
  rw [u1, Option.bind_some]
  dsimp only
  rw [show (daysS (evS (ordS F (rowM s m a)) mm m).2 n nw k).2 4 = scA F n nw s m k mm a from rfl, bI_if]
  cases fl with
  | true =>
    rw [if_pos rfl, fin]
    exact ⟨_, rfl, good.1, good.2.1, Or.inr ⟨Or.inl rfl, good.2.2.1, good.2.2.2⟩⟩
  | false =>
    rw [if_neg (by decide)]
    by_cases c : scA F n nw s m k mm a ≤ h 8 32 10
    · rw [if_pos (show scA F n nw s m k mm a ≤ h3 8 32 10 by rw [e10]; exact c)]
      exact ⟨h3, rfl, fr3, e37, Or.inl ⟨rfl, c, e10, e38⟩⟩
    · rw [if_neg (show ¬ scA F n nw s m k mm a ≤ h3 8 32 10 by rw [e10]; exact c), fin]
      exact ⟨_, rfl, good.1, good.2.1, Or.inr ⟨Or.inr c, good.2.2.1, good.2.2.2⟩⟩
