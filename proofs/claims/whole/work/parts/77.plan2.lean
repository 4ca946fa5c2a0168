-- plan: the reference's rows one after the other; plan_ok
theorem memL_mono {x : Int32} {p q : Nat} (h : p ≤ q) : (memL x p).length ≤ (memL x q).length := by
  induction q with
  | zero => rw [show p = 0 by omega]; exact Nat.le_refl _
  | succ q ih =>
    by_cases c : p = q + 1
    · rw [c]; exact Nat.le_refl _
    · have := ih (by omega)
      rw [memL_s]
      split
      · rw [List.length_append]
        omega
      · exact this
theorem memL_bL {s n : Nat} (h : s < 2 ^ n) (hn : n ≤ 12) : memL (nI s) n = bL s := by
  have e12 : memL (nI s) 12 = bL s := by
    unfold memL bL
    refine List.filter_congr (fun q hq => ?_)
    have := List.mem_range.mp hq
    exact bs_nI (by omega)
  have key : ∀ d, n + d ≤ 12 → memL (nI s) (n + d) = memL (nI s) n := by
    intro d
    induction d with
    | zero => intro _; rfl
    | succ d ih =>
      intro hd
      rw [show n + (d + 1) = n + d + 1 from rfl, memL_s, bs_nI (by omega), show s.testBit (n + d) = false from Nat.testBit_lt_two_pow (Nat.lt_of_lt_of_le h (Nat.pow_le_pow_right (show 0 < 2 by decide) (show n ≤ n + d by omega))), if_neg (by decide)]
      exact ih (by omega)
  have := key (12 - n) (by omega)
  rw [show n + (12 - n) = 12 by omega, e12] at this
  exact this.symm
theorem r_members {h : HI} {s n m : Nat} (a2 a3 a4 a5 : Int32) (t : StI s n m) (h0 : h 8 33 0 = nI n) : ∃ u, loopN (SX10_plan_108 (nI s) a2 a3 a4 a5) FU (0, 0, h) = some (hPF h 8 37 u) ∧ ∀ i, i < m → u i = nI (Mb s i) := by
  obtain ⟨t1, t2, t3, t4, t5⟩ := t
  have eM := memL_bL t2 t3
  have key : ∃ r, loopN (SX10_plan_108 (nI s) a2 a3 a4 a5) FU (0, 0, h) = some r ∧ (fun r : HI => ∃ u, r = hPF h 8 37 u ∧ ∀ i, i < m → u i = nI (Mb s i)) r := by
    refine gloop (f := SX10_plan_108 (nI s) a2 a3 a4 a5) (fun p (x : Int32 × Int32 × HI) => ∃ u, x = (nI (memL (nI s) p).length, nI p, hPF h 8 37 u) ∧ ∀ i, i < (memL (nI s) p).length → u i = nI ((memL (nI s) p).getD i 0)) _ n ?_ (k := FU) (by have := FU_lt; omega) ⟨h 8 37, by rw [hPF_self]; rfl, fun i hi => by simp [memL] at hi⟩
    rintro p x hp ⟨u, rfl, u1⟩
    unfold SX10_plan_108
    dsimp only
    rw [hPF_n (by decide), h0]
    by_cases c : p = n
    · subst c
      refine Or.inr ⟨_, by rw [if_pos (Int32.le_refl _)], u, rfl, fun i hi => ?_⟩
      rw [u1 i (by rw [eM]; omega), eM]
      rfl
    · have hl : (memL (nI s) (p + 1)).length ≤ 5 := by
        have := memL_mono (x := nI s) (show p + 1 ≤ n by omega)
        rw [eM] at this
        omega
      rw [if_neg (le_f (by omega) (by omega) (by omega)), f_has, Option.bind_some, bI_if, show nI p + 1 = nI (p + 1) from nI_1 p]
      rw [memL_s] at hl ⊢
      cases q : bs (nI s) p with
      | false =>
        rw [if_neg (by decide), if_neg (by decide)]
        exact Or.inl ⟨by omega, _, rfl, u, rfl, u1⟩
      | true =>
        rw [q, if_pos rfl, List.length_append] at hl
        have hl2 : (memL (nI s) p).length < 5 := by
          have : ([p] : List Nat).length = 1 := rfl
          omega
        rw [if_pos rfl, if_pos rfl, gd_ix hl2 (by decide), nm_eq, nC_n (by omega), nI_1]
        refine Or.inl ⟨by omega, _, rfl, upd u (memL (nI s) p).length (nI p), ?_, fun i hi => ?_⟩
        · rw [List.length_append]
          show (nI ((memL (nI s) p).length + 1), nI (p + 1), hPF (hPF h 8 37 u) 8 37 (upd (hPF h 8 37 u 8 37) (memL (nI s) p).length (nI p))) = _
          rw [hPF_hPF, hPF_s]
          rfl
        · rw [List.length_append] at hi
          have : ([p] : List Nat).length = 1 := rfl
          by_cases d : i = (memL (nI s) p).length
          · rw [d, up_s, List.getD_eq_getElem?_getD, List.getElem?_append_right (Nat.le_refl _), Nat.sub_self]
            rfl
          · rw [up_n d, u1 i (by omega), List.getD_eq_getElem?_getD, List.getD_eq_getElem?_getD, List.getElem?_append_left (by omega)]
  obtain ⟨r, k1, u, rfl, k2⟩ := key
  exact ⟨u, k1, k2⟩
theorem rF_lt {m a : Nat} (hm : m < 6) (ha : a < fct m) : ∀ i, i < m → rF m a i < m := by
  intro i hi
  obtain ⟨k1, k2, -⟩ := kR hm ha
  unfold rF
  exact k2 _ (by rw [gD_lt (by omega)]; exact List.getElem_mem _)
def PlI (h0 : HI) (F : Nat → Int32) (n nw s m k : Nat) (mm : Int32) (j : Nat) (h : HI) : Prop := FrP h0 F h ∧ (∀ i, i < m → h 8 37 i = nI (Mb s (rF m j i))) ∧ h 8 32 10 = (bestA (scA F n nw s m k mm) (j + 1)).1 ∧ ∀ i, i < m → h 8 38 i = nI (Mb s (rF m (bestA (scA F n nw s m k mm) (j + 1)).2 i))
theorem r_planL {h h0 : HI} {F : Nat → Int32} {n nw s m k : Nat} {mm : Int32} (a4 : Int32) (b : BP F n nw) (t : StI s n m) (hm : rg mm 0 600) (hk : k ≤ 60) (p0 : PlI h0 F n nw s m k mm 0 h) : ∃ h', loopN (SX10_plan_159 mm (nI k) a4 (nI m)) FU h = some h' ∧ PlI h0 F n nw s m k mm (fct m - 1) h' := by
  have m5 := t.2.2.2.2
  obtain ⟨-, f1, f2⟩ := kO m (by omega)
  refine gloop (f := SX10_plan_159 mm (nI k) a4 (nI m)) (fun j (x : HI) => j < fct m ∧ PlI h0 F n nw s m k mm j x) _ (fct m - 1) ?_ (k := FU) (by have := FU_lt; omega) ⟨f1, p0⟩
  rintro j x hj ⟨j1, fr, i1, i2, i3⟩
  unfold SX10_plan_159
  dsimp only
  obtain ⟨n1, n2⟩ := kN m (by omega) j j1
  have lt := rF_lt (show m < 6 by omega) j1
  have Mlt : ∀ i, i < m → Mb s (rF m j i) < 2 ^ 31 := fun i hi => by
    have := Mb_n t _ (lt i hi)
    have := t.2.2.1
    omega
  by_cases c : j + 1 = fct m
  · refine Or.inr ⟨x, ?_, ?_⟩
    · rw [r_goesNo m5 i1 Mlt (by rw [fk_M (Mb_lt t) lt _ (Nat.le_refl _)]; exact n1 c), Option.bind_some]
      dsimp only
      rw [if_pos rfl]
    · rw [show fct m - 1 = j by omega]
      exact ⟨fr, i1, i2, i3⟩
  · obtain ⟨q, q1, q2, q3, q4, q5⟩ := n2 (by omega)
    obtain ⟨u', v1, v2⟩ := r_goesYes (h := x) (u := x 8 37) (k := q) m5 i1 Mlt (by rw [fk_M (Mb_lt t) lt _ (Nat.le_refl _)]; exact q2) q1 (by rw [fl_M (Mb_lt t) lt (by omega) _ (Nat.le_refl _)]; exact q4)
    rw [hPF_self] at v1
    have v3 : ∀ i, i < m → hPF x 8 37 u' 8 37 i = nI (Mb s (rF m (j + 1) i)) := by
      intro i hi
      rw [hPF_s, v2 i hi, fl_M (Mb_lt t) lt (by omega) _ (Nat.le_refl _), sw_M, rv_M]
      dsimp only
      rw [q5 i hi]
    obtain ⟨h2, w1, w2, w3, w4⟩ := r_tries (fl := false) (a := j + 1) (fr.pf (u := u') (Or.inl rfl)) b t (by omega) hm hk v3
    refine Or.inl ⟨by omega, h2, ?_, by omega, w2, fun i hi => by rw [w3]; exact v3 i hi, ?_⟩
    · rw [v1, Option.bind_some]
      dsimp only
      rw [if_neg (by decide), show FX10_triesRow (nI m) mm (nI k) 0 (hPF x 8 37 u') = some h2 from w1, Option.bind_some]
    · have e10 : hPF x 8 37 u' 8 32 10 = (bestA (scA F n nw s m k mm) (j + 1)).1 := by rw [hPF_n (by decide)]; exact i2
      have e38 : hPF x 8 37 u' 8 38 = x 8 38 := hPF_n (by decide)
      rw [e10] at w4
      rw [bestA_s]
      rcases w4 with ⟨-, c1, c2, c3⟩ | ⟨c1, c2, c3⟩
      · rw [if_pos c1]
        exact ⟨c2, fun i hi => by rw [c3, e38]; exact i3 i hi⟩
      · rcases c1 with c1 | c1
        · exact absurd c1 (by decide)
        · rw [if_neg c1]
          exact ⟨c2, c3⟩
theorem r_planAll {h : HI} {F : Nat → Int32} {n nw s m k : Nat} {mm : Int32} (a4 : Int32) (e : tk (h 8 33) = F) (b : BP F n nw) (t : StI s n m) (hm : rg mm 0 600) (hk : k ≤ 60) (hs : ∀ a, a < fct m → 0 ≤ scA F n nw s m k mm a) : ∃ h1 h2 h3 h4, loopN (SX10_plan_108 (nI s) mm (nI k) a4 (nI m)) FU (0, 0, h) = some h1 ∧ FX10_puts h1 = some h2 ∧ FX10_triesRow (nI m) mm (nI k) 1 h2 = some h3 ∧ loopN (SX10_plan_159 mm (nI k) a4 (nI m)) FU h3 = some h4 ∧ PlI h F n nw s m k mm (fct m - 1) h4 := by
  have m5 := t.2.2.2.2
  obtain ⟨o1, f1, f2⟩ := kO m (by omega)
  obtain ⟨u, p1, p2⟩ := r_members mm (nI k) a4 (nI m) t ((rk0 e (by decide)).trans b.1)
  obtain ⟨h2, q1, q2, q3⟩ := r_put (h := hPF h 8 37 u) (F := F) (by rw [hPF_n (by decide)]; exact e)
  have fr : FrP h F h2 := by
    refine ⟨fun g eg => ?_, fun j e1 e2 e3 e4 e5 => ?_, ?_, ?_, q2.2, q3⟩
    · funext j
      rw [q2.1 g j (fun z => eg z.1), hPF_n (fun z => eg z.1)]
    · rw [q2.1 8 j (fun z => by omega), hPF_n (fun z => by omega)]
    · rw [q2.1 8 32 (by decide), hPF_n (by decide)]
    · rw [q2.1 8 32 (by decide), hPF_n (by decide)]
  have r0 : ∀ i, i < m → h2 8 37 i = nI (Mb s (rF m 0 i)) := by
    intro i hi
    rw [q2.1 8 37 (by decide), hPF_s, p2 i hi]
    unfold rF
    rw [o1, gD_lt (by rw [List.length_range]; exact hi), List.getElem_range]
  obtain ⟨h3, w1, w2, w3, w4⟩ := r_tries (fl := true) (a := 0) fr b t f1 hm hk r0
  have pl : PlI h F n nw s m k mm 0 h3 := by
    have nb : ¬ scA F n nw s m k mm 0 ≤ (bestA (scA F n nw s m k mm) 0).1 := fun z => absurd (show (0 : Int32) ≤ -1 from Int32.le_trans (hs 0 f1) z) (by decide)
    refine ⟨w2, fun i hi => by rw [w3]; exact r0 i hi, ?_⟩
    rw [bestA_s, if_neg nb]
    rcases w4 with ⟨c0, -⟩ | ⟨-, c2, c3⟩
    · exact absurd c0 (by decide)
    · exact ⟨c2, c3⟩
  obtain ⟨h4, z1, z2⟩ := r_planL a4 b t hm hk pl
  exact ⟨_, h2, h3, h4, p1, q1, w1, z1, z2⟩
theorem plan_ok (a mm d p : Int32) : Ops (FX9_plan a mm d p) (FX10_plan a mm d p) := by
  refine Ops_two (fun h i => ?_)
  obtain ⟨n, nw, l, dd, c, b1, b2, b3, b4, b5, b6⟩ := i.1
  have hn := b1.2.1
  unfold FX9_plan FX10_plan
  refine Two.ask (c_isS a h) (q_isS i a) (fun _ => Two.bad i) (fun z => ?_)
  refine Two.ask (f_within mm 0 600) (fun h' e => f_in (a := 0) (b := 600) 0 600 rfl rfl) (fun _ => Two.bad i) (fun y1 => ?_)
  refine Two.ask (f_within d 1 60) (fun h' e => f_in (a := 1) (b := 60) 1 60 rfl rfl) (fun _ => Two.bad i) (fun y2 => ?_)
  refine Two.ask (f_within p (-1) 4) (fun h' e => f_in (a := -1) (b := 4) (-1) 4 (by decide) (by decide)) (fun _ => Two.bad i) (fun y3 => ?_)
  rw [b1.1, p2 hn] at z
  have hb := p2_le hn
  obtain ⟨s, hs, rfl⟩ := isP_nat hb z
  have s4 : s < 4096 := by omega
  have hm := wi_rg (a := 0) (b := 600) y1 (by decide) (by decide)
  obtain ⟨k, k1, k2, rfl⟩ := wi_nat (a := 1) (b := 60) (by decide) y2 (by decide)
  obtain ⟨m, em⟩ : ∃ m, (bL s).length = m := ⟨_, rfl⟩
  have m12 : m ≤ 12 := by rw [← em]; exact bL_len s
  have eB : FJ6_bitCount_0f7a4 (nI s) = some (nI m) := by rw [(kS s4).1, em]
  have eO : FX10_ones (nI s) = some (nI m) := by rw [r_ones s4, em]
  by_cases m5 : m ≤ 5
  · have t : StI s n m := ⟨s4, hs, hn, em, m5⟩
    have c5 : nI m ≤ 5 := le_t (b := 5) m5 (by omega) (by decide)
    simp only [eB, eO, Option.bind_some, if_pos c5]
    refine Two.askn (c_mayGo (nI k) h) (q_late (nI k)) (fun _ => Two.late i) (fun _ => ?_)
    by_cases pm : p < nI m
    · simp only [if_pos pm]
      have hsc : ∀ q, q < fct m → 0 ≤ scA (CV h 0) n nw s m k mm q := fun q hq => sc_0 b1 t hq hm k2 b5 (by omega)
      obtain ⟨-, f1, f2⟩ := kO m (by omega)
      obtain ⟨h1, q1, q2⟩ := c_bestA (show vw (h 0) = CV h 0 from rfl) b1 t hm k2
      have iv := bestA_inv hsc (fct m - 1) (by omega)
      rw [show fct m - 1 + 1 = fct m by omega] at iv
      by_cases p0 : 0 ≤ p
      · obtain ⟨j, hj, rfl⟩ := nI_of (Int32.not_lt.mpr p0)
        have jm : j < m := (nI_ltI hj (by omega)).mp pm
        obtain ⟨h2, w1, w2⟩ := c_arrange (h := h1) (g := 2) rfl s4 em m5 (show (bestA (scA (CV h 0) n nw s m k mm) (fct m)).2 < fct m by omega)
        have ov : h2 2 15 j = nI (Mb s (rF m (bestA (scA (CV h 0) n nw s m k mm) (fct m)).2 j)) := by
          have kr := kR (show m < 6 by omega) (show (bestA (scA (CV h 0) n nw s m k mm) (fct m)).2 < fct m by omega)
          rw [← vod (u := h2 2) (show j < 12 by omega), w2.at, ordS_od _ (by rw [List.length_map]; omega), map_gD (by omega)]
          rfl
        refine Two.same (x := nI (Mb s (rF m (bestA (scA (CV h 0) n nw s m k mm) (fct m)).2 j))) (h1 := h2) i ?_ (CTo.idle (fun g e _ => by rw [w2.out e, q2 g e])) (fun h' e => ?_)
        · rw [q1, Option.bind_some]
          try dsimp only
          rw [if_pos p0, w1, Option.bind_some, gd_ix (show j < 12 by omega) (by decide), nC_n hj, ov]
        · obtain ⟨g1, g2, g3, g4, v1, v2, v3, v4, v5⟩ := r_planAll (nI j) (rB e) b1 t hm k2 hsc
          refine ⟨g4, ?_, by have q := v5.1; rw [← e] at q; exact q.to⟩
          try dsimp only
          rw [v1, Option.bind_some, v2, Option.bind_some, v3, Option.bind_some, v4, Option.bind_some, if_pos p0, gd_ix (show j < 5 by omega) (by decide), nC_n hj, v5.2.2.2 j jm, show fct m - 1 + 1 = fct m by omega]
      · obtain ⟨h2, w1, w2⟩ := c_scoreA (h := h1) (a := (bestA (scA (CV h 0) n nw s m k mm) (fct m)).2) (show vw (h1 0) = CV h 0 by rw [q2 0 (by decide)]; rfl) b1 t (by omega) hm k2
        refine Two.same (x := scA (CV h 0) n nw s m k mm (bestA (scA (CV h 0) n nw s m k mm) (fct m)).2) (h1 := h2) i ?_ (CTo.idle (fun g e _ => by rw [w2 g e, q2 g e])) (fun h' e => ?_)
        · rw [q1, Option.bind_some]
          try dsimp only
          rw [if_neg p0, w1, Option.bind_some]
        · obtain ⟨g1, g2, g3, g4, v1, v2, v3, v4, v5⟩ := r_planAll p (rB e) b1 t hm k2 hsc
          refine ⟨g4, ?_, by have q := v5.1; rw [← e] at q; exact q.to⟩
          try dsimp only
          rw [v1, Option.bind_some, v2, Option.bind_some, v3, Option.bind_some, v4, Option.bind_some, if_neg p0, v5.2.2.1, show fct m - 1 + 1 = fct m by omega, iv.1]
    · simp only [if_neg pm]
      exact Two.none i
  · have c5 : ¬ nI m ≤ 5 := le_f (b := 5) m5 (by omega) (by decide)
    simp only [eB, eO, Option.bind_some, if_neg c5]
    exact Two.tell i (-1000000007) 6 (by decide) (by decide)
