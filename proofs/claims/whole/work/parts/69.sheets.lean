-- sheets: sheet, write, copy, lays, read
def EqL (L : HL) : Prop := ∀ i, i < 160 → L 6 31 i = L 8 42 i
theorem lP1_at (L : HL) (g k j : Nat) (x : Int64) (g' k' j' : Nat) : lP1 L g k j x g' k' j' = if g' = g ∧ k' = k ∧ j' = j then x else L g' k' j' := by
  unfold lP1
  by_cases eg : g' = g
  · subst eg
    rw [hUL_s]
    by_cases ek : k' = k
    · subst ek
      rw [cU_s]
      unfold vp_updL
      by_cases ej : j' = j
      · rw [if_pos ej, if_pos ⟨rfl, rfl, ej⟩]
      · rw [if_neg ej, if_neg (fun z => ej z.2.2)]
    · rw [cU_n ek, if_neg (fun z => ek z.2.1)]
  · rw [hUL_n eg, if_neg (fun z => eg z.1)]
theorem lP1_o {L : HL} {g k j g' k' : Nat} {x : Int64} (h : ¬ (g' = g ∧ k' = k)) : lP1 L g k j x g' k' = L g' k' := by
  funext i
  rw [lP1_at, if_neg (fun z => h ⟨z.1, z.2.1⟩)]
def TwoL {X : Type} (h : HI) (L : HL) (c : Option (X × HI × HL)) (r : HI → HL → Option (X × HI × HL)) : Prop := ∃ (x : X) (h1 : HI) (L1 : HL) (A' : Nat → Nat → Int32), c = some (x, h1, L1) ∧ CTo h A' h1 ∧ AI A' ∧ ∀ h' : HI, RV h' = CV h → ∃ (h2 : HI) (L2 : HL), r h' L1 = some (x, h2, L2) ∧ RTo h' A' h2 ∧ EqL L2
theorem TwoL.ask {X : Type} {h : HI} {L : HL} {b : Bool} {q : Option Int32} {q' : HI → Option Int32} {c0 c1 : Option (X × HI × HL)} {r0 r1 : HI → HL → Option (X × HI × HL)} (hq : q = some (bI b)) (hq' : ∀ h', RV h' = CV h → q' h' = some (bI b)) (k0 : b = false → TwoL h L c0 r0) (k1 : b = true → TwoL h L c1 r1) : TwoL h L (Option.bind q fun x => if x = 0 then c0 else c1) (fun h' L' => Option.bind (q' h') fun x => if x = 0 then r0 h' L' else r1 h' L') := by
  cases b with
  | false =>
    obtain ⟨x, h1, L1, A', t1, t2, t3, t4⟩ := k0 rfl
    refine ⟨x, h1, L1, A', by rw [hq, Option.bind_some, bI_if, if_neg (by decide)]; exact t1, t2, t3, fun h' e => ?_⟩
    obtain ⟨h2, L2, u1, u2⟩ := t4 h' e
    exact ⟨h2, L2, by (try dsimp only); rw [hq' h' e, Option.bind_some, bI_if, if_neg (by decide)]; exact u1, u2⟩
  | true =>
    obtain ⟨x, h1, L1, A', t1, t2, t3, t4⟩ := k1 rfl
    refine ⟨x, h1, L1, A', by rw [hq, Option.bind_some, bI_if, if_pos rfl]; exact t1, t2, t3, fun h' e => ?_⟩
    obtain ⟨h2, L2, u1, u2⟩ := t4 h' e
    exact ⟨h2, L2, by (try dsimp only); rw [hq' h' e, Option.bind_some, bI_if, if_pos rfl]; exact u1, u2⟩
theorem TwoL.of {X : Type} {h : HI} {L : HL} {c c' : Option (X × HI × HL)} {r r' : HI → HL → Option (X × HI × HL)} (t : TwoL h L c' r') (hc : c = c') (hr : ∀ h' L', RV h' = CV h → r h' L' = r' h' L') : TwoL h L c r := by
  obtain ⟨x, h1, L1, A', t1, t2, t3, t4⟩ := t
  refine ⟨x, h1, L1, A', by rw [hc]; exact t1, t2, t3, fun h' e => ?_⟩
  rw [hr h' L1 e]
  exact t4 h' e
theorem TwoL.tell {X : Type} {h : HI} {L : HL} (f : Int32 → X) (i : AI (CV h)) (eL : EqL L) (x : Int32) (j : Nat) (hj : j < 7) (e : (-1000000001) - x = nI j) : TwoL h L (Option.bind (FX9_tell x h) fun y => some (f y.1, y.2, L)) (fun h' L' => Option.bind (FX10_finds x h') fun y => some (f y.1, y.2, L')) := by
  obtain ⟨h1, t1, t2⟩ := c_tell (h := h) (x := x) j hj e
  refine ⟨f x, h1, L, _, by rw [t1, Option.bind_some], t2, AI_tell i, fun h' e' => ?_⟩
  obtain ⟨h2, t3, t4⟩ := r_tell (h := h') (x := x) j hj e
  rw [e'] at t4
  exact ⟨h2, L, by (try dsimp only); rw [t3, Option.bind_some], t4, eL⟩
theorem c_isSh (a : Int32) : FX6_isSheet a = some (bI (isP 4 a)) := by
  unfold FX6_isSheet isP
  by_cases c : a < 0
  · rw [if_pos c, decide_eq_true c]
    rfl
  · rw [if_neg c, decide_eq_false c]
    by_cases d : 4 ≤ a
    · rw [if_pos d, decide_eq_true d]
      rfl
    · rw [if_neg d, decide_eq_false d]
      rfl
theorem r_isSh (a : Int32) : FX10_isOne a = some (bI (isP 4 a)) := by
  unfold FX10_isOne
  rw [f_in (a := 0) (b := 3) 0 3 rfl rfl, Option.bind_some, gd_B, show (3 : Int32) = nI 4 - 1 from by decide, wi_isP (by decide)]
  rfl
/-- sheet s is of kind k and has z numbers -/
def sheetS (A : Nat → Nat → Int32) (s : Nat) (k z : Int32) : Nat → Nat → Int32 := cU (cU A 6 (upd (A 6) s k)) 7 (upd (A 7) s z)
theorem c_sheetTo {h h' : HI} {s : Nat} {k z : Int32} (hs : s < 4) (o : ∀ g, g ≠ 6 → h' g = h g) (e1 : h' 6 29 = upd (h 6 29) s k) (e2 : h' 6 30 = upd (h 6 30) s z) : CTo h (sheetS (CV h) s k z) h' := by
  unfold sheetS
  refine CTo.mk8 (o 8 (by decide)) ?_ ?_ ?_ ?_ ?_ ?_ ?_ ?_ (fun i => ?_)
  · rw [cU_n (by decide), cU_n (by decide), o 0 (by decide)]
    rfl
  · rw [cU_n (by decide), cU_n (by decide), o 3 (by decide), o 1 (by decide)]
    rfl
  · rw [cU_n (by decide), cU_n (by decide), o 3 (by decide)]
    rfl
  · rw [cU_n (by decide), cU_n (by decide), o 3 (by decide)]
    rfl
  · rw [cU_n (by decide), cU_n (by decide), o 5 (by decide)]
    rfl
  · rw [cU_n (by decide), cU_n (by decide), o 5 (by decide)]
    rfl
  · rw [cU_n (by decide), cU_s, e1, cut_up hs]
    rfl
  · rw [cU_s, e2, cut_up hs]
    rfl
  · rw [cU_n (by omega), cU_n (by omega)]
    rfl
theorem r_sheetTo {h h' : HI} {s : Nat} {k z : Int32} (hs : s < 4) (o : ∀ g, g ≠ 8 → h' g = h g) (o2 : ∀ j, j ≠ 40 → j ≠ 41 → h' 8 j = h 8 j) (e1 : h' 8 40 = upd (h 8 40) s k) (e2 : h' 8 41 = upd (h 8 41) s z) : RTo h (sheetS (RV h) s k z) h' := by
  unfold sheetS
  refine RTo.mk8 o ?_ ?_ ?_ ?_ ?_ ?_ ?_ ?_ (fun i => ?_)
  · rw [cU_n (by decide), cU_n (by decide), o2 33 (by decide) (by decide)]
    rfl
  · rw [cU_n (by decide), cU_n (by decide), o2 32 (by decide) (by decide), o2 34 (by decide) (by decide)]
    rfl
  · rw [cU_n (by decide), cU_n (by decide), o2 32 (by decide) (by decide)]
    rfl
  · rw [cU_n (by decide), cU_n (by decide), o2 36 (by decide) (by decide)]
    rfl
  · rw [cU_n (by decide), cU_n (by decide), o2 32 (by decide) (by decide)]
    rfl
  · rw [cU_n (by decide), cU_n (by decide), o2 39 (by decide) (by decide)]
    rfl
  · rw [cU_n (by decide), cU_s, e1, cut_up hs]
    rfl
  · rw [cU_s, e2, cut_up hs]
    rfl
  · rw [cU_n (by omega), cU_n (by omega)]
    rfl
theorem AI_sheet {A : Nat → Nat → Int32} {s : Nat} {k z : Int32} (i : AI A) (hk : k = 0 ∨ k = 8 ∨ k = 16 ∨ k = 64) (hz : rg z 0 40) : AI (sheetS A s k z) := by
  obtain ⟨i1, i2, i3, i4⟩ := i
  unfold sheetS
  refine ⟨by rw [cU_n (by decide), cU_n (by decide)]; exact i1, ?_, ?_, fun t ht => ?_⟩
  · rw [cU_n (by decide), cU_n (by decide), cU_n (by decide), cU_n (by decide)]
    exact i2
  · rw [cU_n (by decide), cU_n (by decide), cU_n (by decide), cU_n (by decide)]
    exact i3
  · rw [cU_n (by decide), cU_s, cU_s]
    by_cases c : t = s
    · subst c
      rw [up_s, up_s]
      exact ⟨hk, hz⟩
    · rw [up_n c, up_n c]
      exact i4 t ht
theorem i40 (s j : Nat) : nI s * 40 + nI j = nI (40 * s + j) := by
  rw [show (40 : Int32) = nI 40 from rfl, pk_mul, nI_add, Nat.mul_comm]
theorem j40 (s j : Nat) : 40 * nI s + nI j = nI (40 * s + j) := by
  rw [show (40 : Int32) = nI 40 from rfl, pk_mul, nI_add]
theorem c_layL {h : HI} {L : HL} {s : Nat} (hs : s < 4) : ∃ L1, loopN (SX6_lay_25 (nI s) h) FU (0, L) = some L1 ∧ (∀ g k, ¬ (g = 6 ∧ k = 31) → L1 g k = L g k) ∧ ∀ i, L1 6 31 i = if 40 * s ≤ i ∧ i < 40 * s + 40 then 0 else L 6 31 i := by
  refine gloop (f := SX6_lay_25 (nI s) h) (fun j (t : Int32 × HL) => t.1 = nI j ∧ (∀ g k, ¬ (g = 6 ∧ k = 31) → t.2 g k = L g k) ∧ ∀ i, t.2 6 31 i = if 40 * s ≤ i ∧ i < 40 * s + j then 0 else L 6 31 i) _ 40 ?_ (k := FU) (by have := FU_lt; omega) (s0 := (0, L)) ⟨rfl, fun _ _ _ => rfl, fun i => by rw [if_neg (by omega)]⟩
  rintro j ⟨q, L1⟩ hj ⟨rfl, i1, i2⟩
  dsimp only at i1 i2
  unfold SX6_lay_25
  try dsimp only
  by_cases z : j = 40
  · subst z
    exact Or.inr ⟨L1, by rw [if_pos (by decide)], i1, i2⟩
  · refine Or.inl ⟨by omega, (nI (j + 1), lP1 L1 6 31 (40 * s + j) 0), ?_, rfl, fun g k e => ?_, fun i => ?_⟩
    · rw [if_neg (show ¬ 40 ≤ nI j from le_f (a := 40) (by omega) (by decide) (by omega)), i40, gd_ix (show 40 * s + j < 160 by omega) (by decide), nC_n (by omega), nm_eq, nI_1]
    · try dsimp only
      rw [lP1_o e, i1 g k e]
    · try dsimp only
      rw [lP1_at]
      by_cases c : i = 40 * s + j
      · rw [if_pos ⟨rfl, rfl, c⟩, if_pos (by omega)]
      · rw [if_neg (fun z => c z.2.2), i2 i]
        by_cases d : 40 * s ≤ i ∧ i < 40 * s + j
        · rw [if_pos d, if_pos (by omega)]
        · rw [if_neg d, if_neg (by omega)]
theorem r_layL {h : HI} {L : HL} {s : Nat} (hs : s < 4) : ∃ L1, loopN (SX10_sheet_85 (nI s) h) FU (0, L) = some L1 ∧ (∀ g k, ¬ (g = 8 ∧ k = 42) → L1 g k = L g k) ∧ ∀ i, L1 8 42 i = if 40 * s ≤ i ∧ i < 40 * s + 40 then 0 else L 8 42 i := by
  refine gloop (f := SX10_sheet_85 (nI s) h) (fun j (t : Int32 × HL) => t.1 = nI j ∧ (∀ g k, ¬ (g = 8 ∧ k = 42) → t.2 g k = L g k) ∧ ∀ i, t.2 8 42 i = if 40 * s ≤ i ∧ i < 40 * s + j then 0 else L 8 42 i) _ 40 ?_ (k := FU) (by have := FU_lt; omega) (s0 := (0, L)) ⟨rfl, fun _ _ _ => rfl, fun i => by rw [if_neg (by omega)]⟩
  rintro j ⟨q, L1⟩ hj ⟨rfl, i1, i2⟩
  dsimp only at i1 i2
  unfold SX10_sheet_85
  try dsimp only
  by_cases z : j = 40
  · subst z
    exact Or.inr ⟨L1, by rw [if_pos (by decide)], i1, i2⟩
  · refine Or.inl ⟨by omega, (nI (j + 1), lP1 L1 8 42 (40 * s + j) 0), ?_, rfl, fun g k e => ?_, fun i => ?_⟩
    · rw [if_neg (show ¬ 40 ≤ nI j from le_f (a := 40) (by omega) (by decide) (by omega)), j40, gd_ix (show 40 * s + j < 160 by omega) (by decide), nC_n (by omega), nm_eq, nI_1]
    · try dsimp only
      rw [lP1_o e, i1 g k e]
    · try dsimp only
      rw [lP1_at]
      by_cases c : i = 40 * s + j
      · rw [if_pos ⟨rfl, rfl, c⟩, if_pos (by omega)]
      · rw [if_neg (fun z => c z.2.2), i2 i]
        by_cases d : 40 * s ≤ i ∧ i < 40 * s + j
        · rw [if_pos d, if_pos (by omega)]
        · rw [if_neg d, if_neg (by omega)]
theorem c_lay {h : HI} {L : HL} {s : Nat} {k z : Int32} (hs : s < 4) : ∃ h1 L1, FX6_lay (nI s) k z h L = some (if k = 0 then 0 else z, h1, L1) ∧ CTo h (sheetS (CV h) s k (if k = 0 then 0 else z)) h1 ∧ (∀ g k, ¬ (g = 6 ∧ k = 31) → L1 g k = L g k) ∧ ∀ i, L1 6 31 i = if 40 * s ≤ i ∧ i < 40 * s + 40 then 0 else L 6 31 i := by
  unfold FX6_lay
  rw [gd_ix hs (by decide), nC_n (by omega), nm_eq]
  have fin : ∀ w : Int32, CTo h (sheetS (CV h) s k w) (hP1 (hP1 h 6 29 s k) 6 30 s w) := by
    intro w
    refine c_sheetTo hs (fun g e => by rw [hP1_g e, hP1_g e]) ?_ ?_
    · rw [hP1_k (by decide), hP1_c]
    · rw [hP1_c, hP1_k (by decide)]
  by_cases c : k = 0
  · obtain ⟨L1, l1, l2, l3⟩ := c_layL (h := hP1 (hP1 h 6 29 s k) 6 30 s 0) (L := L) hs
    rw [if_pos c, if_pos c, gd_ix hs (by decide), nm_eq, l1, Option.bind_some, gd_ix hs (by decide), hP1_s]
    exact ⟨_, L1, rfl, fin 0, l2, l3⟩
  · obtain ⟨L1, l1, l2, l3⟩ := c_layL (h := hP1 (hP1 h 6 29 s k) 6 30 s z) (L := L) hs
    rw [if_neg c, if_neg c, gd_ix hs (by decide), nm_eq, l1, Option.bind_some, gd_ix hs (by decide), hP1_s]
    exact ⟨_, L1, rfl, fin z, l2, l3⟩
theorem r_sheetCore {h : HI} {L : HL} {s : Nat} {k z : Int32} (hs : s < 4) (h0 : 0 ≤ z) (h40 : z ≤ 40) : ∃ h1 L1, JX10_sheet_36 (nI s) k z h L = some (if k = 0 then 0 else z, h1, L1) ∧ RTo h (sheetS (RV h) s k (if k = 0 then 0 else z)) h1 ∧ (∀ g k, ¬ (g = 8 ∧ k = 42) → L1 g k = L g k) ∧ ∀ i, L1 8 42 i = if 40 * s ≤ i ∧ i < 40 * s + 40 then 0 else L 8 42 i := by
  unfold JX10_sheet_36
  rw [if_pos h0, if_pos h40, gd_ix hs (by decide), nC_n (by omega), nm_eq]
  have fin : ∀ w : Int32, RTo h (sheetS (RV h) s k w) (hP1 (hP1 h 8 40 s k) 8 41 s w) := by
    intro w
    refine r_sheetTo hs (fun g e => by rw [hP1_g e, hP1_g e]) (fun j e1 e2 => by rw [hP1_k e2, hP1_k e1]) ?_ ?_
    · rw [hP1_k (by decide), hP1_c]
    · rw [hP1_c, hP1_k (by decide)]
  by_cases c : k = 0
  · obtain ⟨L1, l1, l2, l3⟩ := r_layL (h := hP1 (hP1 h 8 40 s k) 8 41 s 0) (L := L) hs
    rw [if_pos c, if_pos c, gd_ix hs (by decide), nm_eq, l1, Option.bind_some, gd_ix hs (by decide), hP1_s]
    exact ⟨_, L1, rfl, fin 0, l2, l3⟩
  · obtain ⟨L1, l1, l2, l3⟩ := r_layL (h := hP1 (hP1 h 8 40 s k) 8 41 s z) (L := L) hs
    rw [if_neg c, if_neg c, gd_ix hs (by decide), nm_eq, l1, Option.bind_some, gd_ix hs (by decide), hP1_s]
    exact ⟨_, L1, rfl, fin z, l2, l3⟩
theorem isP4 {a : Int32} (h : isP 4 a = true) : ∃ s, s < 4 ∧ a = nI s := isP_nat (n := 4) (by decide) h
theorem TwoL.core {h : HI} {L : HL} {s : Nat} {k z : Int32} (i : AI (CV h)) (eL : EqL L) (hs : s < 4) (hk : k = 0 ∨ k = 8 ∨ k = 16 ∨ k = 64) : TwoL h L (JX9_sheet_40 (nI s) k z h L) (fun h' L' => JX10_sheet_36 (nI s) k z h' L') := by
  by_cases h0 : 0 ≤ z
  · by_cases h40 : z ≤ 40
    · obtain ⟨h1, L1, c1, c2, c3, c4⟩ := c_lay (h := h) (L := L) (k := k) (z := z) hs
      have hz : rg (if k = 0 then 0 else z) 0 40 := by
        by_cases c : k = 0
        · rw [if_pos c]
          exact ⟨0, by decide, by decide, rfl⟩
        · rw [if_neg c]
          obtain ⟨j, hj, rfl⟩ := nI_of (Int32.not_lt.mpr h0)
          exact ⟨j, by omega, (nI_leI hj (b := 40) (by decide)).mp h40, rfl⟩
      refine ⟨if k = 0 then 0 else z, h1, L1, _, ?_, c2, AI_sheet i hk hz, fun h' e => ?_⟩
      · unfold JX9_sheet_40
        rw [if_pos h0, if_pos h40, c1, Option.bind_some]
      · obtain ⟨h2, L2, u1, u2, u3, u4⟩ := r_sheetCore (h := h') (L := L1) (k := k) (z := z) hs h0 h40
        rw [e] at u2
        refine ⟨h2, L2, u1, u2, fun j hj => ?_⟩
        rw [u3 6 31 (by decide), u4, c4, c3 8 42 (by decide), eL j hj]
    · refine TwoL.of (TwoL.tell (fun x => x) i eL (-1000000001) 0 (by decide) (by decide)) ?_ (fun h' L' e => ?_)
      · unfold JX9_sheet_40
        rw [if_pos h0, if_neg h40]
      · unfold JX10_sheet_36
        rw [if_pos h0, if_neg h40]
  · refine TwoL.of (TwoL.tell (fun x => x) i eL (-1000000007) 6 (by decide) (by decide)) ?_ (fun h' L' e => ?_)
    · unfold JX9_sheet_40
      rw [if_neg h0]
    · unfold JX10_sheet_36
      rw [if_neg h0]
def OpL {X : Type} (c r : HI → HL → Option (X × HI × HL)) : Prop := ∀ h L, Rel h → EqL L → ∃ x h1 L1 h2 L2, c h L = some (x, h1, L1) ∧ r h1 L1 = some (x, h2, L2) ∧ Rel h2 ∧ EqL L2
theorem OpL_two {X : Type} {c r : HI → HL → Option (X × HI × HL)} (t : ∀ h L, AI (CV h) → EqL L → TwoL h L (c h L) (fun h' L' => r h' L')) : OpL c r := by
  intro h L ⟨e, i⟩ eL
  obtain ⟨x, h1, L1, A', c1, c2, c3, c4⟩ := t h L i eL
  obtain ⟨h2, L2, r1, r2, r3⟩ := c4 h1 ((RV_other c2.1).trans e.symm)
  refine ⟨x, h1, L1, h2, L2, c1, r1, ⟨?_, ?_⟩, r3⟩
  · rw [CV_other r2.1, c2.2, r2.2]
  · rw [CV_other r2.1, c2.2]
    exact c3
theorem sheet_ok (a k z : Int32) : OpL (FX9_sheet a k z) (FX10_sheet a k z) := by
  refine OpL_two (fun h L i eL => ?_)
  unfold FX9_sheet FX10_sheet
  refine TwoL.ask (c_isSh a) (fun _ _ => r_isSh a) (fun _ => TwoL.tell (fun x => x) i eL (-1000000001) 0 (by decide) (by decide)) (fun y => ?_)
  obtain ⟨s, hs, rfl⟩ := isP4 y
  by_cases c0 : k = 0
  · simp only [if_pos c0]
    exact TwoL.core i eL hs (Or.inl c0)
  simp only [if_neg c0]
  by_cases c1 : k = 8
  · simp only [if_pos c1]
    exact TwoL.core i eL hs (Or.inr (Or.inl c1))
  simp only [if_neg c1]
  by_cases c2 : k = 16
  · simp only [if_pos c2]
    exact TwoL.core i eL hs (Or.inr (Or.inr (Or.inl c2)))
  simp only [if_neg c2]
  by_cases c3 : k = 64
  · simp only [if_pos c3]
    exact TwoL.core i eL hs (Or.inr (Or.inr (Or.inr c3)))
  · simp only [if_neg c3]
    exact TwoL.tell (fun x => x) i eL (-1000000001) 0 (by decide) (by decide)
-- reading and writing of one number
theorem sk {h h' : HI} (e : RV h' = CV h) {s : Nat} (hs : s < 4) : h' 8 40 s = h 6 29 s ∧ h' 8 41 s = h 6 30 s := by
  have e6 := congrFun (congrFun e 6) s
  have e7 := congrFun (congrFun e 7) s
  rw [show RV h' 6 s = h' 8 40 s from cut_lt hs, show CV h 6 s = h 6 29 s from cut_lt hs] at e6
  rw [show RV h' 7 s = h' 8 41 s from cut_lt hs, show CV h 7 s = h 6 30 s from cut_lt hs] at e7
  exact ⟨e6, e7⟩
theorem sz {h : HI} (i : AI (CV h)) {s : Nat} (hs : s < 4) : ∃ z, z ≤ 40 ∧ h 6 30 s = nI z := by
  obtain ⟨z, -, z2, z3⟩ := (i.2.2.2 s hs).2
  rw [show CV h 7 s = h 6 30 s from cut_lt hs] at z3
  exact ⟨z, z2, z3⟩
theorem c_miss {h : HI} {s : Nat} (hs : s < 4) : FX6_isMissing (nI s) h = some (bI (decide (h 6 29 s = 0))) := by
  unfold FX6_isMissing
  rw [gd_ix hs (by decide), nC_n (by omega)]
  by_cases c : h 6 29 s = 0
  · rw [if_pos c, decide_eq_true c]
    rfl
  · rw [if_neg c, decide_eq_false c]
    rfl
theorem r_wrong {h : HI} {s : Nat} (hs : s < 4) : FX10_wrong (nI s) h = some (if h 8 40 s = 0 then -1000000006 else 0) := by
  unfold FX10_wrong
  rw [r_isSh, show isP 4 (nI s) = true from ?_, Option.bind_some, bI_if, if_pos rfl, gd_ix hs (by decide), nC_n (by omega)]
  · by_cases c : h 8 40 s = 0
    · rw [if_pos c, if_pos c]
    · rw [if_neg c, if_neg c]
  · unfold isP
    rw [decide_eq_false (nI_nn (by omega)), decide_eq_false (show ¬ 4 ≤ nI s from le_f (a := 4) (by omega) (by decide) (by omega))]
    rfl
theorem r_wrongF {h : HI} {a : Int32} (y : isP 4 a = false) : FX10_wrong a h = some (-1000000001) := by
  unfold FX10_wrong
  rw [r_isSh, y, Option.bind_some, bI_if, if_neg (by decide)]
theorem c_one {h : HI} {s z : Nat} (hs : s < 4) (hz : z ≤ 40) (ez : h 6 30 s = nI z) (a : Int32) : FX6_hasNumbers (nI s) a 1 h = some (bI (isP (nI z) a)) := by
  unfold FX6_hasNumbers isP
  by_cases c : a < 0
  · rw [if_pos c, decide_eq_true c]
    rfl
  · rw [if_neg c, if_neg (by decide), gd_ix hs (by decide), gd_ix hs (by decide), nC_n (by omega), ez, decide_eq_false c]
    obtain ⟨j, hj, rfl⟩ := nI_of c
    by_cases d : z ≤ j
    · rw [decide_eq_true (le_t d (by omega) hj)]
      by_cases d2 : z < j
      · rw [if_pos (lt_t d2 (by omega) hj)]
        rfl
      · rw [if_neg (lt_f d2 (by omega) hj), show j = z by omega, if_pos (by rw [pk_sub (Nat.le_refl z), Nat.sub_self]; decide)]
        rfl
    · rw [decide_eq_false (le_f d (by omega) hj), if_neg (lt_f (by omega) (by omega) hj), if_neg (by rw [pk_sub (by omega)]; exact lt_f (b := 1) (by omega) (by omega) (by decide))]
      rfl
theorem write_ok (a b : Int32) (v : Int64) : OpL (FX9_write a b v) (FX10_write a b v) := by
  refine OpL_two (fun h L i eL => ?_)
  unfold FX9_write FX10_write
  cases y : isP 4 a with
  | false =>
    refine TwoL.of (TwoL.tell Int32.toInt64 i eL (-1000000001) 0 (by decide) (by decide)) ?_ (fun h' L' e => ?_)
    · rw [c_isSh, y, Option.bind_some, bI_if, if_neg (by decide)]
    · rw [r_wrongF y, Option.bind_some, if_neg (by decide)]
  | true =>
    obtain ⟨s, hs, rfl⟩ := isP4 y
    obtain ⟨z, hz, ez⟩ := sz i hs
    by_cases m : h 6 29 s = 0
    · refine TwoL.of (TwoL.tell Int32.toInt64 i eL (-1000000006) 5 (by decide) (by decide)) ?_ (fun h' L' e => ?_)
      · rw [c_isSh, y, Option.bind_some, bI_if, if_pos rfl, c_miss hs, decide_eq_true m, Option.bind_some, bI_if, if_pos rfl]
      · rw [r_wrong hs, (sk e hs).1, if_pos m, Option.bind_some, if_neg (by decide)]
    · cases w : isP (nI z) b with
      | false =>
        refine TwoL.of (TwoL.tell Int32.toInt64 i eL (-1000000001) 0 (by decide) (by decide)) ?_ (fun h' L' e => ?_)
        · rw [c_isSh, y, Option.bind_some, bI_if, if_pos rfl, c_miss hs, decide_eq_false m, Option.bind_some, bI_if, if_neg (by decide), c_one hs hz ez, w, Option.bind_some, bI_if, if_neg (by decide)]
        · rw [r_wrong hs, (sk e hs).1, if_neg m, Option.bind_some, if_pos rfl, gd_ix hs (by decide), nC_n (by omega), (sk e hs).2, ez, f_in (a := 0) (b := (nI z - 1).toInt64) 0 (nI z - 1) rfl rfl, wi_isP (by omega), w, Option.bind_some, bI_if, if_neg (by decide)]
      | true =>
        obtain ⟨j, hj, rfl⟩ := isP_nat (by omega) w
        have hx : 40 * s + j < 160 := by omega
        obtain ⟨nv, en⟩ : ∃ nv, FX10_narrowed (h 6 29 s) v = some nv := by
          unfold FX10_narrowed
          split
          · exact ⟨_, rfl⟩
          · split
            · exact ⟨_, rfl⟩
            · exact ⟨_, rfl⟩
        have ec : FX6_cut v (h 6 29 s) = some nv := en
        refine ⟨L 6 31 (40 * s + j), h, lP1 L 6 31 (40 * s + j) nv, CV h, ?_, CTo.rf, i, fun h' e => ⟨h', lP1 (lP1 L 6 31 (40 * s + j) nv) 8 42 (40 * s + j) nv, ?_, by rw [← e]; exact RTo.rf, fun t ht => ?_⟩⟩
        · rw [c_isSh, y, Option.bind_some, bI_if, if_pos rfl, c_miss hs, decide_eq_false m, Option.bind_some, bI_if, if_neg (by decide), c_one hs hz ez, w, Option.bind_some, bI_if, if_pos rfl]
          unfold FX6_replace FX6_at
          rw [i40, gd_ix hx (by decide), Option.bind_some, gd_ix hs (by decide), nC_n (show s < 2 ^ 31 by omega), ec, Option.bind_some, gd_ix hx (by decide), nm_eq, Option.bind_some, nC_n (show 40 * s + j < 2 ^ 31 by omega)]
        · try dsimp only
          rw [r_wrong hs, (sk e hs).1, if_neg m, Option.bind_some, if_pos rfl, gd_ix hs (by decide), nC_n (show s < 2 ^ 31 by omega), (sk e hs).2, ez, f_in (a := 0) (b := (nI z - 1).toInt64) 0 (nI z - 1) rfl rfl, wi_isP (by omega), w, Option.bind_some, bI_if, if_pos rfl, j40, gd_ix hx (by decide), nm_eq, gd_ix hs (by decide), (sk e hs).1, en, Option.bind_some, gd_ix hx (by decide), nm_eq, nC_n (show 40 * s + j < 2 ^ 31 by omega), lP1_at, if_neg (fun q => absurd q.1 (by decide)), eL _ hx]
        · rw [lP1_at, if_neg (fun q => absurd q.1 (by decide)), lP1_at, lP1_at]
          by_cases c : t = 40 * s + j
          · rw [if_pos ⟨rfl, rfl, c⟩, if_pos ⟨rfl, rfl, c⟩]
          · rw [if_neg (fun q => c q.2.2), if_neg (fun q => c q.2.2), lP1_at, if_neg (fun q => absurd q.1 (by decide)), eL t ht]
-- copy
theorem sub_neg {z j m : Nat} (hz : z ≤ 40) (hj : j < 2 ^ 31) (h : z < j) : nI z - nI j < nI m ∨ 2 ^ 31 ≤ m := by
  by_cases hm : m < 2 ^ 31
  · refine Or.inl ?_
    rw [Int32.lt_iff_toInt_lt, nI_toInt hm, Int32.toInt_sub, nI_toInt (by omega), nI_toInt hj, Int.bmod_eq_of_le (by omega) (by omega)]
    omega
  · exact Or.inr (by omega)
def fits (z : Nat) (a b : Int32) : Bool := !decide (a < 0) && !decide (b < 0) && decide (nC a + nC b ≤ z)
theorem fits_nat {z : Nat} {a b : Int32} (h : fits z a b = true) : ∃ j m, a = nI j ∧ b = nI m ∧ j + m ≤ z ∧ j < 2 ^ 31 ∧ m < 2 ^ 31 := by
  unfold fits at h
  by_cases c : a < 0
  · rw [decide_eq_true c, Bool.not_true, Bool.false_and, Bool.false_and] at h
    exact absurd h (by decide)
  · by_cases d : b < 0
    · rw [decide_eq_true d, Bool.not_true, Bool.and_false, Bool.false_and] at h
      exact absurd h (by decide)
    · obtain ⟨j, hj, rfl⟩ := nI_of c
      obtain ⟨m, hm, rfl⟩ := nI_of d
      rw [decide_eq_false c, decide_eq_false d, nC_n hj, nC_n hm] at h
      exact ⟨j, m, rfl, rfl, of_decide_eq_true h, hj, hm⟩
theorem fits_pos {z : Nat} {a b : Int32} (hz : z ≤ 40) (h : fits z a b = true) : ¬ a < 0 ∧ ¬ b < 0 ∧ ¬ nI z < a ∧ ¬ nI z - a < b := by
  obtain ⟨j, m, rfl, rfl, h1, h2, h3⟩ := fits_nat h
  refine ⟨nI_nn h2, nI_nn h3, lt_f (by omega) (by omega) h2, ?_⟩
  rw [pk_sub (by omega)]
  exact lt_f (by omega) (by omega) h3
theorem fits_neg {z : Nat} {a b : Int32} (hz : z ≤ 40) (h : fits z a b = false) : a < 0 ∨ b < 0 ∨ nI z - a < b := by
  by_cases c : a < 0
  · exact Or.inl c
  · by_cases d : b < 0
    · exact Or.inr (Or.inl d)
    · refine Or.inr (Or.inr ?_)
      obtain ⟨j, hj, rfl⟩ := nI_of c
      obtain ⟨m, hm, rfl⟩ := nI_of d
      unfold fits at h
      rw [decide_eq_false c, decide_eq_false d, nC_n hj, nC_n hm] at h
      have h2 : ¬ j + m ≤ z := of_decide_eq_false h
      by_cases e : z < j
      · rcases sub_neg (m := m) hz hj e with q | q
        · exact q
        · omega
      · rw [pk_sub (by omega)]
        exact lt_t (by omega) (by omega) hm
theorem c_hasN {h : HI} {s z : Nat} (hs : s < 4) (hz : z ≤ 40) (ez : h 6 30 s = nI z) (a b : Int32) : FX6_hasNumbers (nI s) a b h = some (bI (fits z a b)) := by
  unfold FX6_hasNumbers
  rw [gd_ix hs (by decide), gd_ix hs (by decide), nC_n (by omega), ez]
  cases f : fits z a b with
  | true =>
    obtain ⟨q1, q2, q3, q4⟩ := fits_pos hz f
    rw [if_neg q1, if_neg q2, if_neg q3, if_neg q4]
    rfl
  | false =>
    by_cases c1 : a < 0
    · rw [if_pos c1]
      rfl
    · rw [if_neg c1]
      by_cases c2 : b < 0
      · rw [if_pos c2]
        rfl
      · rw [if_neg c2]
        by_cases c3 : nI z < a
        · rw [if_pos c3]
          rfl
        · rw [if_neg c3]
          rcases fits_neg hz f with q | q | q
          · exact absurd q c1
          · exact absurd q c2
          · rw [if_pos q]
            rfl
theorem r_cpyL {h : HI} {L : HL} {s j m : Nat} (a3 a4 : Int32) (hx : 40 * s + j + m ≤ 160) (hm : m ≤ 40) : ∃ L1, loopN (SX10_copy_120 (nI s) (nI j) a3 a4 (nI m) h) FU (0, L) = some L1 ∧ (∀ g k, ¬ (g = 8 ∧ k = 43) → L1 g k = L g k) ∧ ∀ i, i < m → L1 8 43 i = L 8 42 (40 * s + j + i) := by
  refine gloop (f := SX10_copy_120 (nI s) (nI j) a3 a4 (nI m) h) (fun t (q : Int32 × HL) => q.1 = nI t ∧ (∀ g k, ¬ (g = 8 ∧ k = 43) → q.2 g k = L g k) ∧ ∀ i, i < t → q.2 8 43 i = L 8 42 (40 * s + j + i)) _ m ?_ (k := FU) (by have := FU_lt; omega) (s0 := (0, L)) ⟨rfl, fun _ _ _ => rfl, fun i hi => by omega⟩
  rintro t ⟨q, L1⟩ ht ⟨rfl, i1, i2⟩
  dsimp only at i1 i2
  unfold SX10_copy_120
  try dsimp only
  by_cases z : t = m
  · subst z
    exact Or.inr ⟨L1, by rw [if_pos (Int32.le_refl _)], i1, i2⟩
  · refine Or.inl ⟨by omega, (nI (t + 1), lP1 L1 8 43 t (L1 8 42 (40 * s + j + t))), ?_, rfl, fun g k e => ?_, fun i hi => ?_⟩
    · rw [if_neg (le_f (by omega) (by omega) (by omega)), j40, nI_add, gd_ix (show 40 * s + j + t < 160 by omega) (by decide), gd_ix (show t < 40 by omega) (by decide), nC_n (show t < 2 ^ 31 by omega), nC_n (show 40 * s + j + t < 2 ^ 31 by omega), nm_eq, nI_1]
    · try dsimp only
      rw [lP1_o e, i1 g k e]
    · try dsimp only
      rw [lP1_at]
      by_cases c : i = t
      · rw [if_pos ⟨rfl, rfl, c⟩, c, i1 8 42 (by decide)]
      · rw [if_neg (fun z => c z.2.2), i2 i (by omega)]
theorem r_pstL {h : HI} {L : HL} {s j m : Nat} (hx : 40 * s + j + m ≤ 160) (hm : m ≤ 40) : ∃ L1, loopN (SX10_copy_157 (nI s) (nI j) (nI m) h) FU (0, L) = some L1 ∧ (∀ g k, ¬ (g = 8 ∧ k = 42) → L1 g k = L g k) ∧ ∀ i, L1 8 42 i = if 40 * s + j ≤ i ∧ i < 40 * s + j + m then L 8 43 (i - (40 * s + j)) else L 8 42 i := by
  refine gloop (f := SX10_copy_157 (nI s) (nI j) (nI m) h) (fun t (q : Int32 × HL) => q.1 = nI t ∧ (∀ g k, ¬ (g = 8 ∧ k = 42) → q.2 g k = L g k) ∧ ∀ i, q.2 8 42 i = if 40 * s + j ≤ i ∧ i < 40 * s + j + t then L 8 43 (i - (40 * s + j)) else L 8 42 i) _ m ?_ (k := FU) (by have := FU_lt; omega) (s0 := (0, L)) ⟨rfl, fun _ _ _ => rfl, fun i => by rw [if_neg (by omega)]⟩
  rintro t ⟨q, L1⟩ ht ⟨rfl, i1, i2⟩
  dsimp only at i1 i2
  unfold SX10_copy_157
  try dsimp only
  by_cases z : t = m
  · subst z
    exact Or.inr ⟨L1, by rw [if_pos (Int32.le_refl _)], i1, i2⟩
  · refine Or.inl ⟨by omega, (nI (t + 1), lP1 L1 8 42 (40 * s + j + t) (L1 8 43 t)), ?_, rfl, fun g k e => ?_, fun i => ?_⟩
    · rw [if_neg (le_f (by omega) (by omega) (by omega)), j40, nI_add, gd_ix (show t < 40 by omega) (by decide), gd_ix (show 40 * s + j + t < 160 by omega) (by decide), nC_n (show t < 2 ^ 31 by omega), nC_n (show 40 * s + j + t < 2 ^ 31 by omega), nm_eq, nI_1]
    · try dsimp only
      rw [lP1_o e, i1 g k e]
    · try dsimp only
      rw [lP1_at]
      by_cases c : i = 40 * s + j + t
      · rw [if_pos ⟨rfl, rfl, c⟩, if_pos (by omega), c, Nat.add_sub_cancel_left, i1 8 43 (by decide)]
      · rw [if_neg (fun z => c z.2.2), i2 i]
        by_cases d : 40 * s + j ≤ i ∧ i < 40 * s + j + t
        · rw [if_pos d, if_pos (by omega)]
        · rw [if_neg d, if_neg (by omega)]
theorem copy_ok (a b c d m : Int32) : OpL (FX9_copy a b c d m) (FX10_copy a b c d m) := by
  refine OpL_two (fun h L i eL => ?_)
  unfold FX9_copy FX10_copy
  refine TwoL.ask (c_isSh a) (fun _ _ => r_isSh a) (fun _ => TwoL.tell (fun x => x) i eL (-1000000001) 0 (by decide) (by decide)) (fun y => ?_)
  refine TwoL.ask (c_isSh c) (fun _ _ => r_isSh c) (fun _ => TwoL.tell (fun x => x) i eL (-1000000001) 0 (by decide) (by decide)) (fun y2 => ?_)
  obtain ⟨s, hs, rfl⟩ := isP4 y
  obtain ⟨t, ht, rfl⟩ := isP4 y2
  obtain ⟨z, hz, ez⟩ := sz i hs
  obtain ⟨w, hw, ew⟩ := sz i ht
  have gs : ∀ {β : Type} {o : Option β}, gd (ixb (nI s) 4) o = o := gd_ix hs (by decide)
  have gt : ∀ {β : Type} {o : Option β}, gd (ixb (nI t) 4) o = o := gd_ix ht (by decide)
  have ns : nC (nI s) = s := nC_n (by omega)
  have nt : nC (nI t) = t := nC_n (by omega)
  by_cases m1 : h 6 29 s = 0
  · refine TwoL.of (TwoL.tell (fun x => x) i eL (-1000000006) 5 (by decide) (by decide)) ?_ (fun h' L' e => ?_)
    · rw [c_miss hs, decide_eq_true m1, Option.bind_some, bI_if, if_pos rfl]
    · rw [gs, ns, (sk e hs).1, if_pos m1]
  by_cases m2 : h 6 29 t = 0
  · refine TwoL.of (TwoL.tell (fun x => x) i eL (-1000000006) 5 (by decide) (by decide)) ?_ (fun h' L' e => ?_)
    · rw [c_miss hs, decide_eq_false m1, Option.bind_some, bI_if, if_neg (by decide), c_miss ht, decide_eq_true m2, Option.bind_some, bI_if, if_pos rfl]
    · rw [gs, ns, (sk e hs).1, if_neg m1, gt, nt, (sk e ht).1, if_pos m2]
  by_cases m3 : h 6 29 s = h 6 29 t
  · have hc : ∀ X : Option (Int32 × HI × HL), (fits z b m = false ∨ fits w d m = false → X = Option.bind (FX9_tell (-1000000001) h) fun y => some (y.1, y.2, L)) → (fits z b m = true → fits w d m = true → X = Option.bind (FX6_move (nI s) b (nI t) d m L) fun L13 => some (m, h, L13)) → (Option.bind (FX6_isMissing (nI s) h) fun r5 => if r5 = 0 then Option.bind (FX6_isMissing (nI t) h) fun r8 => if r8 = 0 then gd (ixb (nI s) 4) <| gd (ixb (nI t) 4) <| if (h 6 29 (nC (nI s))) = (h 6 29 (nC (nI t))) then Option.bind (FX6_hasNumbers (nI s) b m h) fun r9 => if r9 = 0 then Option.bind (FX9_tell (-1000000001) h) fun y => some (y.1, y.2, L) else Option.bind (FX6_hasNumbers (nI t) d m h) fun r12 => if r12 = 0 then Option.bind (FX9_tell (-1000000001) h) fun y => some (y.1, y.2, L) else Option.bind (FX6_move (nI s) b (nI t) d m L) fun L13 => some (m, h, L13) else Option.bind (FX9_tell (-1000000003) h) fun y => some (y.1, y.2, L) else Option.bind (FX9_tell (-1000000006) h) fun y => some (y.1, y.2, L) else Option.bind (FX9_tell (-1000000006) h) fun y => some (y.1, y.2, L)) = X := by
      intro X k0 k1
      rw [c_miss hs, decide_eq_false m1, Option.bind_some, bI_if, if_neg (by decide), c_miss ht, decide_eq_false m2, Option.bind_some, bI_if, if_neg (by decide), gs, gt, ns, nt, if_pos m3, c_hasN hs hz ez, Option.bind_some, bI_if]
      cases f1 : fits z b m with
      | false =>
        rw [if_neg (by decide)]
        exact (k0 (Or.inl f1)).symm
      | true =>
        rw [if_pos rfl, c_hasN ht hw ew, Option.bind_some, bI_if]
        cases f2 : fits w d m with
        | false =>
          rw [if_neg (by decide)]
          exact (k0 (Or.inr f2)).symm
        | true =>
          rw [if_pos rfl]
          exact (k1 f1 f2).symm
    have hr : ∀ (h' : HI) (L' : HL), RV h' = CV h → ∀ X : Option (Int32 × HI × HL), (fits z b m = false ∨ fits w d m = false → X = Option.bind (FX10_finds (-1000000001) h') fun y => some (y.1, y.2, L')) → (fits z b m = true → fits w d m = true → X = Option.bind (loopN (SX10_copy_120 (nI s) b (nI t) d m h') FU (0, L')) fun L16 => Option.bind (loopN (SX10_copy_157 (nI t) d m h') FU (0, L16)) fun L18 => some (m, h', L18)) → (gd (ixb (nI s) 4) <| if (h' 8 40 (nC (nI s))) = 0 then Option.bind (FX10_finds (-1000000006) h') fun y => some (y.1, y.2, L') else gd (ixb (nI t) 4) <| if (h' 8 40 (nC (nI t))) = 0 then Option.bind (FX10_finds (-1000000006) h') fun y => some (y.1, y.2, L') else gd (ixb (nI s) 4) <| gd (ixb (nI t) 4) <| if (h' 8 40 (nC (nI s))) = (h' 8 40 (nC (nI t))) then if b < 0 then Option.bind (FX10_finds (-1000000001) h') fun y => some (y.1, y.2, L') else if d < 0 then Option.bind (FX10_finds (-1000000001) h') fun y => some (y.1, y.2, L') else if m < 0 then Option.bind (FX10_finds (-1000000001) h') fun y => some (y.1, y.2, L') else gd (ixb (nI s) 4) <| if ((h' 8 41 (nC (nI s))) - b) < m then Option.bind (FX10_finds (-1000000001) h') fun y => some (y.1, y.2, L') else gd (ixb (nI t) 4) <| if m ≤ ((h' 8 41 (nC (nI t))) - d) then Option.bind (loopN (SX10_copy_120 (nI s) b (nI t) d m h') FU (0, L')) fun L16 => Option.bind (loopN (SX10_copy_157 (nI t) d m h') FU (0, L16)) fun L18 => some (m, h', L18) else Option.bind (FX10_finds (-1000000001) h') fun y => some (y.1, y.2, L') else Option.bind (FX10_finds (-1000000003) h') fun y => some (y.1, y.2, L')) = X := by
      intro h' L' e X k0 k1
      rw [gs, gs, gt, gt, gs, gt, ns, nt, (sk e hs).1, (sk e ht).1, (sk e hs).2, (sk e ht).2, ez, ew, if_neg m1, if_neg m2, if_pos m3]
      cases f1 : fits z b m with
      | true =>
        obtain ⟨p1, p2, p3, p4⟩ := fits_pos hz f1
        rw [if_neg p1, if_neg p2, if_neg p4]
        cases f2 : fits w d m with
        | true =>
          obtain ⟨q1, q2, q3, q4⟩ := fits_pos hw f2
          rw [if_neg q1, if_pos (Int32.not_lt.mp q4)]
          exact (k1 f1 f2).symm
        | false =>
          rw [k0 (Or.inr f2)]
          by_cases c1 : d < 0
          · rw [if_pos c1]
          · rw [if_neg c1]
            rcases fits_neg hw f2 with q | q | q
            · exact absurd q c1
            · exact absurd q p2
            · rw [if_neg (Int32.not_le.mpr q)]
      | false =>
        rw [k0 (Or.inl f1)]
        by_cases c1 : b < 0
        · rw [if_pos c1]
        · rw [if_neg c1]
          by_cases c2 : d < 0
          · rw [if_pos c2]
          · rw [if_neg c2]
            by_cases c3 : m < 0
            · rw [if_pos c3]
            · rw [if_neg c3]
              rcases fits_neg hz f1 with q | q | q
              · exact absurd q c1
              · exact absurd q c3
              · rw [if_pos q]
    by_cases f : fits z b m = true ∧ fits w d m = true
    · obtain ⟨f1, f2⟩ := f
      obtain ⟨j, k, rfl, rfl, j1, j2, j3⟩ := fits_nat f1
      obtain ⟨j', k', rfl, ek, j4, j5, j6⟩ := fits_nat f2
      have ek2 := (nI_eq j3 j6).mp ek
      subst ek2
      have x1 : 40 * s + j + k ≤ 160 := by omega
      have x2 : 40 * t + j' + k ≤ 160 := by omega
      let L1 : HL := lPF L 6 31 (va_cpy (L 6 31) (L 6 31) (40 * s + j) (40 * t + j') k)
      have eM : FX6_move (nI s) (nI j) (nI t) (nI j') (nI k) L = some L1 := by
        unfold FX6_move
        rw [i40, i40, show cpb (nI (40 * s + j)) (nI (40 * t + j')) (nI k) 160 160 = true from ?_, gd_1, nm_eq, nC_n (show 40 * s + j < 2 ^ 31 by omega), nC_n (show 40 * t + j' < 2 ^ 31 by omega), nC_n j3]
        unfold cpb
        rw [decide_eq_false (nI_nn (show 40 * s + j < 2 ^ 31 by omega)), decide_eq_false (nI_nn (show 40 * t + j' < 2 ^ 31 by omega)), decide_eq_false (nI_nn j3), nC_n (show 40 * s + j < 2 ^ 31 by omega), nC_n (show 40 * t + j' < 2 ^ 31 by omega), nC_n j3, decide_eq_true x1, decide_eq_true x2]
        rfl
      have l1 : ∀ g q, ¬ (g = 6 ∧ q = 31) → L1 g q = L g q := fun g q e => lPF_n e
      have l2 : L1 6 31 = va_cpy (L 6 31) (L 6 31) (40 * s + j) (40 * t + j') k := lPF_s
      refine ⟨nI k, h, L1, CV h, ?_, CTo.rf, i, fun h' e => ?_⟩
      · refine hc _ (fun z => ?_) (fun _ _ => ?_)
        · rcases z with z | z
          · rw [f1] at z; exact absurd z (by decide)
          · rw [f2] at z; exact absurd z (by decide)
        · rw [eM, Option.bind_some]
      · obtain ⟨L2, u1, u2, u3⟩ := r_cpyL (h := h') (L := L1) (nI t) (nI j') x1 (by omega)
        obtain ⟨L3, v1, v2, v3⟩ := r_pstL (h := h') (L := L2) x2 (show k ≤ 40 by omega)
        refine ⟨h', L3, ?_, by rw [← e]; exact RTo.rf, fun q hq => ?_⟩
        · refine hr h' L1 e _ (fun z => ?_) (fun _ _ => ?_)
          · rcases z with z | z
            · rw [f1] at z; exact absurd z (by decide)
            · rw [f2] at z; exact absurd z (by decide)
          · rw [u1, Option.bind_some, v1, Option.bind_some]
        · rw [v2 6 31 (by decide), u2 6 31 (by decide), v3, l2]
          unfold va_cpy
          by_cases cc : 40 * t + j' ≤ q ∧ q < 40 * t + j' + k
          · rw [if_pos cc, if_pos cc, u3 _ (by omega), l1 8 42 (by decide), eL _ (by omega)]
          · rw [if_neg cc, if_neg cc, u2 8 42 (by decide), l1 8 42 (by decide), eL q hq]
    · have f0 : fits z b m = false ∨ fits w d m = false := by
        cases f1 : fits z b m with
        | false => exact Or.inl rfl
        | true =>
          cases f2 : fits w d m with
          | false => exact Or.inr rfl
          | true => exact absurd ⟨f1, f2⟩ f
      refine TwoL.of (TwoL.tell (fun x => x) i eL (-1000000001) 0 (by decide) (by decide)) (hc _ (fun _ => rfl) (fun z1 z2 => absurd ⟨z1, z2⟩ f)) (fun h' L' e => hr h' L' e _ (fun _ => rfl) (fun z1 z2 => absurd ⟨z1, z2⟩ f))
  · refine TwoL.of (TwoL.tell (fun x => x) i eL (-1000000003) 2 (by decide) (by decide)) ?_ (fun h' L' e => ?_)
    · rw [c_miss hs, decide_eq_false m1, Option.bind_some, bI_if, if_neg (by decide), c_miss ht, decide_eq_false m2, Option.bind_some, bI_if, if_neg (by decide), gs, gt, ns, nt, if_neg m3]
    · rw [gs, gs, gt, gt, ns, nt, (sk e hs).1, (sk e ht).1, if_neg m1, if_neg m2, if_neg m3]
