-- the two readers side by side: states and first steps
def GC (h0 : HI) (B : Nat → Int32) (T : Nat) (F : Nat → Int32) (s e : Nat) (h : HI) : Prop := ∃ u w, h = hPF (hU h0 2 u) 5 26 w ∧ vw u = F ∧ w 1 = nI T ∧ w 3 = nI s ∧ w 5 = nI e ∧ w 2 = knd B T s ∧ (Dg B T s = true → w 4 = nI (mn (vN B s (e - s))))
def Ots (k0 : HI) (w : Nat → Int32) : Prop := ∀ j, j ≠ 13 → j ≠ 14 → j ≠ 15 → j ≠ 16 → w j = k0 8 32 j
def GR (k0 : HI) (F : Nat → Int32) (s e : Nat) (k : HI) : Prop := ∃ r w, k = hPF (hPF k0 8 33 r) 8 32 w ∧ tk r = F ∧ w 13 = nI s ∧ w 14 = nI e ∧ w 16 = 0 ∧ Ots k0 w
def BR (k0 : HI) (s : Nat) (k : HI) : Prop := ∃ r w, k = hPF (hPF k0 8 33 r) 8 32 w ∧ w 13 = nI s ∧ (∃ e, e ≤ 120 ∧ w 14 = nI e) ∧ s ≤ 120 ∧ w 16 = 1 ∧ Ots k0 w
def PC (h0 k0 : HI) (B : Nat → Int32) (T : Nat) : Prop := (∀ i, i < 120 → h0 5 27 i = B i) ∧ (∀ i, i < 120 → k0 8 39 i = B i) ∧ T ≤ 120 ∧ k0 8 32 12 = nI T
theorem En_le {B : Nat → Int32} {T s e : Nat} (a : En B T s e) : s ≤ e ∧ e ≤ T := by
  rcases a with ⟨a1, a2⟩ | ⟨a1, a2, a3, -⟩ <;> omega
theorem En_lt {B : Nat → Int32} {T s e : Nat} (a : En B T s e) (h : s < T) : s < e := by
  rcases a with ⟨a1, a2⟩ | ⟨a1, a2, a3, -⟩ <;> omega
theorem En_L {B : Nat → Int32} {T s e : Nat} (a : En B T s e) (h : Lt B T s = true) : ∀ j, s ≤ j → j < e → Lt B T j = true := by
  rcases a with ⟨a1, a2⟩ | ⟨a1, a2, a3, a⟩
  · exact fun j h1 h2 => by omega
  · rcases a with ⟨l1, l2, l3⟩ | ⟨l1, l2, l3⟩ | ⟨l1, l2, l3⟩
    · exact l2
    · exact (LD h l1).elim
    · rw [h] at l1
      exact absurd l1 (by decide)
theorem En_D {B : Nat → Int32} {T s e : Nat} (a : En B T s e) (h : Dg B T s = true) : ∀ j, s ≤ j → j < e → Dg B T j = true := by
  rcases a with ⟨a1, a2⟩ | ⟨a1, a2, a3, a⟩
  · exact fun j h1 h2 => by omega
  · rcases a with ⟨l1, l2, l3⟩ | ⟨l1, l2, l3⟩ | ⟨l1, l2, l3⟩
    · exact (LD l1 h).elim
    · exact l2
    · rw [h] at l2
      exact absurd l2 (by decide)
section Parse
variable {h0 k0 : HI} {B : Nat → Int32} {T : Nat}
theorem PC.c (cx : PC h0 k0 B T) (u : Nat → Nat → Int32) : ∀ i, i < 120 → (hU h0 2 u) 5 27 i = B i := fun i hi => by rw [hU_n (by decide)]; exact cx.1 i hi
theorem PC.r (cx : PC h0 k0 B T) (r : Nat → Int32) : ∀ i, i < 120 → (hPF k0 8 33 r) 8 39 i = B i := fun i hi => by rw [hPF_n (by decide)]; exact cx.2.1 i hi
theorem Ots.len (cx : PC h0 k0 B T) {w : Nat → Int32} (o : Ots k0 w) : w 12 = nI T := by rw [o 12 (by decide) (by decide) (by decide) (by decide)]; exact cx.2.2.2
theorem Ots.up {w : Nat → Int32} {j : Nat} {x : Int32} (o : Ots k0 w) (hj : j = 13 ∨ j = 14 ∨ j = 15 ∨ j = 16) : Ots k0 (upd w j x) := fun i e1 e2 e3 e4 => by rw [up_n (by omega)]; exact o i e1 e2 e3 e4
theorem c_advG (cx : PC h0 k0 B T) {F : Nat → Int32} {s e : Nat} {h : HI} (en : En B T s e) (g : GC h0 B T F s e h) : ∃ s' e' h', FX7_advance h = some h' ∧ Sk B T e s' ∧ En B T s' e' ∧ GC h0 B T F s' e' h' := by
  obtain ⟨u, w, rfl, g1, g2, g3, g4, g5, g6⟩ := g
  obtain ⟨s', e', w', a1, a2, a3, a4, a5, a6, a7, a8⟩ := c_adv (cx.c u) cx.2.2.1 g2 g4 (En_le en).2
  exact ⟨s', e', _, a1, a2, a3, u, w', rfl, g1, a4, a5, a6, a7, a8⟩
theorem r_needs1 (cx : PC h0 k0 B T) {F : Nat → Int32} {s e : Nat} {k : HI} {a : Int32} (ha : ¬ a = 0) (en : En B T s e) (g : GR k0 F s e k) : ∃ s' e' k', FX10_needs a k = some k' ∧ Sk B T e s' ∧ En B T s' e' ∧ GR k0 F s' e' k' ∧ k' 8 32 15 = k 8 32 15 := by
  obtain ⟨r, w, rfl, g1, g2, g3, g4, g5⟩ := g
  obtain ⟨s', e', w', a1, a2, a3, a4, a5, a6⟩ := r_tok (w := upd w 16 0) (cx.r r) cx.2.2.1 (by rw [up_n (by decide)]; exact g5.len cx) (by rw [up_n (by decide)]; exact g3) (En_le en).2
  refine ⟨s', e', _, ?_, a2, a3, ⟨r, w', rfl, g1, a4, a5, ?_, fun j e1 e2 e3 e4 => ?_⟩, ?_⟩
  · unfold FX10_needs JX10_needs_17
    rw [hPF_s, g4, if_pos rfl, if_neg ha, show isB 0 = true from rfl, gd_1, nm_eq, pf_p1, hPF_s, up_s, if_pos rfl, a1, Option.bind_some]
  · rw [a6 16 (by decide) (by decide), up_s]
  · rw [a6 j e1 e2, up_n e4]
    exact g5 j e1 e2 e3 e4
  · rw [hPF_s, hPF_s, a6 15 (by decide) (by decide), up_n (by decide)]
theorem needs_fail {r w : Nat → Int32} {s : Nat} (w13 : w 13 = nI s) (we : ∃ e, e ≤ 120 ∧ w 14 = nI e) (hs : s ≤ 120) (o : Ots k0 w) : JX10_needs_17 1 (hPF (hPF k0 8 33 r) 8 32 w) = some (hPF (hPF k0 8 33 r) 8 32 (upd w 16 1)) ∧ BR k0 s (hPF (hPF k0 8 33 r) 8 32 (upd w 16 1)) := by
  refine ⟨?_, r, upd w 16 1, rfl, by rw [up_n (by decide)]; exact w13, by rw [up_n (by decide)]; exact we, hs, up_s, o.up (by simp)⟩
  unfold JX10_needs_17
  rw [show isB 1 = true from rfl, gd_1, nm_eq, pf_p1, hPF_s, up_s, if_neg (by decide)]
theorem r_needs0 (cx : PC h0 k0 B T) {F : Nat → Int32} {s e : Nat} {k : HI} (en : En B T s e) (g : GR k0 F s e k) : ∃ k', FX10_needs 0 k = some k' ∧ BR k0 s k' := by
  obtain ⟨r, w, rfl, g1, g2, g3, g4, g5⟩ := g
  have le := En_le en
  have tT := cx.2.2.1
  obtain ⟨n1, n2⟩ := needs_fail (r := r) g2 ⟨e, by omega, g3⟩ (by omega) g5
  refine ⟨_, ?_, n2⟩
  unfold FX10_needs JX10_needs_12
  rw [hPF_s, g4, if_pos rfl, if_pos rfl, n1]
theorem b_needs {s : Nat} {k : HI} (a : Int32) (g : BR k0 s k) : ∃ k', FX10_needs a k = some k' ∧ BR k0 s k' := by
  obtain ⟨r, w, rfl, g1, g2, g3, g4, g5⟩ := g
  obtain ⟨n1, n2⟩ := needs_fail (r := r) g1 g2 g3 g5
  refine ⟨_, ?_, n2⟩
  unfold FX10_needs JX10_needs_12
  rw [hPF_s, g4, if_neg (by decide), n1]
theorem b_word {s : Nat} {k : HI} (g : BR k0 s k) : FX10_word k = some 0 := by
  obtain ⟨r, w, rfl, g1, ⟨e, e1, e2⟩, g3, g4, g5⟩ := g
  obtain ⟨v, hv⟩ := r_wordAny (h := hPF k0 8 33 r) e2 e1 g3
  unfold FX10_word
  rw [nm_eq, hPF_s, g1, hv, Option.bind_some, g4, if_neg (by decide)]
theorem b_number {s : Nat} {k : HI} (lo hi : Int32) (g : BR k0 s k) : FX10_number lo hi k = some k := by
  obtain ⟨r, w, rfl, g1, g2, g3, g4, g5⟩ := g
  unfold FX10_number
  rw [hPF_s, g4, if_neg (by decide)]
theorem c_wordG (cx : PC h0 k0 B T) {F : Nat → Int32} {s e : Nat} {h : HI} (en : En B T s e) (g : GC h0 B T F s e h) : ∀ i, i < 15 → FX7_isWord i h = some (bI (isW B T s e i)) := by
  obtain ⟨u, w, rfl, g1, g2, g3, g4, g5, g6⟩ := g
  exact fun i hi => c_isWord hi (cx.c u) cx.2.2.1 g5 g3 g4 (En_le en).1 (En_le en).2
theorem r_wordG (cx : PC h0 k0 B T) {F : Nat → Int32} {s e : Nat} {k : HI} (en : En B T s e) (g : GR k0 F s e k) : ∃ v, FX10_word k = some v ∧ ∀ i, i < 15 → (lg_cmp v (lN (wK.getD i 0)) = 0 ↔ isW B T s e i = true) := by
  obtain ⟨r, w, rfl, g1, g2, g3, g4, g5⟩ := g
  have le := En_le en
  have tT := cx.2.2.1
  unfold FX10_word
  rw [nm_eq, hPF_s, g2, g4]
  cases q : Lt B T s with
  | true =>
    have l := En_L en q
    rw [r_wordL (cx.r r) g3 (by omega) l le.1, Option.bind_some, if_pos rfl, r_byte (cx.r r) tT (g5.len cx) (by omega), Option.bind_some, r_ltb, tpA_lt, q, Option.bind_some, bI_if, if_pos rfl]
    refine ⟨_, rfl, fun i hi => ?_⟩
    obtain ⟨k1, k2, k3, k4⟩ := kW i hi
    have b1 := wV_le (B := B) (s := s) (k := e - s) (fun j hj => Lt_v (l (s + j) (by omega) (by omega)))
    rw [lg_cmp_eq, pk_lEQ (by omega) (by omega)]
    exact isW_iff hi l q
  | false =>
    obtain ⟨v, hv⟩ := r_wordAny (h := hPF k0 8 33 r) (s := s) g3 (by omega) (by omega)
    rw [hv, Option.bind_some, if_pos rfl, r_byte (cx.r r) tT (g5.len cx) (by omega), Option.bind_some, r_ltb, tpA_lt, q, Option.bind_some, bI_if, if_neg (by decide)]
    refine ⟨_, rfl, fun i hi => ?_⟩
    obtain ⟨k1, k2, k3, k4⟩ := kW i hi
    unfold isW
    rw [q, Bool.false_and, lg_cmp_eq, show (0 : Int64) = lN 0 from rfl, pk_lEQ (by decide) (by omega)]
    exact ⟨fun z => by omega, fun z => absurd z (by decide)⟩
-- numbers
def nOK (B : Nat → Int32) (T s e lo hi : Nat) : Bool := Dg B T s && (decide (lo ≤ vN B s (e - s)) && decide (vN B s (e - s) ≤ hi))
theorem wi_dec {a b c : Nat} (ha : a < 2 ^ 31) (hb : b < 2 ^ 31) (hc : c < 2 ^ 31) : wi (nI c) (nI a) (nI b) = (decide (a ≤ c) && decide (c ≤ b)) := by
  unfold wi
  by_cases x : a ≤ c
  · rw [decide_eq_true x, decide_eq_true (le_t x ha hc)]
    by_cases y : c ≤ b
    · rw [decide_eq_true y, decide_eq_true (le_t y hc hb)]
    · rw [decide_eq_false y, decide_eq_false (le_f y hc hb)]
  · rw [decide_eq_false x, decide_eq_false (le_f x ha hc)]
    rfl
theorem mn_wi {n lo hi : Nat} (h : hi ≤ 999) : (decide (lo ≤ mn n) && decide (mn n ≤ hi)) = (decide (lo ≤ n) && decide (n ≤ hi)) := by
  unfold mn
  by_cases c : n < 1000
  · rw [if_pos c]
  · rw [if_neg c, decide_eq_false (show ¬ 1000 ≤ hi by omega), decide_eq_false (show ¬ n ≤ hi by omega), Bool.and_false, Bool.and_false]
theorem c_numG (cx : PC h0 k0 B T) {F : Nat → Int32} {s e : Nat} {h : HI} {lo hi : Nat} (h1 : lo ≤ hi) (h9 : hi ≤ 999) (en : En B T s e) (g : GC h0 B T F s e h) : if nOK B T s e lo hi = true then ∃ h', FX7_advance h = some h' ∧ FX2_takeNumber (nI lo) (nI hi) h = some (nI (vN B s (e - s)), h') else FX2_takeNumber (nI lo) (nI hi) h = some (-1, h) := by
  obtain ⟨s', e', h', a1, -⟩ := c_advG cx en g
  obtain ⟨u, w, rfl, g1, g2, g3, g4, g5, g6⟩ := g
  unfold nOK FX2_takeNumber
  rw [hPF_s, g5]
  cases q : Dg B T s with
  | false =>
    have : ¬ knd B T s = 2 := by
      unfold knd
      by_cases c : s < T
      · rw [if_pos c]
        split
        · decide
        · rw [if_neg (by rw [q]; decide)]
          split <;> decide
      · rw [if_neg c]
        decide
    rw [Bool.false_and, if_neg (by decide), if_neg this]
  | true =>
    have : knd B T s = 2 := by
      unfold knd
      rw [if_pos (Dg_T q), if_neg (fun z => LD z q), if_pos q]
    have b9 := vN_le (En_D en q) (e - s) (by have := (En_le en).1; omega)
    have bm : mn (vN B s (e - s)) ≤ 1000 := by unfold mn; split <;> omega
    rw [Bool.true_and, if_pos this, g6 q, f_within, Option.bind_some, bI_if, wi_dec (by omega) (by omega) (by omega), mn_wi h9]
    cases z : (decide (lo ≤ vN B s (e - s)) && decide (vN B s (e - s) ≤ hi)) with
    | false => rw [if_neg (by decide), if_neg (by decide)]
    | true =>
      rw [Bool.and_eq_true] at z
      have z2 := of_decide_eq_true z.2
      rw [if_pos rfl, if_pos rfl, nm_eq, a1, Option.bind_some]
      refine ⟨h', rfl, ?_⟩
      unfold mn
      rw [if_pos (by omega)]
theorem r_numL {h : HI} {s e : Nat} {w : Nat → Int32} (a1 a2 : Int32) (hB : ∀ i, i < 120 → h 8 39 i = B i) (w14 : w 14 = nI e) (eT : e ≤ 120) (l : ∀ j, s ≤ j → j < e → Dg B T j = true) (se : s ≤ e) : loopN (SX10_number_29 a1 a2 (bI true) (hPF h 8 32 w)) FU (0, nI s) = some (nI (vN B s (e - s))) := by
  refine for_loop (f := SX10_number_29 a1 a2 (bI true) (hPF h 8 32 w)) (fun i => (nI (vN B s i), nI (s + i))) (e - s) _ ?_ ?_ FU (by have := FU_lt; omega)
  · intro i hi
    have b9 := vN_le l i (by omega)
    obtain ⟨d, d1, d2, d3⟩ := Dg_v (l (s + i) (by omega) (by omega))
    have ev : vN B s (i + 1) = if vN B s i ≤ 999 then 10 * vN B s i + d else vN B s i := by
      rw [← d3]
      rfl
    unfold SX10_number_29
    dsimp only
    rw [hPF_s, w14, if_neg (le_f (by omega) (by omega) (by omega)), bI_if, if_pos rfl, gd_ix (show s + i < 120 by omega) (by decide), nC_n (by omega), hPF_n (by decide), hB _ (by omega), d2, nm_eq, nI_1, show (10 : Int32) = nI 10 from rfl, pk_mul, nI_add, show (48 : Int32) = nI 48 from rfl, pk_sub (by omega), show 10 * vN B s i + (48 + d) - 48 = 10 * vN B s i + d by omega, ev]
    by_cases c : vN B s i ≤ 999
    · rw [if_pos c, if_pos (show nI (vN B s i) ≤ 999 from le_t (b := 999) c (by omega) (by decide))]
      rfl
    · rw [if_neg c, if_neg (show ¬ nI (vN B s i) ≤ 999 from le_f (b := 999) c (by omega) (by decide))]
      rfl
  · unfold SX10_number_29
    dsimp only
    rw [hPF_s, w14, if_pos (le_t (by omega) (by omega) (by omega))]
theorem r_numN {h : HI} {s : Nat} {x : Int32} (a1 a2 : Int32) : loopN (SX10_number_29 a1 a2 (bI false) h) FU (x, nI s) = some x := by
  refine for_loop (f := SX10_number_29 a1 a2 (bI false) h) (fun _ => (x, nI s)) 0 _ (fun i hi => by omega) ?_ FU (by have := FU_lt; omega)
  unfold SX10_number_29
  dsimp only
  by_cases c : h 8 32 14 ≤ nI s
  · rw [if_pos c]
  · rw [if_neg c, bI_if, if_neg (by decide)]
theorem r_numG (cx : PC h0 k0 B T) {F : Nat → Int32} {s e : Nat} {k : HI} {lo hi : Nat} (h1 : lo ≤ hi) (h9 : hi ≤ 999) (en : En B T s e) (g : GR k0 F s e k) : if nOK B T s e lo hi = true then ∃ s' e' k', FX10_number (nI lo) (nI hi) k = some k' ∧ Sk B T e s' ∧ En B T s' e' ∧ GR k0 F s' e' k' ∧ k' 8 32 15 = nI (vN B s (e - s)) else ∃ k', FX10_number (nI lo) (nI hi) k = some k' ∧ BR k0 s k' := by
  obtain ⟨r, w, rfl, g1, g2, g3, g4, g5⟩ := g
  have le := En_le en
  have tT := cx.2.2.1
  have gx : ∀ x, GR k0 F s e (hPF (hPF k0 8 33 r) 8 32 (upd w 15 x)) := fun x => ⟨r, _, rfl, g1, by rw [up_n (by decide)]; exact g2, by rw [up_n (by decide)]; exact g3, by rw [up_n (by decide)]; exact g4, g5.up (by simp)⟩
  unfold nOK FX10_number
  rw [hPF_s, g4, if_pos rfl, g2, r_byte (cx.r r) tT (g5.len cx) (by omega), Option.bind_some, r_dgb, tpA_dg, Option.bind_some, nm_eq]
  cases q : Dg B T s with
  | false =>
    rw [Bool.false_and, if_neg (by decide), r_numN, Option.bind_some]
    unfold JX10_number_79
    obtain ⟨k', n1, n2⟩ := r_needs0 cx en (gx 0)
    rw [nm_eq, pf_p1, bI_if, if_neg (by decide), n1, Option.bind_some]
    exact ⟨k', rfl, n2⟩
  | true =>
    have l := En_D en q
    have b9 := vN_le l (e - s) (by omega)
    rw [r_numL (nI lo) (nI hi) (cx.r r) g3 (by omega) l le.1, Option.bind_some, Bool.true_and]
    unfold JX10_number_79
    rw [nm_eq, pf_p1, bI_if, if_pos rfl, f_in (a := (nI lo).toInt64) (b := (nI hi).toInt64) (nI lo) (nI hi) rfl rfl, Option.bind_some, bI_if, wi_dec (by omega) (by omega) (by omega)]
    cases z : (decide (lo ≤ vN B s (e - s)) && decide (vN B s (e - s) ≤ hi)) with
    | false =>
      obtain ⟨k', n1, n2⟩ := r_needs0 cx en (gx (nI (vN B s (e - s))))
      rw [if_neg (by decide), if_neg (by decide), n1, Option.bind_some]
      exact ⟨k', rfl, n2⟩
    | true =>
      obtain ⟨s', e', k', n1, n2, n3, n4, n5⟩ := r_needs1 cx (a := 1) (by decide) en (gx (nI (vN B s (e - s))))
      rw [if_pos rfl, if_pos rfl, n1, Option.bind_some]
      exact ⟨s', e', k', rfl, n2, n3, n4, by rw [n5, hPF_s, up_s]⟩
/-- both at the same place, the class's book F, the reference's G -/
def Gd (h0 k0 : HI) (B : Nat → Int32) (T : Nat) (F G : Nat → Int32) (s e : Nat) (h k : HI) : Prop := En B T s e ∧ GC h0 B T F s e h ∧ GR k0 G s e k
theorem J_adv (cx : PC h0 k0 B T) {F G : Nat → Int32} {s e : Nat} {h k : HI} {a : Int32} (ha : ¬ a = 0) (g : Gd h0 k0 B T F G s e h k) : ∃ s' e' h' k', FX7_advance h = some h' ∧ FX10_needs a k = some k' ∧ e ≤ s' ∧ Gd h0 k0 B T F G s' e' h' k' := by
  obtain ⟨en, gc, gr⟩ := g
  obtain ⟨s1, e1, h', a1, a2, a3, a4⟩ := c_advG cx en gc
  obtain ⟨s2, e2, k', b1, b2, b3, b4, -⟩ := r_needs1 cx ha en gr
  have es := Sk_eq a2 b2
  subst es
  have ee := En_eq a3 b3
  subst ee
  exact ⟨s1, e1, h', k', a1, b1, a2.1, a3, a4, b4⟩
theorem J_num (cx : PC h0 k0 B T) {F G : Nat → Int32} {s e : Nat} {h k : HI} {lo hi : Nat} (h1 : lo ≤ hi) (h9 : hi ≤ 999) (g : Gd h0 k0 B T F G s e h k) : (∃ v s' e' h' k', lo ≤ v ∧ v ≤ hi ∧ FX2_takeNumber (nI lo) (nI hi) h = some (nI v, h') ∧ FX10_number (nI lo) (nI hi) k = some k' ∧ k' 8 32 15 = nI v ∧ e ≤ s' ∧ Gd h0 k0 B T F G s' e' h' k') ∨ (∃ k', FX2_takeNumber (nI lo) (nI hi) h = some (-1, h) ∧ FX10_number (nI lo) (nI hi) k = some k' ∧ BR k0 s k') := by
  obtain ⟨en, gc, gr⟩ := g
  have c := c_numG cx h1 h9 en gc
  have r := r_numG cx h1 h9 en gr
  cases q : nOK B T s e lo hi with
  | false =>
    rw [q, if_neg (by decide)] at c r
    obtain ⟨k', r1, r2⟩ := r
    exact Or.inr ⟨k', c, r1, r2⟩
  | true =>
    rw [q, if_pos rfl] at c r
    obtain ⟨h', c1, c2⟩ := c
    obtain ⟨s2, e2, k', r1, r2, r3, r4, r5⟩ := r
    obtain ⟨s1, e1, h'', a1, a2, a3, a4⟩ := c_advG cx en gc
    rw [c1] at a1
    have eh := Option.some.inj a1
    subst eh
    have es := Sk_eq a2 r2
    subst es
    have ee := En_eq a3 r3
    subst ee
    unfold nOK at q
    rw [Bool.and_eq_true, Bool.and_eq_true] at q
    exact Or.inl ⟨_, s1, e1, h', k', of_decide_eq_true q.2.1, of_decide_eq_true q.2.2, c2, r1, r5, a2.1, a3, a4, r4⟩
theorem J_word (cx : PC h0 k0 B T) {F G : Nat → Int32} {s e : Nat} {h k : HI} (g : Gd h0 k0 B T F G s e h k) : (∀ i, i < 15 → FX7_isWord i h = some (bI (isW B T s e i))) ∧ ∃ v, FX10_word k = some v ∧ ∀ i, i < 15 → (lg_cmp v (lN (wK.getD i 0)) = 0 ↔ isW B T s e i = true) := ⟨c_wordG cx g.1 g.2.1, r_wordG cx g.1 g.2.2⟩
end Parse
