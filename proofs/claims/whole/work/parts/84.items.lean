-- items: the reader that has failed; phrases
def GCf (h0 : HI) (T s : Nat) (h : HI) : Prop := ∃ u w, h = hPF (hU h0 2 u) 5 26 w ∧ w 1 = nI T ∧ w 3 = nI s
def Out (h0 k0 : HI) (B : Nat → Int32) (T s0 : Nat) (r : Int32) (h k : HI) : Prop := (r = 1 ∧ ∃ F s e, s0 < s ∧ BkI F ∧ Gd h0 k0 B T F F s e h k) ∨ (r = 0 ∧ ∃ s, GCf h0 T s h ∧ BR k0 s k)
section Items
variable {h0 k0 : HI} {B : Nat → Int32} {T : Nat}
theorem GC.f {F : Nat → Int32} {s e : Nat} {h : HI} (g : GC h0 B T F s e h) : GCf h0 T s h := by
  obtain ⟨u, w, rfl, g1, g2, g3, g4, g5, g6⟩ := g
  exact ⟨u, w, rfl, g2, g3⟩
theorem GC.at {F : Nat → Int32} {s e : Nat} {h : HI} (g : GC h0 B T F s e h) : vw (h 2) = F := by
  obtain ⟨u, w, rfl, g1, g2, g3, g4, g5, g6⟩ := g
  rw [show hPF (hU h0 2 u) 5 26 w 2 = u from by
    funext k
    rw [hPF_n (by omega), hU_s]]
  exact g1
theorem GC.kd {F : Nat → Int32} {s e : Nat} {h : HI} (g : GC h0 B T F s e h) : h 5 26 2 = knd B T s ∧ h 5 26 3 = nI s := by
  obtain ⟨u, w, rfl, g1, g2, g3, g4, g5, g6⟩ := g
  rw [hPF_s]
  exact ⟨g5, g3⟩
theorem GR.at {F : Nat → Int32} {s e : Nat} {k : HI} (g : GR k0 F s e k) : tk (k 8 33) = F := by
  obtain ⟨r, w, rfl, g1, g2, g3, g4, g5⟩ := g
  rw [hPF_n (by decide), hPF_s]
  exact g1
theorem GR.fl {F : Nat → Int32} {s e : Nat} {k : HI} (g : GR k0 F s e k) : k 8 32 16 = 0 ∧ k 8 32 13 = nI s ∧ k 8 32 14 = nI e := by
  obtain ⟨r, w, rfl, g1, g2, g3, g4, g5⟩ := g
  rw [hPF_s]
  exact ⟨g4, g2, g3⟩
theorem BR.fl {s : Nat} {k : HI} (g : BR k0 s k) : k 8 32 16 = 1 ∧ k 8 32 13 = nI s := by
  obtain ⟨r, w, rfl, g1, g2, g3, g4, g5⟩ := g
  rw [hPF_s]
  exact ⟨g4, g1⟩
theorem GC.bk {F G : Nat → Int32} {s e : Nat} {h h' : HI} (g : GC h0 B T F s e h) (b : BkTo h 2 G h') : GC h0 B T G s e h' := by
  obtain ⟨u, w, rfl, g1, g⟩ := g
  obtain ⟨u', rfl, b1⟩ := b
  refine ⟨u', w, ?_, b1, g⟩
  funext a c
  by_cases e1 : a = 2
  · rw [e1, hU_s, hPF_n (by omega), hU_s]
  · rw [hU_n e1]
    by_cases e2 : a = 5 ∧ c = 26
    · rw [e2.1, e2.2, hPF_s, hPF_s]
    · rw [hPF_n e2, hPF_n e2, hU_n e1, hU_n e1]
theorem GR.rk {F G : Nat → Int32} {s e : Nat} {k k' : HI} (g : GR k0 F s e k) (b : RkTo k G k') : GR k0 G s e k' := by
  obtain ⟨r, w, rfl, g1, g⟩ := g
  obtain ⟨r', rfl, b1⟩ := b
  refine ⟨r', w, ?_, b1, g⟩
  funext a c
  by_cases e1 : a = 8 ∧ c = 33
  · rw [e1.1, e1.2, hPF_s, hPF_n (by decide), hPF_s]
  · rw [hPF_n e1]
    by_cases e2 : a = 8 ∧ c = 32
    · rw [e2.1, e2.2, hPF_s, hPF_s]
    · rw [hPF_n e2, hPF_n e2, hPF_n e1, hPF_n e1]
theorem BR.p33 {s j : Nat} {k : HI} {x : Int32} (g : BR k0 s k) : BR k0 s (hP1 k 8 33 j x) := by
  obtain ⟨r, w, rfl, g⟩ := g
  refine ⟨upd r j x, w, ?_, g⟩
  show hPF (hPF (hPF k0 8 33 r) 8 32 w) 8 33 (upd (hPF (hPF k0 8 33 r) 8 32 w 8 33) j x) = _
  rw [hPF_n (by decide), hPF_s]
  funext a c
  by_cases e1 : a = 8 ∧ c = 33
  · rw [e1.1, e1.2, hPF_s, hPF_n (by decide), hPF_s]
  · rw [hPF_n e1]
    by_cases e2 : a = 8 ∧ c = 32
    · rw [e2.1, e2.2, hPF_s, hPF_s]
    · rw [hPF_n e2, hPF_n e2, hPF_n e1, hPF_n e1]
theorem z_cmp {n : Nat} (h0 : 0 < n) (h : n < 2 ^ 62) : ¬ lg_cmp 0 (lN n) = 0 := by
  rw [lg_cmp_eq, show (0 : Int64) = lN 0 from rfl, pk_lEQ (by decide) (by omega)]
  omega
-- the reference after a failure
theorem b_perhaps {s : Nat} {k : HI} (a lo hi d : Int32) (g : BR k0 s k) : ∃ x k', FX10_perhaps a lo hi d k = some (x, k') ∧ BR k0 s k' := by
  unfold FX10_perhaps
  by_cases c : a = 0
  · rw [if_pos c]
    exact ⟨_, k, rfl, g⟩
  · obtain ⟨k', n1, n2⟩ := b_needs 1 g
    rw [if_neg c, n1, Option.bind_some, b_number lo hi n2, Option.bind_some]
    exact ⟨_, k', rfl, n2⟩
theorem b_ph74 {s : Nat} {k : HI} (a1 a2 a3 s1 : Int32) (g : BR k0 s k) : ∃ k', JX10_phraseItem_74 a1 a2 a3 s1 k = some k' ∧ BR k0 s k' := by
  obtain ⟨x, k', n1, n2⟩ := b_perhaps s1 0 10 7 g
  unfold JX10_phraseItem_74
  rw [n1, Option.bind_some]
  dsimp only
  rw [n2.fl.1, if_neg (by decide)]
  exact ⟨k', rfl, n2⟩
theorem b_phW {s : Nat} {k : HI} (a1 a2 a3 : Int32) (g : BR k0 s k) : ∃ k', (Option.bind (FX10_word k) fun r7 => if (lg_cmp r7 20436420) = 0 then JX10_phraseItem_74 a1 a2 a3 1 k else JX10_phraseItem_74 a1 a2 a3 0 k) = some k' ∧ BR k0 s k' := by
  rw [b_word g, Option.bind_some, if_neg (show ¬ lg_cmp 0 20436420 = 0 from z_cmp (n := 20436420) (by decide) (by decide))]
  exact b_ph74 a1 a2 a3 0 g
theorem b_ph49 {s : Nat} {k : HI} (a1 a2 s1 : Int32) (g : BR k0 s k) : ∃ k', JX10_phraseItem_49 a1 a2 s1 k = some k' ∧ BR k0 s k' := by
  obtain ⟨x, k', n1, n2⟩ := b_perhaps s1 1 60 5 g
  unfold JX10_phraseItem_49
  rw [n1, Option.bind_some]
  exact b_phW a1 a2 x n2
theorem b_phT {s : Nat} {k : HI} (a1 t : Int32) (g : BR k0 s k) : ∃ k', (Option.bind (FX10_word k) fun r4 => if (lg_cmp r4 14276022451) = 0 then JX10_phraseItem_49 a1 t 1 k else JX10_phraseItem_49 a1 t 0 k) = some k' ∧ BR k0 s k' := by
  rw [b_word g, Option.bind_some, if_neg (show ¬ lg_cmp 0 14276022451 = 0 from z_cmp (n := 14276022451) (by decide) (by decide))]
  exact b_ph49 a1 t 0 g
-- a word that may stand there, and a number behind it
theorem J_tw (cx : PC h0 k0 B T) {F G : Nat → Int32} {s e : Nat} {h k : HI} (i : Nat) (hi : i < 15) (g : Gd h0 k0 B T F G s e h k) : ∃ (b : Bool) (v : Int64), FX10_word k = some v ∧ (lg_cmp v (lN (wK.getD i 0)) = 0 ↔ b = true) ∧ (b = false → FX2_takeWord i h = some (0, h)) ∧ (b = true → s < T ∧ ∃ s' e' h' k', FX2_takeWord i h = some (1, h') ∧ FX10_needs 1 k = some k' ∧ e ≤ s' ∧ Gd h0 k0 B T F G s' e' h' k') := by
  obtain ⟨w1, v, v1, v2⟩ := J_word cx g
  refine ⟨isW B T s e i, v, v1, v2 i hi, fun q => ?_, fun q => ?_⟩
  · unfold FX2_takeWord
    rw [w1 i hi, q, Option.bind_some, bI_if, if_neg (by decide)]
  · obtain ⟨s', e', h', k', a1, a2, a3, a4⟩ := J_adv cx (a := 1) (by decide) g
    have sT : s < T := by
      unfold isW at q
      rw [Bool.and_eq_true] at q
      exact Lt_T q.1
    refine ⟨sT, s', e', h', k', ?_, a2, a3, a4⟩
    unfold FX2_takeWord
    rw [w1 i hi, q, Option.bind_some, bI_if, if_pos rfl, a1, Option.bind_some]
theorem J_opt (cx : PC h0 k0 B T) {F G : Nat → Int32} {s e : Nat} {h k : HI} (i lo hi : Nat) (d : Int32) (hi15 : i < 15) (h1 : lo ≤ hi) (h9 : hi ≤ 999) (g : Gd h0 k0 B T F G s e h k) : ∃ (b : Bool) (v : Int64), FX10_word k = some v ∧ (lg_cmp v (lN (wK.getD i 0)) = 0 ↔ b = true) ∧ (b = false → FX2_takeWord i h = some (0, h)) ∧ (b = true → ∃ hm, FX2_takeWord i h = some (1, hm) ∧ ((∃ x s' e' h' k', lo ≤ x ∧ x ≤ hi ∧ FX2_takeNumber (nI lo) (nI hi) hm = some (nI x, h') ∧ FX10_perhaps 1 (nI lo) (nI hi) d k = some (nI x, k') ∧ s ≤ s' ∧ Gd h0 k0 B T F G s' e' h' k') ∨ (∃ s' x k', FX2_takeNumber (nI lo) (nI hi) hm = some (-1, hm) ∧ FX10_perhaps 1 (nI lo) (nI hi) d k = some (x, k') ∧ GCf h0 T s' hm ∧ BR k0 s' k'))) := by
  obtain ⟨b, v, v1, v2, v3, v4⟩ := J_tw cx i hi15 g
  refine ⟨b, v, v1, v2, v3, fun q => ?_⟩
  obtain ⟨sT, s1, e1, hm, km, a1, a2, a3, a4⟩ := v4 q
  refine ⟨hm, a1, ?_⟩
  unfold FX10_perhaps
  rw [if_neg (by decide), a2, Option.bind_some]
  rcases J_num cx h1 h9 a4 with ⟨x, s2, e2, h', k', x1, x2, x3, x4, x5, x6, x7⟩ | ⟨k', x1, x2, x3⟩
  · rw [x4, Option.bind_some]
    have := (En_le g.1).1
    have := (En_le a4.1).1
    exact Or.inl ⟨x, s2, e2, h', k', x1, x2, x3, by rw [x5], by omega, x7⟩
  · rw [x2, Option.bind_some]
    exact Or.inr ⟨s1, _, k', x1, rfl, a4.2.1.f, x3⟩
theorem neg1 : ¬ (0 : Int32) ≤ -1 := by decide
theorem nn {x : Nat} (h : x < 2 ^ 31) : (0 : Int32) ≤ nI x := Int32.not_lt.mp (nI_nn h)
theorem J_ph80 {F : Nat → Int32} {s e s0 n nw l d c : Nat} {h k : HI} {a t m : Int32} {x : Nat} (b1 : BP F n nw) (b2 : OI F n l) (b3 : F 3 = nI d) (b4 : d ≤ 99) (b5 : F 4 = nI c) (b6 : c ≤ 1188 * d) (hn : n < 12) (ra : rg a 0 5) (rt : rg t 0 9) (rm : rg m 1 60) (hx : x ≤ 10) (hs : s0 < s) (g : Gd h0 k0 B T F F s e h k) : ∃ h' k', JX2_readPhrase_80 2 a t m (nI x) h = some (1, h') ∧ (Option.bind (FX10_newPhrase a t m (nI x) k) fun (r10, h11) => some h11) = some k' ∧ Out h0 k0 B T s0 1 h' k' := by
  obtain ⟨en, gc, gr⟩ := g
  obtain ⟨⟨y, h'⟩, c1, c2, c3⟩ := c_addP (g := 2) (a1 := a) (a2 := t) (a3 := m) (a4 := nI x) gc.at b1.1 hn
  obtain ⟨⟨z, k'⟩, r1, r2, r3⟩ := r_newP (a1 := a) (a2 := t) (a3 := m) (a4 := nI x) gr.at b1.1 hn
  dsimp only at c2 c3 r2 r3
  refine ⟨h', k', ?_, ?_, Or.inl ⟨rfl, _, s, e, hs, newP_inv b1 b2 b3 b4 b5 b6 hn ra rt rm ⟨x, by omega, hx, rfl⟩, en, gc.bk c3, gr.rk r3⟩⟩
  · unfold JX2_readPhrase_80
    rw [if_pos (nn (by omega)), c1, Option.bind_some]
  · rw [r1, Option.bind_some]
theorem J_ph50 (cx : PC h0 k0 B T) {F : Nat → Int32} {s e s0 n nw l d c : Nat} {h k : HI} {a t : Int32} {m : Nat} (b1 : BP F n nw) (b2 : OI F n l) (b3 : F 3 = nI d) (b4 : d ≤ 99) (b5 : F 4 = nI c) (b6 : c ≤ 1188 * d) (hn : n < 12) (ra : rg a 0 5) (rt : rg t 0 9) (m1 : 1 ≤ m) (m2 : m ≤ 60) (hs : s0 < s) (g : Gd h0 k0 B T F F s e h k) : ∃ r h' k', JX2_readPhrase_50 2 a t (nI m) h = some (r, h') ∧ (Option.bind (FX10_word k) fun r7 => if (lg_cmp r7 20436420) = 0 then JX10_phraseItem_74 a t (nI m) 1 k else JX10_phraseItem_74 a t (nI m) 0 k) = some k' ∧ Out h0 k0 B T s0 r h' k' := by
  have rm : rg (nI m) 1 60 := ⟨m, m1, m2, rfl⟩
  obtain ⟨b, v, v1, v2, v3, v4⟩ := J_opt cx 7 0 10 7 (by decide) (by decide) (by decide) g
  have v2' : lg_cmp v 20436420 = 0 ↔ b = true := v2
  unfold JX2_readPhrase_50
  rw [if_pos (nn (by omega)), v1, Option.bind_some]
  cases b with
  | false =>
    rw [v3 rfl, Option.bind_some]
    dsimp only
    rw [if_pos rfl, if_neg (fun z => absurd (v2'.mp z) (by decide))]
    obtain ⟨h', k', p1, p2, p3⟩ := J_ph80 (x := 7) b1 b2 b3 b4 b5 b6 hn ra rt rm (by decide) hs g
    refine ⟨1, h', k', p1, ?_, p3⟩
    unfold JX10_phraseItem_74 FX10_perhaps
    rw [if_pos rfl, Option.bind_some]
    dsimp only
    rw [g.2.2.fl.1, if_pos rfl]
    exact p2
  | true =>
    obtain ⟨hm, w1, w2⟩ := v4 rfl
    rw [w1, Option.bind_some]
    dsimp only
    rw [if_neg (by decide), if_pos (v2'.mpr rfl)]
    unfold JX10_phraseItem_74
    rcases w2 with ⟨x, s', e', h', k', x1, x2, x3, x4, x5, x6⟩ | ⟨s', x, k', x1, x2, x3, x4⟩
    · obtain ⟨h'', k'', p1, p2, p3⟩ := J_ph80 (x := x) b1 b2 b3 b4 b5 b6 hn ra rt rm x2 (show s0 < s' by omega) x6
      refine ⟨1, h'', k'', ?_, ?_, p3⟩
      · rw [show FX2_takeNumber 0 10 hm = some (nI x, h') from x3, Option.bind_some]
        exact p1
      · rw [show FX10_perhaps 1 0 10 7 k = some (nI x, k') from x4, Option.bind_some]
        dsimp only
        rw [x6.2.2.fl.1, if_pos rfl]
        exact p2
    · refine ⟨0, hm, k', ?_, ?_, Or.inr ⟨rfl, s', x3, x4⟩⟩
      · rw [show FX2_takeNumber 0 10 hm = some (-1, hm) from x1, Option.bind_some]
        dsimp only
        unfold JX2_readPhrase_80
        rw [if_neg neg1]
      · rw [show FX10_perhaps 1 0 10 7 k = some (x, k') from x2, Option.bind_some]
        dsimp only
        rw [x4.fl.1, if_neg (by decide)]
theorem J_phrase (cx : PC h0 k0 B T) {F : Nat → Int32} {s e : Nat} {h k : HI} {a : Int32} (bk : BkI F) (ra : rg a 0 5) (sT : s < T) (g : Gd h0 k0 B T F F s e h k) : ∃ r h' k', FX2_readPhrase 2 a h = some (r, h') ∧ FX10_phraseItem a k = some k' ∧ Out h0 k0 B T s r h' k' := by
  obtain ⟨n, nw, l, d, c, b1, b2, b3, b4, b5, b6⟩ := bk
  have hn := b1.2.1
  have cn : h 2 1 6 = nI n := (bk0 g.2.1.at).1.trans b1.1
  have rn : k 8 33 0 = nI n := (rk0 g.2.2.at (by decide)).trans b1.1
  unfold FX2_readPhrase FX10_phraseItem FX5_isFull JX10_phraseItem_17
  rw [cn, rn]
  by_cases f : n < 12
  · rw [if_pos (show nI n < 12 from lt_t (b := 12) f (by omega) (by decide)), Option.bind_some, if_pos rfl, if_neg (show ¬ 12 ≤ nI n from le_f (a := 12) (by omega) (by decide) (by omega))]
    obtain ⟨s1, e1, h1, k1, a1, a2, a3, a4⟩ := J_adv cx (a := 1) (by decide) g
    have se := En_lt g.1 sT
    rw [a1, Option.bind_some, a2, Option.bind_some]
    rcases J_num cx (lo := 0) (hi := 9) (by decide) (by decide) a4 with ⟨x, s2, e2, h2, k2, x1, x2, x3, x4, x5, x6, x7⟩ | ⟨k2, x1, x2, x3⟩
    · rw [show FX2_takeNumber 0 9 h1 = some (nI x, h2) from x3, Option.bind_some, show FX10_number 0 9 k1 = some k2 from x4, Option.bind_some, nm_eq, x5]
      dsimp only
      rw [if_pos (nn (by omega))]
      have rt : rg (nI x) 0 9 := ⟨x, x1, x2, rfl⟩
      have s2l : s < s2 := by have := (En_le a4.1).1; omega
      obtain ⟨b, v, v1, v2, v3, v4⟩ := J_opt cx 6 1 60 5 (by decide) (by decide) (by decide) x7
      have v2' : lg_cmp v 14276022451 = 0 ↔ b = true := v2
      rw [v1, Option.bind_some]
      cases b with
      | false =>
        rw [v3 rfl, Option.bind_some]
        dsimp only
        rw [if_pos rfl, if_neg (fun z => absurd (v2'.mp z) (by decide))]
        obtain ⟨r, h', k', p1, p2, p3⟩ := J_ph50 cx (a := a) (t := nI x) (m := 5) b1 b2 b3 b4 b5 b6 f ra rt (by decide) (by decide) s2l x7
        refine ⟨r, h', k', p1, ?_, p3⟩
        unfold JX10_phraseItem_49 FX10_perhaps
        rw [if_pos rfl, Option.bind_some]
        exact p2
      | true =>
        obtain ⟨hm, w1, w2⟩ := v4 rfl
        rw [w1, Option.bind_some]
        dsimp only
        rw [if_neg (by decide), if_pos (v2'.mpr rfl)]
        unfold JX10_phraseItem_49
        rcases w2 with ⟨y, s', e', h', k', y1, y2, y3, y4, y5, y6⟩ | ⟨s', y, k', y1, y2, y3, y4⟩
        · rw [show FX2_takeNumber 1 60 hm = some (nI y, h') from y3, Option.bind_some, show FX10_perhaps 1 1 60 5 k2 = some (nI y, k') from y4, Option.bind_some]
          exact J_ph50 cx (a := a) (t := nI x) (m := y) b1 b2 b3 b4 b5 b6 f ra rt y1 y2 (by omega) y6
        · rw [show FX2_takeNumber 1 60 hm = some (-1, hm) from y1, Option.bind_some, show FX10_perhaps 1 1 60 5 k2 = some (y, k') from y2, Option.bind_some]
          obtain ⟨k'', q1, q2⟩ := b_phW a (nI x) y y4
          refine ⟨0, hm, k'', ?_, q1, Or.inr ⟨rfl, s', y3, q2⟩⟩
          unfold JX2_readPhrase_50
          rw [if_neg neg1]
    · rw [show FX2_takeNumber 0 9 h1 = some (-1, h1) from x1, Option.bind_some, show FX10_number 0 9 k1 = some k2 from x2, Option.bind_some, nm_eq]
      dsimp only
      rw [if_neg neg1]
      obtain ⟨k3, q1, q2⟩ := b_phT a (k2 8 32 15) x3
      exact ⟨0, h1, k3, rfl, q1, Or.inr ⟨rfl, s1, a4.2.1.f, q2⟩⟩
  · have f12 : n = 12 := by omega
    subst f12
    rw [if_neg (by decide), Option.bind_some, if_neg (by decide), if_pos (show (12 : Int32) ≤ nI 12 by decide)]
    obtain ⟨k1, n1, n2⟩ := r_needs0 cx g.1 g.2.2
    rw [n1, Option.bind_some, b_number 0 9 n2, Option.bind_some, nm_eq]
    obtain ⟨k3, q1, q2⟩ := b_phT a (k1 8 32 15) n2
    exact ⟨0, h, k3, rfl, q1, Or.inr ⟨rfl, s, g.2.1.f, q2⟩⟩
end Items
