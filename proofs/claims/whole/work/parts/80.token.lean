-- the tape's tokens
def Lt (B : Nat → Int32) (T i : Nat) : Bool := decide (i < T) && wi (B i) 97 122
def Dg (B : Nat → Int32) (T i : Nat) : Bool := decide (i < T) && wi (B i) 48 57
theorem LD {B : Nat → Int32} {T i : Nat} (a : Lt B T i = true) (b : Dg B T i = true) : False := by
  unfold Lt at a
  unfold Dg at b
  rw [Bool.and_eq_true] at a b
  obtain ⟨k, k1, k2, e⟩ := wi_nat (a := 97) (b := 122) (by decide) a.2 (by decide)
  obtain ⟨j, j1, j2, f⟩ := wi_nat (a := 48) (b := 57) (by decide) b.2 (by decide)
  rw [e] at f
  have := (nI_eq (by omega) (by omega)).mp f
  omega
theorem Lt_T {B : Nat → Int32} {T i : Nat} (a : Lt B T i = true) : i < T := by
  unfold Lt at a
  rw [Bool.and_eq_true] at a
  exact of_decide_eq_true a.1
theorem Dg_T {B : Nat → Int32} {T i : Nat} (a : Dg B T i = true) : i < T := by
  unfold Dg at a
  rw [Bool.and_eq_true] at a
  exact of_decide_eq_true a.1
def Sk (B : Nat → Int32) (T e s : Nat) : Prop := e ≤ s ∧ s ≤ T ∧ (∀ i, e ≤ i → i < s → B i = 32) ∧ (s < T → ¬ B s = 32)
def En (B : Nat → Int32) (T s e : Nat) : Prop := (s = T ∧ e = T) ∨ (s < T ∧ s < e ∧ e ≤ T ∧ ((Lt B T s = true ∧ (∀ i, s ≤ i → i < e → Lt B T i = true) ∧ Lt B T e = false) ∨ (Dg B T s = true ∧ (∀ i, s ≤ i → i < e → Dg B T i = true) ∧ Dg B T e = false) ∨ (Lt B T s = false ∧ Dg B T s = false ∧ e = s + 1)))
theorem Sk_eq {B : Nat → Int32} {T e s s' : Nat} (a : Sk B T e s) (b : Sk B T e s') : s = s' := by
  obtain ⟨a1, a2, a3, a4⟩ := a
  obtain ⟨b1, b2, b3, b4⟩ := b
  by_cases c : s < s'
  · exact absurd (b3 s a1 c) (a4 (by omega))
  · by_cases d : s' < s
    · exact absurd (a3 s' b1 d) (b4 (by omega))
    · omega
theorem En_eq {B : Nat → Int32} {T s e e' : Nat} (a : En B T s e) (b : En B T s e') : e = e' := by
  rcases a with ⟨a1, a2⟩ | ⟨a1, a2, a3, a⟩
  · rcases b with ⟨b1, b2⟩ | ⟨b1, -⟩
    · omega
    · omega
  · rcases b with ⟨b1, b2⟩ | ⟨b1, b2, b3, b⟩
    · omega
    · rcases a with ⟨l1, l2, l3⟩ | ⟨l1, l2, l3⟩ | ⟨l1, l2, l3⟩
      · rcases b with ⟨r1, r2, r3⟩ | ⟨r1, r2, r3⟩ | ⟨r1, r2, r3⟩
        · by_cases c : e < e'
          · rw [r2 e (by omega) c] at l3
            exact absurd l3 (by decide)
          · by_cases d : e' < e
            · rw [l2 e' (by omega) d] at r3
              exact absurd r3 (by decide)
            · omega
        · exact (LD l1 r1).elim
        · rw [l1] at r1
          exact absurd r1 (by decide)
      · rcases b with ⟨r1, r2, r3⟩ | ⟨r1, r2, r3⟩ | ⟨r1, r2, r3⟩
        · exact (LD r1 l1).elim
        · by_cases c : e < e'
          · rw [r2 e (by omega) c] at l3
            exact absurd l3 (by decide)
          · by_cases d : e' < e
            · rw [l2 e' (by omega) d] at r3
              exact absurd r3 (by decide)
            · omega
        · rw [l1] at r2
          exact absurd r2 (by decide)
      · rcases b with ⟨r1, r2, r3⟩ | ⟨r1, r2, r3⟩ | ⟨r1, r2, r3⟩
        · rw [r1] at l1
          exact absurd l1 (by decide)
        · rw [r1] at l2
          exact absurd l2 (by decide)
        · omega
theorem pf_p1 {h : HI} {g k j : Nat} {w : Nat → Int32} {x : Int32} : hP1 (hPF h g k w) g k j x = hPF h g k (upd w j x) := by
  show hPF (hPF h g k w) g k (upd (hPF h g k w g k) j x) = _
  rw [hPF_hPF, hPF_s]
/-- the number that the digits from s on tell -/
def vN (B : Nat → Int32) (s : Nat) : Nat → Nat
  | 0 => 0
  | k + 1 => if vN B s k ≤ 999 then 10 * vN B s k + (nC (B (s + k)) - 48) else vN B s k
theorem Dg_v {B : Nat → Int32} {T i : Nat} (a : Dg B T i = true) : ∃ d, d ≤ 9 ∧ B i = nI (48 + d) ∧ nC (B i) - 48 = d := by
  unfold Dg at a
  rw [Bool.and_eq_true] at a
  obtain ⟨j, j1, j2, f⟩ := wi_nat (a := 48) (b := 57) (by decide) a.2 (by decide)
  refine ⟨j - 48, by omega, by rw [f, show 48 + (j - 48) = j by omega], ?_⟩
  rw [f, nC_n (by omega)]
theorem vN_le {B : Nat → Int32} {T s e : Nat} (h : ∀ i, s ≤ i → i < e → Dg B T i = true) : ∀ k, s + k ≤ e → vN B s k ≤ 9999 := by
  intro k
  induction k with
  | zero => intro _; exact Nat.zero_le _
  | succ k ih =>
    intro hk
    have i1 := ih (by omega)
    obtain ⟨d, d1, d2, d3⟩ := Dg_v (h (s + k) (by omega) (by omega))
    show (if vN B s k ≤ 999 then 10 * vN B s k + (nC (B (s + k)) - 48) else vN B s k) ≤ 9999
    rw [d3]
    split <;> omega
def mn (a : Nat) : Nat := if a < 1000 then a else 1000
def knd (B : Nat → Int32) (T s : Nat) : Int32 := if s < T then (if Lt B T s = true then 1 else if Dg B T s = true then 2 else if B s = 59 then 3 else 4) else 0
section Cls
variable {h : HI} {B : Nat → Int32} {T : Nat}
theorem c_lt {i : Nat} {w : Nat → Int32} (hB : ∀ i, i < 120 → h 5 27 i = B i) (hi : i < T) (hT : T ≤ 120) : FX7_isLetter (nI i) (hPF h 5 26 w) = some (bI (Lt B T i)) := by
  unfold FX7_isLetter Lt wi
  rw [gd_ix (show i < 120 by omega) (by decide), gd_ix (show i < 120 by omega) (by decide), nC_n (by omega), hPF_n (by decide), hB i (by omega), decide_eq_true hi, Bool.true_and]
  by_cases c : B i < 97
  · rw [if_pos c, decide_eq_false (Int32.not_le.mpr c)]
    rfl
  · rw [if_neg c, decide_eq_true (Int32.not_lt.mp c)]
    by_cases d : 122 < B i
    · rw [if_pos d, decide_eq_false (Int32.not_le.mpr d)]
      rfl
    · rw [if_neg d, decide_eq_true (Int32.not_lt.mp d)]
      rfl
theorem c_dg {i : Nat} {w : Nat → Int32} (hB : ∀ i, i < 120 → h 5 27 i = B i) (hi : i < T) (hT : T ≤ 120) : FX7_isDigit (nI i) (hPF h 5 26 w) = some (bI (Dg B T i)) := by
  unfold FX7_isDigit Dg wi
  rw [gd_ix (show i < 120 by omega) (by decide), gd_ix (show i < 120 by omega) (by decide), nC_n (by omega), hPF_n (by decide), hB i (by omega), decide_eq_true hi, Bool.true_and]
  by_cases c : B i < 48
  · rw [if_pos c, decide_eq_false (Int32.not_le.mpr c)]
    rfl
  · rw [if_neg c, decide_eq_true (Int32.not_lt.mp c)]
    by_cases d : 57 < B i
    · rw [if_pos d, decide_eq_false (Int32.not_le.mpr d)]
      rfl
    · rw [if_neg d, decide_eq_true (Int32.not_lt.mp d)]
      rfl
theorem c_skip8 {e : Nat} {w : Nat → Int32} (hB : ∀ i, i < 120 → h 5 27 i = B i) (hT : T ≤ 120) (w1 : w 1 = nI T) (w3 : w 3 = nI e) (he : e ≤ T) : ∃ s, loopN SX7_advance_8 FU (hPF h 5 26 w) = some (hPF h 5 26 (upd w 3 (nI s))) ∧ Sk B T e s := by
  have key : ∃ r, loopN SX7_advance_8 FU (hPF h 5 26 w) = some r ∧ (fun r : HI => ∃ s, r = hPF h 5 26 (upd w 3 (nI s)) ∧ Sk B T e s) r := by
    refine gloop (f := SX7_advance_8) (fun i (x : HI) => x = hPF h 5 26 (upd w 3 (nI (e + i))) ∧ e + i ≤ T ∧ ∀ j, e ≤ j → j < e + i → B j = 32) _ (T - e) ?_ (k := FU) (by have := FU_lt; omega) ⟨?_, by omega, fun j h1 h2 => by omega⟩
    · rintro i x hi ⟨rfl, i1, i2⟩
      unfold SX7_advance_8
      dsimp only
      rw [hPF_s, up_n (by decide), w1, up_s]
      by_cases c : e + i = T
      · refine Or.inr ⟨_, by rw [if_pos (le_t (by omega) (by omega) (by omega))], e + i, rfl, by omega, i1, i2, fun z => by omega⟩
      · rw [if_neg (le_f (by omega) (by omega) (by omega)), gd_ix (show e + i < 120 by omega) (by decide), nC_n (by omega), hPF_n (by decide), hB _ (by omega)]
        by_cases d : B (e + i) = 32
        · rw [if_pos d, nm_eq, pf_p1, nI_1]
          refine Or.inl ⟨by omega, _, rfl, ?_, by omega, fun j h1 h2 => ?_⟩
          · congr 1
            funext j
            by_cases f : j = 3
            · rw [f, up_s, up_s]
              rfl
            · rw [up_n f, up_n f, up_n f]
          · by_cases f : j = e + i
            · rw [f]; exact d
            · exact i2 j h1 (by omega)
        · rw [if_neg d]
          exact Or.inr ⟨_, rfl, e + i, rfl, by omega, i1, i2, fun _ => d⟩
    · congr 1
      funext j
      by_cases f : j = 3
      · rw [f, up_s, w3]
        rfl
      · rw [up_n f]
  obtain ⟨r, k1, s, rfl, k2⟩ := key
  exact ⟨s, k1, k2⟩
theorem c_run89 {s : Nat} {w : Nat → Int32} (hB : ∀ i, i < 120 → h 5 27 i = B i) (hT : T ≤ 120) (w1 : w 1 = nI T) (w5 : w 5 = nI s) (hs : Lt B T s = true) : ∃ e, loopN SX7_advance_89 FU (hPF h 5 26 w) = some (hPF h 5 26 (upd w 5 (nI e))) ∧ s < e ∧ e ≤ T ∧ (∀ i, s ≤ i → i < e → Lt B T i = true) ∧ Lt B T e = false := by
  have sT := Lt_T hs
  have key : ∃ r, loopN SX7_advance_89 FU (hPF h 5 26 w) = some r ∧ (fun r : HI => ∃ e, r = hPF h 5 26 (upd w 5 (nI e)) ∧ s < e ∧ e ≤ T ∧ (∀ i, s ≤ i → i < e → Lt B T i = true) ∧ Lt B T e = false) r := by
    refine gloop (f := SX7_advance_89) (fun i (x : HI) => x = hPF h 5 26 (upd w 5 (nI (s + i))) ∧ s + i ≤ T ∧ ∀ j, s ≤ j → j < s + i → Lt B T j = true) _ (T - s) ?_ (k := FU) (by have := FU_lt; omega) ⟨?_, by omega, fun j h1 h2 => by omega⟩
    · rintro i x hi ⟨rfl, i1, i2⟩
      unfold SX7_advance_89
      dsimp only
      rw [hPF_s, up_n (by decide), w1, up_s]
      by_cases c : s + i = T
      · refine Or.inr ⟨_, by rw [if_pos (le_t (by omega) (by omega) (by omega))], s + i, rfl, by omega, i1, i2, ?_⟩
        unfold Lt
        rw [decide_eq_false (by omega), Bool.false_and]
      · rw [if_neg (le_f (by omega) (by omega) (by omega)), c_lt hB (show s + i < T by omega) hT, Option.bind_some, bI_if]
        cases d : Lt B T (s + i) with
        | true =>
          rw [if_pos rfl, nm_eq, pf_p1, nI_1]
          refine Or.inl ⟨by omega, _, rfl, ?_, by omega, fun j h1 h2 => ?_⟩
          · congr 1
            funext j
            by_cases f : j = 5
            · rw [f, up_s, up_s]
              rfl
            · rw [up_n f, up_n f, up_n f]
          · by_cases f : j = s + i
            · rw [f]; exact d
            · exact i2 j h1 (by omega)
        | false =>
          rw [if_neg (by decide)]
          refine Or.inr ⟨_, rfl, s + i, rfl, ?_, i1, i2, d⟩
          by_cases z : i = 0
          · rw [z, Nat.add_zero, hs] at d
            exact absurd d (by decide)
          · omega
    · congr 1
      funext j
      by_cases f : j = 5
      · rw [f, up_s, w5]
        rfl
      · rw [up_n f]
  obtain ⟨r, k1, e, rfl, k2⟩ := key
  exact ⟨e, k1, k2⟩
theorem mn_step {a d : Nat} (hd : d ≤ 9) : (if nI (mn a) * 10 + nI (48 + d) - 48 < 1000 then nI (mn a) * 10 + nI (48 + d) - 48 else 1000) = nI (mn (if a ≤ 999 then 10 * a + d else a)) := by
  have hm : mn a ≤ 1000 := by unfold mn; split <;> omega
  rw [show (10 : Int32) = nI 10 from rfl, pk_mul, nI_add, show (48 : Int32) = nI 48 from rfl, pk_sub (by omega), show mn a * 10 + (48 + d) - 48 = mn a * 10 + d by omega, show (1000 : Int32) = nI 1000 from rfl]
  unfold mn at hm ⊢
  by_cases c : a < 1000
  · rw [if_pos c, if_pos (show a ≤ 999 by omega)]
    by_cases f : 10 * a + d < 1000
    · rw [if_pos f, if_pos (lt_t (by omega) (by omega) (by omega))]
      congr 1
      omega
    · rw [if_neg f, if_neg (lt_f (by omega) (by omega) (by omega))]
  · rw [if_neg c, if_neg (show ¬ a ≤ 999 by omega), if_neg c, if_neg (lt_f (by omega) (by omega) (by omega))]
theorem c_run145 {s : Nat} {w : Nat → Int32} (hB : ∀ i, i < 120 → h 5 27 i = B i) (hT : T ≤ 120) (w1 : w 1 = nI T) (w5 : w 5 = nI s) (w4 : w 4 = 0) (hs : Dg B T s = true) : ∃ e w', loopN SX7_advance_145 FU (hPF h 5 26 w) = some (hPF h 5 26 w') ∧ (∀ j, j ≠ 4 → j ≠ 5 → w' j = w j) ∧ w' 5 = nI e ∧ w' 4 = nI (mn (vN B s (e - s))) ∧ s < e ∧ e ≤ T ∧ (∀ i, s ≤ i → i < e → Dg B T i = true) ∧ Dg B T e = false := by
  have sT := Dg_T hs
  have key : ∃ r, loopN SX7_advance_145 FU (hPF h 5 26 w) = some r ∧ (fun r : HI => ∃ e w', r = hPF h 5 26 w' ∧ (∀ j, j ≠ 4 → j ≠ 5 → w' j = w j) ∧ w' 5 = nI e ∧ w' 4 = nI (mn (vN B s (e - s))) ∧ s < e ∧ e ≤ T ∧ (∀ i, s ≤ i → i < e → Dg B T i = true) ∧ Dg B T e = false) r := by
    refine gloop (f := SX7_advance_145) (fun i (x : HI) => ∃ w', x = hPF h 5 26 w' ∧ (∀ j, j ≠ 4 → j ≠ 5 → w' j = w j) ∧ w' 5 = nI (s + i) ∧ w' 4 = nI (mn (vN B s i)) ∧ s + i ≤ T ∧ ∀ j, s ≤ j → j < s + i → Dg B T j = true) _ (T - s) ?_ (k := FU) (by have := FU_lt; omega) ⟨w, rfl, fun _ _ _ => rfl, w5, w4, by omega, fun j h1 h2 => by omega⟩
    rintro i x hi ⟨w', rfl, i0, i5, i4, i1, i2⟩
    unfold SX7_advance_145
    dsimp only
    rw [hPF_s, i0 1 (by decide) (by decide), w1, i5, i4]
    by_cases c : s + i = T
    · refine Or.inr ⟨_, by rw [if_pos (le_t (by omega) (by omega) (by omega))], s + i, w', rfl, i0, i5, by rw [Nat.add_sub_cancel_left]; exact i4, by omega, i1, i2, ?_⟩
      unfold Dg
      rw [decide_eq_false (by omega), Bool.false_and]
    · rw [if_neg (le_f (by omega) (by omega) (by omega)), c_dg hB (show s + i < T by omega) hT, Option.bind_some, bI_if]
      cases d : Dg B T (s + i) with
      | true =>
        obtain ⟨dv, dv1, dv2, dv3⟩ := Dg_v d
        have ev : vN B s (i + 1) = if vN B s i ≤ 999 then 10 * vN B s i + dv else vN B s i := by
          rw [← dv3]
          rfl
        rw [if_pos rfl, gd_ix (show s + i < 120 by omega) (by decide), nC_n (by omega), hPF_n (by decide), hB _ (by omega), dv2, mn_step dv1, ← ev, nm_eq, pf_p1, nm_eq, hPF_s, up_n (by decide), i5, pf_p1, nI_1]
        refine Or.inl ⟨by omega, _, rfl, _, rfl, fun j e1 e2 => by rw [up_n e2, up_n e1, i0 j e1 e2], up_s, by rw [up_n (by decide), up_s], by omega, fun j h1 h2 => ?_⟩
        by_cases f : j = s + i
        · rw [f]; exact d
        · exact i2 j h1 (by omega)
      | false =>
        rw [if_neg (by decide)]
        refine Or.inr ⟨_, rfl, s + i, w', rfl, i0, i5, by rw [Nat.add_sub_cancel_left]; exact i4, ?_, i1, i2, d⟩
        by_cases z : i = 0
        · rw [z, Nat.add_zero, hs] at d
          exact absurd d (by decide)
        · omega
  obtain ⟨r, k1, e, w', rfl, k2⟩ := key
  exact ⟨e, w', k1, k2⟩
theorem c_adv {e : Nat} {w : Nat → Int32} (hB : ∀ i, i < 120 → h 5 27 i = B i) (hT : T ≤ 120) (w1 : w 1 = nI T) (w5 : w 5 = nI e) (he : e ≤ T) : ∃ s e' w', FX7_advance (hPF h 5 26 w) = some (hPF h 5 26 w') ∧ Sk B T e s ∧ En B T s e' ∧ w' 1 = nI T ∧ w' 3 = nI s ∧ w' 5 = nI e' ∧ w' 2 = knd B T s ∧ (Dg B T s = true → w' 4 = nI (mn (vN B s (e' - s)))) := by
  unfold FX7_advance
  rw [nm_eq, hPF_s, w5, pf_p1]
  obtain ⟨s, s1, s2⟩ := c_skip8 (w := upd w 3 (nI e)) hB hT (by rw [up_n (by decide)]; exact w1) up_s he
  rw [s1, Option.bind_some]
  obtain ⟨v, ev, v1, v3⟩ : ∃ v, upd (upd w 3 (nI e)) 3 (nI s) = v ∧ v 1 = nI T ∧ v 3 = nI s := ⟨_, rfl, by rw [up_n (by decide), up_n (by decide)]; exact w1, up_s⟩
  rw [ev]
  clear ev s1
  have sT : s ≤ T := s2.2.1
  unfold JX7_advance_46
  rw [nm_eq, hPF_s, v3, pf_p1, hPF_s, up_n (by decide), v3, up_n (by decide), v1]
  by_cases c : s < T
  · rw [if_pos (lt_t c (by omega) (by omega)), c_lt hB c hT, Option.bind_some, bI_if]
    cases q : Lt B T s with
    | true =>
      rw [if_pos rfl, nm_eq, pf_p1]
      obtain ⟨e', u1, u2, u3, u4, u5⟩ := c_run89 (w := upd (upd v 5 (nI s)) 2 1) hB hT (by rw [up_n (by decide), up_n (by decide)]; exact v1) (by rw [up_n (by decide), up_s]) q
      rw [u1, Option.bind_some]
      refine ⟨s, e', _, rfl, s2, Or.inr ⟨c, u2, u3, Or.inl ⟨q, u4, u5⟩⟩, ?_, ?_, up_s, ?_, fun z => (LD q z).elim⟩
      · rw [up_n (by decide), up_n (by decide), up_n (by decide)]; exact v1
      · rw [up_n (by decide), up_n (by decide), up_n (by decide)]; exact v3
      · rw [up_n (by decide), up_s]
        unfold knd
        rw [if_pos c, if_pos q]
    | false =>
      rw [if_neg (by decide), c_dg hB c hT, Option.bind_some, bI_if]
      cases d : Dg B T s with
      | true =>
        rw [if_pos rfl, nm_eq, pf_p1, nm_eq, pf_p1]
        obtain ⟨e', w', u1, u2, u3, u4, u5, u6, u7, u8⟩ := c_run145 (w := upd (upd (upd v 5 (nI s)) 2 2) 4 0) hB hT (by rw [up_n (by decide), up_n (by decide), up_n (by decide)]; exact v1) (by rw [up_n (by decide), up_n (by decide), up_s]) up_s d
        rw [u1, Option.bind_some]
        refine ⟨s, e', w', rfl, s2, Or.inr ⟨c, u5, u6, Or.inr (Or.inl ⟨d, u7, u8⟩)⟩, ?_, ?_, u3, ?_, fun _ => u4⟩
        · rw [u2 1 (by decide) (by decide), up_n (by decide), up_n (by decide), up_n (by decide)]; exact v1
        · rw [u2 3 (by decide) (by decide), up_n (by decide), up_n (by decide), up_n (by decide)]; exact v3
        · rw [u2 2 (by decide) (by decide), up_n (by decide), up_s]
          unfold knd
          rw [if_pos c, if_neg (by rw [q]; decide), if_pos d]
      | false =>
        rw [if_neg (by decide), gd_ix (show s < 120 by omega) (by decide), nC_n (by omega), hPF_n (by decide), hB s (by omega)]
        have fin : ∀ x : Int32, JX7_advance_230 x (hPF h 5 26 (upd v 5 (nI s))) = some (hPF h 5 26 (upd (upd (upd v 5 (nI s)) 2 x) 5 (nI (s + 1)))) := by
          intro x
          unfold JX7_advance_230
          rw [nm_eq, pf_p1, nm_eq, hPF_s, up_n (by decide), up_n (by decide), v3, pf_p1, nI_1]
        have en : En B T s (s + 1) := Or.inr ⟨c, by omega, by omega, Or.inr (Or.inr ⟨q, d, rfl⟩)⟩
        by_cases f : B s = 59
        · rw [if_pos f, fin]
          refine ⟨s, s + 1, _, rfl, s2, en, ?_, ?_, up_s, ?_, fun z => by rw [d] at z; exact absurd z (by decide)⟩
          · rw [up_n (by decide), up_n (by decide), up_n (by decide)]; exact v1
          · rw [up_n (by decide), up_n (by decide), up_n (by decide)]; exact v3
          · rw [up_n (by decide), up_s]
            unfold knd
            rw [if_pos c, if_neg (by rw [q]; decide), if_neg (by rw [d]; decide), if_pos f]
        · rw [if_neg f, fin]
          refine ⟨s, s + 1, _, rfl, s2, en, ?_, ?_, up_s, ?_, fun z => by rw [d] at z; exact absurd z (by decide)⟩
          · rw [up_n (by decide), up_n (by decide), up_n (by decide)]; exact v1
          · rw [up_n (by decide), up_n (by decide), up_n (by decide)]; exact v3
          · rw [up_n (by decide), up_s]
            unfold knd
            rw [if_pos c, if_neg (by rw [q]; decide), if_neg (by rw [d]; decide), if_neg f]
  · have sT2 : s = T := by omega
    rw [if_neg (lt_f c (by omega) (by omega)), nm_eq, pf_p1]
    refine ⟨s, T, _, rfl, s2, Or.inl ⟨sT2, rfl⟩, ?_, ?_, ?_, ?_, fun z => absurd (Dg_T z) c⟩
    · rw [up_n (by decide), up_n (by decide)]; exact v1
    · rw [up_n (by decide), up_n (by decide)]; exact v3
    · rw [up_n (by decide), up_s, sT2]
    · rw [up_s]
      unfold knd
      rw [if_neg c]
end Cls
