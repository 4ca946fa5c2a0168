-- words: letters one by one against a number of base 32
def wK : List Nat := [545850981, 21243335, 605701, 492210354, 14141236679, 723752404, 14276022451, 20436420, 755156, 24627848, 4153, 9095769, 3659220, 402885, 16322738]
def uV (c : List Int32) : Nat → Nat
  | 0 => 0
  | t + 1 => 32 * uV c t + (nC (c.getD t 0) - 96)
def wV (B : Nat → Int32) (s : Nat) : Nat → Nat
  | 0 => 0
  | k + 1 => if wV B s k ≤ 36028797018963967 then 32 * wV B s k + (nC (B (s + k)) - 96) else wV B s k
theorem kW : ∀ i, i < 15 → uV (bytS.getD i []) (lenS.getD i 0) = wK.getD i 0 ∧ wK.getD i 0 < 36028797018963968 ∧ 0 < wK.getD i 0 ∧ lenS.getD i 0 ≤ 7 := by decide
theorem kW2 : ∀ i, i < 15 → ∀ j, j < lenS.getD i 0 → 97 ≤ nC ((bytS.getD i []).getD j 0) ∧ nC ((bytS.getD i []).getD j 0) ≤ 122 ∧ (bytS.getD i []).getD j 0 = nI (nC ((bytS.getD i []).getD j 0)) := by decide
theorem word_iff {B : Nat → Int32} {s ℓ : Nat} {c : List Int32} (hc : ∀ j, j < ℓ → ∃ d, 1 ≤ d ∧ d ≤ 26 ∧ c.getD j 0 = nI (96 + d)) : ∀ k t, (∀ j, j < k → ∃ d, 1 ≤ d ∧ d ≤ 26 ∧ B (s + j) = nI (96 + d)) → t ≤ ℓ → uV c t < 36028797018963968 → (wV B s k = uV c t ↔ k = t ∧ ∀ j, j < k → B (s + j) = c.getD j 0) := by
  intro k
  induction k with
  | zero =>
    intro t hB ht hu
    cases t with
    | zero => exact ⟨fun _ => ⟨rfl, fun j hj => by omega⟩, fun _ => rfl⟩
    | succ t =>
      obtain ⟨d, d1, d2, d3⟩ := hc t (by omega)
      have e : uV c (t + 1) = 32 * uV c t + (nC (c.getD t 0) - 96) := rfl
      rw [d3, nC_n (by omega)] at e
      refine ⟨fun z => ?_, fun z => by omega⟩
      have z2 : 0 = uV c (t + 1) := z
      omega
  | succ k ih =>
    intro t hB ht hu
    obtain ⟨d, d1, d2, d3⟩ := hB k (by omega)
    have e : wV B s (k + 1) = if wV B s k ≤ 36028797018963967 then 32 * wV B s k + (nC (B (s + k)) - 96) else wV B s k := rfl
    rw [d3, nC_n (by omega)] at e
    cases t with
    | zero =>
      refine ⟨fun z => ?_, fun z => by omega⟩
      have z2 : wV B s (k + 1) = 0 := z
      rw [e] at z2
      split at z2 <;> omega
    | succ t =>
      obtain ⟨f, f1, f2, f3⟩ := hc t (by omega)
      have g : uV c (t + 1) = 32 * uV c t + (nC (c.getD t 0) - 96) := rfl
      rw [f3, nC_n (by omega)] at g
      have I := ih t (fun j hj => hB j (by omega)) (by omega) (by omega)
      rw [e, g]
      by_cases q : wV B s k ≤ 36028797018963967
      · rw [if_pos q]
        constructor
        · intro z
          have z1 : wV B s k = uV c t := by omega
          have z2 : d = f := by omega
          obtain ⟨i1, i2⟩ := I.mp z1
          refine ⟨by omega, fun j hj => ?_⟩
          by_cases y : j = k
          · rw [y, d3, i1, f3, z2]
          · exact i2 j (by omega)
        · rintro ⟨i1, i2⟩
          have z1 := I.mpr ⟨by omega, fun j hj => i2 j (by omega)⟩
          have z2 := i2 k (by omega)
          rw [d3, show k = t by omega, f3] at z2
          have := (nI_eq (by omega) (by omega)).mp z2
          omega
      · rw [if_neg q]
        constructor
        · intro z
          omega
        · rintro ⟨i1, i2⟩
          have z1 := I.mpr ⟨by omega, fun j hj => i2 j (by omega)⟩
          omega
theorem Lt_v {B : Nat → Int32} {T i : Nat} (a : Lt B T i = true) : ∃ d, 1 ≤ d ∧ d ≤ 26 ∧ B i = nI (96 + d) := by
  unfold Lt at a
  rw [Bool.and_eq_true] at a
  obtain ⟨k, k1, k2, e⟩ := wi_nat (a := 97) (b := 122) (by decide) a.2 (by decide)
  exact ⟨k - 96, by omega, by omega, by rw [e, show 96 + (k - 96) = k by omega]⟩
/-- the token from s to e is word i -/
def isW (B : Nat → Int32) (T s e i : Nat) : Bool := Lt B T s && (decide (e - s = lenS.getD i 0) && (List.range (lenS.getD i 0)).all fun j => decide (B (s + j) = (bytS.getD i []).getD j 0))
theorem isW_iff {B : Nat → Int32} {T s e i : Nat} (hi : i < 15) (l : ∀ j, s ≤ j → j < e → Lt B T j = true) (hs : Lt B T s = true) : wV B s (e - s) = wK.getD i 0 ↔ isW B T s e i = true := by
  obtain ⟨k1, k2, k3, k4⟩ := kW i hi
  have I := word_iff (B := B) (s := s) (ℓ := lenS.getD i 0) (c := bytS.getD i []) (fun j hj => by
    obtain ⟨q1, q2, q3⟩ := kW2 i hi j hj
    exact ⟨nC ((bytS.getD i []).getD j 0) - 96, by omega, by omega, by rw [show 96 + (nC ((bytS.getD i []).getD j 0) - 96) = nC ((bytS.getD i []).getD j 0) by omega]; exact q3⟩) (e - s) (lenS.getD i 0) (fun j hj => Lt_v (l (s + j) (by omega) (by omega))) (Nat.le_refl _) (by rw [k1]; exact k2)
  rw [k1] at I
  rw [I]
  unfold isW
  rw [hs, Bool.true_and, Bool.and_eq_true, List.all_eq_true]
  constructor
  · rintro ⟨a, b⟩
    refine ⟨decide_eq_true a, fun j hj => decide_eq_true (b j ?_)⟩
    have := List.mem_range.mp hj
    omega
  · rintro ⟨a, b⟩
    have a2 := of_decide_eq_true a
    exact ⟨a2, fun j hj => of_decide_eq_true (b j (List.mem_range.mpr (by omega)))⟩
theorem c_isWord {h : HI} {B : Nat → Int32} {T s e i : Nat} {w : Nat → Int32} (hi : i < 15) (hB : ∀ i, i < 120 → h 5 27 i = B i) (hT : T ≤ 120) (w2 : w 2 = knd B T s) (w3 : w 3 = nI s) (w5 : w 5 = nI e) (se : s ≤ e) (eT : e ≤ T) : FX7_isWord i (hPF h 5 26 w) = some (bI (isW B T s e i)) := by
  obtain ⟨k1, k2, k3, k4⟩ := kW i hi
  unfold FX7_isWord isW
  rw [hPF_s, w2, w3, w5, pk_sub se]
  cases q : Lt B T s with
  | false =>
    have : ¬ knd B T s = 1 := by
      unfold knd
      by_cases c : s < T
      · rw [if_pos c, if_neg (by rw [q]; decide)]
        split
        · decide
        · split <;> decide
      · rw [if_neg c]
        decide
    rw [if_neg this, Bool.false_and]
    rfl
  | true =>
    have : knd B T s = 1 := by
      unfold knd
      rw [if_pos (Lt_T q), if_pos q]
    rw [if_pos this, decide_eq_true hi, gd_1, Bool.true_and]
    by_cases c : e - s = lenS.getD i 0
    · rw [if_pos (by rw [c]), decide_eq_true c, Bool.true_and]
      have key : ∃ r, loopN (SX7_isWord_28 i (hPF h 5 26 w)) FU 0 = some r ∧ r = bI ((List.range (lenS.getD i 0)).all fun j => decide (B (s + j) = (bytS.getD i []).getD j 0)) := by
        refine gloop (f := SX7_isWord_28 i (hPF h 5 26 w)) (fun j (a : Int32) => a = nI j ∧ ∀ t, t < j → B (s + t) = (bytS.getD i []).getD t 0) _ (lenS.getD i 0) ?_ (k := FU) (by have := FU_lt; omega) ⟨rfl, fun t ht => by omega⟩
        rintro j a hj ⟨rfl, i1⟩
        unfold SX7_isWord_28
        dsimp only
        rw [decide_eq_true hi, gd_1, hPF_s, w3, nI_add]
        by_cases z : j = lenS.getD i 0
        · refine Or.inr ⟨1, by rw [if_pos (le_t (by omega) (by omega) (by omega))], ?_⟩
          have : ((List.range (lenS.getD i 0)).all fun j => decide (B (s + j) = (bytS.getD i []).getD j 0)) = true := by
            rw [List.all_eq_true]
            exact fun t ht => decide_eq_true (i1 t (by rw [z]; exact List.mem_range.mp ht))
          rw [this]
          rfl
        · rw [if_neg (le_f (by omega) (by omega) (by omega)), gd_ix (show s + j < 120 by omega) (by decide), Bool.true_and, gd_ix (show j < lenS.getD i 0 by omega) (by omega), nC_n (show s + j < 2 ^ 31 by omega), nC_n (show j < 2 ^ 31 by omega), hPF_n (by decide), hB _ (by omega)]
          by_cases y : B (s + j) = (bytS.getD i []).getD j 0
          · rw [if_pos y, nI_1]
            refine Or.inl ⟨by omega, _, rfl, rfl, fun t ht => ?_⟩
            by_cases x : t = j
            · rw [x]; exact y
            · exact i1 t (by omega)
          · rw [if_neg y]
            refine Or.inr ⟨_, rfl, ?_⟩
            have : ((List.range (lenS.getD i 0)).all fun j => decide (B (s + j) = (bytS.getD i []).getD j 0)) = false := by
              rw [List.all_eq_false]
              exact ⟨j, List.mem_range.mpr (by omega), by rw [decide_eq_false y]; decide⟩
            rw [this]
            rfl
      obtain ⟨r, r1, rfl⟩ := key
      rw [r1]
      rfl
    · rw [if_neg (nI_ne c (by omega) (by omega)), decide_eq_false c, Bool.false_and]
      rfl
theorem wV_le {B : Nat → Int32} {s k : Nat} (h : ∀ j, j < k → ∃ d, 1 ≤ d ∧ d ≤ 26 ∧ B (s + j) = nI (96 + d)) : wV B s k < 2 ^ 61 := by
  induction k with
  | zero => exact (show 0 < 2 ^ 61 by decide)
  | succ k ih =>
    have i1 := ih (fun j hj => h j (by omega))
    obtain ⟨d, d1, d2, d3⟩ := h k (by omega)
    show (if wV B s k ≤ 36028797018963967 then 32 * wV B s k + (nC (B (s + k)) - 96) else wV B s k) < 2 ^ 61
    rw [d3, nC_n (by omega)]
    split <;> omega
/-- the loop of the reference's word ends, whatever stands there -/
theorem r_wordAny {h : HI} {w : Nat → Int32} {s e : Nat} (w14 : w 14 = nI e) (he : e ≤ 120) (hs : s ≤ 120) : ∃ v, loopN (SX10_word_7 (hPF h 8 32 w)) FU (0, nI s) = some v := by
  have key : ∃ r, loopN (SX10_word_7 (hPF h 8 32 w)) FU (0, nI s) = some r ∧ True := by
    refine gloop (f := SX10_word_7 (hPF h 8 32 w)) (fun i (x : Int64 × Int32) => x.2 = nI (s + i) ∧ s + i ≤ 240) _ (e - s) ?_ (k := FU) (by have := FU_lt; omega) ⟨rfl, by omega⟩
    rintro i ⟨a, b⟩ hi ⟨rfl, i1⟩
    unfold SX10_word_7
    dsimp only
    rw [hPF_s, w14]
    by_cases c : e ≤ s + i
    · exact Or.inr ⟨a, by rw [if_pos (le_t c (by omega) (by omega))], trivial⟩
    · rw [if_neg (le_f c (by omega) (by omega)), gd_ix (show s + i < 120 by omega) (by decide), nm_eq, nI_1]
      by_cases d : lg_cmp a 36028797018963967 ≤ 0
      · rw [if_pos d]
        exact Or.inl ⟨by omega, _, rfl, rfl, by omega⟩
      · rw [if_neg d]
        exact Or.inl ⟨by omega, _, rfl, rfl, by omega⟩
  obtain ⟨r, k1, -⟩ := key
  exact ⟨r, k1⟩
theorem r_wordL {h : HI} {B : Nat → Int32} {T s e : Nat} {w : Nat → Int32} (hB : ∀ i, i < 120 → h 8 39 i = B i) (w14 : w 14 = nI e) (eT : e ≤ 120) (l : ∀ j, s ≤ j → j < e → Lt B T j = true) (se : s ≤ e) : loopN (SX10_word_7 (hPF h 8 32 w)) FU (0, nI s) = some (lN (wV B s (e - s))) := by
  have hd : ∀ k, s + k ≤ e → ∀ j, j < k → ∃ d, 1 ≤ d ∧ d ≤ 26 ∧ B (s + j) = nI (96 + d) := fun k hk j hj => Lt_v (l (s + j) (by omega) (by omega))
  refine for_loop (f := SX10_word_7 (hPF h 8 32 w)) (fun i => (lN (wV B s i), nI (s + i))) (e - s) _ ?_ ?_ FU (by have := FU_lt; omega)
  · intro i hi
    unfold SX10_word_7
    dsimp only
    have b1 := wV_le (hd i (by omega))
    obtain ⟨d, d1, d2, d3⟩ := hd (i + 1) (by omega) i (by omega)
    have ev : wV B s (i + 1) = if wV B s i ≤ 36028797018963967 then 32 * wV B s i + d else wV B s i := by
      show (if wV B s i ≤ 36028797018963967 then 32 * wV B s i + (nC (B (s + i)) - 96) else wV B s i) = _
      rw [d3, nC_n (by omega), Nat.add_sub_cancel_left]
    rw [hPF_s, w14, if_neg (le_f (by omega) (by omega) (by omega)), gd_ix (show s + i < 120 by omega) (by decide), nC_n (by omega), hPF_n (by decide), hB _ (by omega), d3, nm_eq, nI_1, show (96 : Int32) = nI 96 from rfl, pk_sub (by omega), Nat.add_sub_cancel_left, nI_l (by omega), show (32 : Int64) = lN 32 from rfl, lN_mul, lN_add, ev]
    have hq : lg_cmp (lN (wV B s i)) 36028797018963967 ≤ 0 ↔ wV B s i ≤ 36028797018963967 := (lg_cmp_le _ _).trans (show lN (wV B s i) ≤ 36028797018963967 ↔ _ from pk_lLE (b := 36028797018963967) (by omega) (by decide))
    by_cases q : wV B s i ≤ 36028797018963967
    · rw [if_pos q, if_pos (hq.mpr q)]
      rfl
    · rw [if_neg q, if_neg (fun z => q (hq.mp z))]
      rfl
  · unfold SX10_word_7
    dsimp only
    rw [hPF_s, w14, if_pos (le_t (by omega) (by omega) (by omega))]
