-- the tape's tokens: the reference
def tpA (B : Nat → Int32) (T i : Nat) : Int32 := if i < T then B i else -1
theorem r_ltb (b : Int32) : FX10_isLetter b = some (bI (wi b 97 122)) := by
  unfold FX10_isLetter
  rw [f_in (a := 97) (b := 122) 97 122 (by decide) (by decide), Option.bind_some, gd_B]
theorem r_dgb (b : Int32) : FX10_isDigit b = some (bI (wi b 48 57)) := by
  unfold FX10_isDigit
  rw [f_in (a := 48) (b := 57) 48 57 (by decide) (by decide), Option.bind_some, gd_B]
theorem tpA_lt (B : Nat → Int32) (T i : Nat) : wi (tpA B T i) 97 122 = Lt B T i := by
  unfold tpA Lt
  by_cases c : i < T
  · rw [if_pos c, decide_eq_true c, Bool.true_and]
  · rw [if_neg c, decide_eq_false c, Bool.false_and]
    decide
theorem tpA_dg (B : Nat → Int32) (T i : Nat) : wi (tpA B T i) 48 57 = Dg B T i := by
  unfold tpA Dg
  by_cases c : i < T
  · rw [if_pos c, decide_eq_true c, Bool.true_and]
  · rw [if_neg c, decide_eq_false c, Bool.false_and]
    decide
theorem upd_upd {w : Nat → Int32} {k : Nat} {x y : Int32} : upd (upd w k x) k y = upd w k y := by
  funext j
  by_cases f : j = k
  · rw [f, up_s, up_s]
  · rw [up_n f, up_n f, up_n f]
theorem upd_self {w : Nat → Int32} {k : Nat} {x : Int32} (h : w k = x) : upd w k x = w := by
  funext j
  by_cases f : j = k
  · rw [f, up_s, h]
  · rw [up_n f]
section Ref
variable {h : HI} {B : Nat → Int32} {T : Nat}
theorem r_byte {i : Nat} {w : Nat → Int32} (hB : ∀ i, i < 120 → h 8 39 i = B i) (hT : T ≤ 120) (w12 : w 12 = nI T) (hi : i ≤ T) : FX10_byteAt (nI i) (hPF h 8 32 w) = some (tpA B T i) := by
  unfold FX10_byteAt tpA
  rw [hPF_s, w12]
  by_cases c : i < T
  · rw [if_neg (le_f (by omega) (by omega) (by omega)), if_pos c, gd_ix (show i < 120 by omega) (by decide), nC_n (by omega), hPF_n (by decide), hB i (by omega)]
  · rw [if_pos (le_t (by omega) (by omega) (by omega)), if_neg c]
theorem r_skip8 {e : Nat} {w : Nat → Int32} (hB : ∀ i, i < 120 → h 8 39 i = B i) (hT : T ≤ 120) (w12 : w 12 = nI T) (w13 : w 13 = nI e) (he : e ≤ T) : ∃ s, loopN SX10_token_8 FU (hPF h 8 32 w) = some (hPF h 8 32 (upd w 13 (nI s))) ∧ Sk B T e s := by
  have key : ∃ r, loopN SX10_token_8 FU (hPF h 8 32 w) = some r ∧ (fun r : HI => ∃ s, r = hPF h 8 32 (upd w 13 (nI s)) ∧ Sk B T e s) r := by
    refine gloop (f := SX10_token_8) (fun i (x : HI) => x = hPF h 8 32 (upd w 13 (nI (e + i))) ∧ e + i ≤ T ∧ ∀ j, e ≤ j → j < e + i → B j = 32) _ (T - e) ?_ (k := FU) (by have := FU_lt; omega) ⟨by rw [Nat.add_zero, upd_self w13], by omega, fun j h1 h2 => by omega⟩
    rintro i x hi ⟨rfl, i1, i2⟩
    unfold SX10_token_8
    dsimp only
    rw [hPF_s, up_s, r_byte hB hT (by rw [up_n (by decide)]; exact w12) i1, Option.bind_some]
    unfold tpA
    by_cases c : e + i = T
    · rw [if_neg (show ¬ e + i < T by omega), if_neg (by decide)]
      exact Or.inr ⟨_, rfl, e + i, rfl, by omega, i1, i2, fun z => by omega⟩
    · rw [if_pos (show e + i < T by omega)]
      by_cases d : B (e + i) = 32
      · rw [if_pos d, nm_eq, pf_p1, nI_1, upd_upd]
        refine Or.inl ⟨by omega, _, rfl, rfl, by omega, fun j h1 h2 => ?_⟩
        by_cases f : j = e + i
        · rw [f]; exact d
        · exact i2 j h1 (by omega)
      · rw [if_neg d]
        exact Or.inr ⟨_, rfl, e + i, rfl, by omega, i1, i2, fun _ => d⟩
  obtain ⟨r, k1, s, rfl, k2⟩ := key
  exact ⟨s, k1, k2⟩
def cnd (B : Nat → Int32) (T : Nat) (a d : Bool) (j : Nat) : Bool := (a && Lt B T j) || (d && Dg B T j)
theorem r_step86 {j : Nat} {a d : Bool} {w : Nat → Int32} (hB : ∀ i, i < 120 → h 8 39 i = B i) (hT : T ≤ 120) (w12 : w 12 = nI T) (w14 : w 14 = nI j) (hj : j ≤ T) : SX10_token_86 (bI a) (bI d) (hPF h 8 32 w) = if cnd B T a d j = true then some (Sum.inl (hPF h 8 32 (upd w 14 (nI (j + 1))))) else some (Sum.inr (hPF h 8 32 w)) := by
  unfold SX10_token_86 JX10_token_104 cnd
  dsimp only
  rw [bI_if, bI_if, hPF_s, w14, r_byte hB hT w12 hj, Option.bind_some, Option.bind_some, r_ltb, r_dgb, Option.bind_some, Option.bind_some, tpA_lt, tpA_dg, bI_if, bI_if, nm_eq, pf_p1, nI_1]
  cases a <;> cases d <;> cases Lt B T j <;> cases Dg B T j <;> rfl
theorem r_run86 {p : Nat} {a d : Bool} {w : Nat → Int32} (hB : ∀ i, i < 120 → h 8 39 i = B i) (hT : T ≤ 120) (w12 : w 12 = nI T) (w14 : w 14 = nI p) (hp : p ≤ T) : ∃ e, loopN (SX10_token_86 (bI a) (bI d)) FU (hPF h 8 32 w) = some (hPF h 8 32 (upd w 14 (nI e))) ∧ p ≤ e ∧ e ≤ T ∧ (∀ j, p ≤ j → j < e → cnd B T a d j = true) ∧ cnd B T a d e = false := by
  have key : ∃ r, loopN (SX10_token_86 (bI a) (bI d)) FU (hPF h 8 32 w) = some r ∧ (fun r : HI => ∃ e, r = hPF h 8 32 (upd w 14 (nI e)) ∧ p ≤ e ∧ e ≤ T ∧ (∀ j, p ≤ j → j < e → cnd B T a d j = true) ∧ cnd B T a d e = false) r := by
    refine gloop (f := SX10_token_86 (bI a) (bI d)) (fun i (x : HI) => x = hPF h 8 32 (upd w 14 (nI (p + i))) ∧ p + i ≤ T ∧ ∀ j, p ≤ j → j < p + i → cnd B T a d j = true) _ (T - p) ?_ (k := FU) (by have := FU_lt; omega) ⟨by rw [Nat.add_zero, upd_self w14], by omega, fun j h1 h2 => by omega⟩
    rintro i x hi ⟨rfl, i1, i2⟩
    rw [r_step86 hB hT (by rw [up_n (by decide)]; exact w12) up_s i1]
    cases c : cnd B T a d (p + i) with
    | false =>
      rw [if_neg (by decide)]
      exact Or.inr ⟨_, rfl, p + i, rfl, by omega, i1, i2, c⟩
    | true =>
      have lt : p + i < T := by
        unfold cnd at c
        rw [Bool.or_eq_true, Bool.and_eq_true, Bool.and_eq_true] at c
        rcases c with ⟨-, c⟩ | ⟨-, c⟩
        · exact Lt_T c
        · exact Dg_T c
      rw [if_pos rfl, upd_upd]
      refine Or.inl ⟨by omega, _, rfl, rfl, by omega, fun j h1 h2 => ?_⟩
      by_cases f : j = p + i
      · rw [f]; exact c
      · exact i2 j h1 (by omega)
  obtain ⟨r, k1, e, rfl, k2⟩ := key
  exact ⟨e, k1, k2⟩
theorem r_tok {e : Nat} {w : Nat → Int32} (hB : ∀ i, i < 120 → h 8 39 i = B i) (hT : T ≤ 120) (w12 : w 12 = nI T) (w14 : w 14 = nI e) (he : e ≤ T) : ∃ s e' w', FX10_token (hPF h 8 32 w) = some (hPF h 8 32 w') ∧ Sk B T e s ∧ En B T s e' ∧ w' 13 = nI s ∧ w' 14 = nI e' ∧ ∀ j, j ≠ 13 → j ≠ 14 → w' j = w j := by
  unfold FX10_token
  rw [nm_eq, hPF_s, w14, pf_p1]
  obtain ⟨s, s1, s2⟩ := r_skip8 (w := upd w 13 (nI e)) hB hT (by rw [up_n (by decide)]; exact w12) up_s he
  rw [s1, Option.bind_some, upd_upd]
  have sT : s ≤ T := s2.2.1
  have v12 : upd w 13 (nI s) 12 = nI T := by rw [up_n (by decide)]; exact w12
  rw [hPF_s, up_s, r_byte hB hT v12 sT, Option.bind_some, r_ltb, Option.bind_some, Option.bind_some, r_dgb, Option.bind_some, tpA_lt, tpA_dg, v12]
  by_cases c : s < T
  · rw [if_neg (le_f (by omega) (by omega) (by omega)), nm_eq, pf_p1, nI_1]
    obtain ⟨e', u1, u2, u3, u4, u5⟩ := r_run86 (p := s + 1) (a := Lt B T s) (d := Dg B T s) (w := upd (upd w 13 (nI s)) 14 (nI (s + 1))) hB hT (by rw [up_n (by decide)]; exact v12) up_s (by omega)
    rw [u1, Option.bind_some, upd_upd]
    refine ⟨s, e', _, rfl, s2, Or.inr ⟨c, by omega, u3, ?_⟩, by rw [up_n (by decide), up_s], up_s, fun j e1 e2 => by rw [up_n e2, up_n e1]⟩
    cases q : Lt B T s with
    | true =>
      have dq : Dg B T s = false := by
        cases z : Dg B T s with
        | false => rfl
        | true => exact (LD q z).elim
      rw [q, dq] at u4 u5
      unfold cnd at u4 u5
      refine Or.inl ⟨rfl, fun j h1 h2 => ?_, ?_⟩
      · by_cases f : j = s
        · rw [f]; exact q
        · have := u4 j (by omega) h2
          simpa using this
      · simpa using u5
    | false =>
      cases dq : Dg B T s with
      | true =>
        rw [q, dq] at u4 u5
        unfold cnd at u4 u5
        refine Or.inr (Or.inl ⟨rfl, fun j h1 h2 => ?_, ?_⟩)
        · by_cases f : j = s
          · rw [f]; exact dq
          · have := u4 j (by omega) h2
            simpa using this
        · simpa using u5
      | false =>
        rw [q, dq] at u4
        refine Or.inr (Or.inr ⟨rfl, rfl, ?_⟩)
        by_cases f : s + 1 < e'
        · have := u4 (s + 1) (by omega) f
          unfold cnd at this
          exact absurd this (by simp)
        · omega
  · have sT2 : s = T := by omega
    rw [if_pos (le_t (by omega) (by omega) (by omega)), nm_eq, pf_p1]
    obtain ⟨e', u1, u2, u3, u4, u5⟩ := r_run86 (p := s) (a := Lt B T s) (d := Dg B T s) (w := upd (upd w 13 (nI s)) 14 (nI s)) hB hT (by rw [up_n (by decide)]; exact v12) up_s (by omega)
    rw [u1, Option.bind_some, upd_upd]
    exact ⟨s, e', _, rfl, s2, Or.inl ⟨sT2, by omega⟩, by rw [up_n (by decide), up_s], up_s, fun j e1 e2 => by rw [up_n e2, up_n e1]⟩
end Ref
