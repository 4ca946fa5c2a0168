-- BITS (the first family of the kit's laws/BITS.to-paste, then sets)
def bt (x : Int32) (i : Nat) : Bool := x.toBitVec.getLsbD i
theorem b_ext {x y : Int32} (h : ∀ i, i < 32 → bt x i = bt y i) : x = y := Int32.toBitVec_inj.mp (BitVec.eq_of_getLsbD_eq (fun i hi => h i hi))
theorem b_or (x y : Int32) (i : Nat) : bt (x ||| y) i = (bt x i || bt y i) := by unfold bt; rw [Int32.toBitVec_or, BitVec.getLsbD_or]
theorem b_and (x y : Int32) (i : Nat) : bt (x &&& y) i = (bt x i && bt y i) := by unfold bt; rw [Int32.toBitVec_and, BitVec.getLsbD_and]
theorem b_xor (x y : Int32) (i : Nat) : bt (x ^^^ y) i = (bt x i ^^ bt y i) := by unfold bt; rw [Int32.toBitVec_xor, BitVec.getLsbD_xor]
theorem b_big {x : Int32} {i : Nat} (h : 32 ≤ i) : bt x i = false := BitVec.getLsbD_of_ge _ _ h
theorem b_m1 : ∀ i, i < 32 → bt (-1) i = true := by decide +kernel
theorem b_0 (i : Nat) : bt 0 i = false := BitVec.getLsbD_zero
theorem s_l : ∀ n, n < 32 → ((nI n &&& 31).toBitVec.smod 32).toNat = n := by decide +kernel
theorem s_u : ∀ n, n < 32 → (((nI n).toUInt32 &&& Int32.toUInt32 31).toBitVec % 32).toNat = n := by decide +kernel
theorem b_shl (n : Nat) (hn : n < 32) (x : Int32) {i : Nat} (hi : i < 32) : bt (x <<< (nI n &&& 31)) i = (decide (n ≤ i) && bt x (i - n)) := by
  unfold bt
  rw [Int32.toBitVec_shiftLeft]
  show (x.toBitVec <<< ((nI n &&& 31).toBitVec.smod 32).toNat).getLsbD i = _
  rw [s_l n hn, BitVec.getLsbD_shiftLeft]
  rcases Nat.lt_or_ge i n with h | h
  · simp [h, Nat.not_le.mpr h]
  · simp [hi, h, Nat.not_lt.mpr h]
theorem b_ushr (n : Nat) (hn : n < 32) (x : Int32) (i : Nat) : bt ((x.toUInt32 >>> ((nI n).toUInt32 &&& Int32.toUInt32 31)).toInt32) i = bt x (n + i) := by
  show (x.toUInt32 >>> ((nI n).toUInt32 &&& Int32.toUInt32 31)).toBitVec.getLsbD i = x.toUInt32.toBitVec.getLsbD (n + i)
  rw [UInt32.toBitVec_shiftRight]
  show (x.toUInt32.toBitVec >>> (((nI n).toUInt32 &&& Int32.toUInt32 31).toBitVec % 32).toNat).getLsbD i = _
  rw [s_u n hn, BitVec.getLsbD_ushiftRight]
theorem b_sshr (n : Nat) (hn : n < 32) (x : Int32) {i : Nat} (hi : i < 32) : bt (x >>> (nI n &&& 31)) i = if n + i < 32 then bt x (n + i) else bt x 31 := by
  unfold bt
  rw [Int32.toBitVec_shiftRight]
  show (x.toBitVec.sshiftRight ((nI n &&& 31).toBitVec.smod 32).toNat).getLsbD i = _
  rw [s_l n hn, BitVec.getLsbD_sshiftRight, BitVec.msb_eq_getLsbD_last]
  simp [hi]
theorem b_1 (i : Nat) : bt 1 i = decide (i = 0) := by
  rcases Nat.lt_or_ge i 32 with h | h
  · exact (by decide +kernel : ∀ i, i < 32 → bt 1 i = decide (i = 0)) i h
  · rw [b_big h, decide_eq_false (by omega)]
theorem and_0 (x y : Int32) : x &&& y = 0 ↔ ∀ i, i < 32 → (bt x i && bt y i) = false := by
  constructor
  · intro h i _
    rw [← b_and, h, b_0]
  · intro h
    apply b_ext
    intro i hi
    rw [b_and, h i hi, b_0]
theorem bs_bt (set : Int32) {p : Nat} (hp : p < 32) : bs set p = bt set p := by
  unfold bs
  have e : ((set >>> (nI p &&& 31)) &&& 1 = 0) ↔ bt set p = false := by
    rw [and_0]
    constructor
    · intro h
      have h0 := h 0 (by decide)
      rw [b_1, b_sshr p hp set (by decide : 0 < 32), if_pos (by omega)] at h0
      simpa using h0
    · intro h i hi
      rw [b_1]
      by_cases z : i = 0
      · subst z
        rw [b_sshr p hp set (by decide : 0 < 32), if_pos (by omega)]
        simpa using h
      · simp [z]
  by_cases h : (set >>> (nI p &&& 31)) &&& 1 = 0
  · rw [e.mp h]; simp [h]
  · have := fun z => h (e.mpr z)
    simp [h]
    exact (Bool.not_eq_false _).mp this
theorem b_one {p i : Nat} (hp : p < 32) (hi : i < 32) : bt ((1 : Int32) <<< (nI p &&& 31)) i = decide (i = p) := by
  rw [b_shl p hp 1 hi, b_1]
  by_cases h : i = p
  · subst h; simp
  · by_cases z : p ≤ i
    · simp [h, z]; omega
    · simp [h, z]
theorem bs_or (set : Int32) {p q : Nat} (hp : p < 32) (hq : q < 32) : bs (set ||| ((1 : Int32) <<< (nI p &&& 31))) q = (bs set q || decide (q = p)) := by
  rw [bs_bt _ hq, bs_bt _ hq, b_or, b_one hp hq]
theorem bs_rm (set : Int32) {p q : Nat} (hp : p < 32) (hq : q < 32) : bs (set &&& (((1 : Int32) <<< (nI p &&& 31)) ^^^ (-1))) q = (bs set q && !decide (q = p)) := by
  rw [bs_bt _ hq, bs_bt _ hq, b_and, b_xor, b_one hp hq, b_m1 q hq]
  cases bt set q <;> simp
theorem bs_0 {q : Nat} (hq : q < 32) : bs 0 q = false := by rw [bs_bt _ hq, b_0]
theorem set_ext {x y : Int32} (h : ∀ p, p < 32 → bs x p = bs y p) : x = y := b_ext (fun i hi => by rw [← bs_bt x hi, ← bs_bt y hi]; exact h i hi)
theorem p2 {n : Nat} (hn : n ≤ 12) : (1 : Int32) <<< (nI n &&& 31) = nI (2 ^ n) := by
  have key : ∀ n : Fin 13, (1 : Int32) <<< (nI n.val &&& 31) = nI (2 ^ n.val) := by decide +kernel
  exact key ⟨n, by omega⟩
theorem p2_le {n : Nat} (hn : n ≤ 12) : 2 ^ n ≤ 4096 := Nat.pow_le_pow_right (by decide) hn
/-- a mask of those of whom K says so -/
def mkS (K : Nat → Bool) (n : Nat) : Int32 := foldN (fun p a => a ||| (if K p = true then (1 : Int32) <<< (nI p &&& 31) else 0)) n 0
theorem mkS_s (K : Nat → Bool) (n : Nat) : mkS K (n + 1) = mkS K n ||| (if K n = true then (1 : Int32) <<< (nI n &&& 31) else 0) := rfl
theorem mkS_b (K : Nat → Bool) {n i : Nat} (hn : n ≤ 32) (hi : i < 32) : bs (mkS K n) i = (decide (i < n) && K i) := by
  induction n with
  | zero => rw [show mkS K 0 = 0 from rfl, bs_0 hi]; simp
  | succ n ih =>
    rw [mkS_s]
    cases h : K n with
    | true =>
      rw [if_pos rfl, bs_or _ (by omega) hi, ih (by omega)]
      by_cases z : i = n
      · subst z; simp [h]
      · by_cases y : i < n
        · simp [z, y, show i < n + 1 by omega]
        · simp [z, y, show ¬ i < n + 1 by omega]
    | false =>
      have e0 : mkS K n ||| (if false = true then (1 : Int32) <<< (nI n &&& 31) else 0) = mkS K n := set_ext (fun p hp => by rw [bs_bt _ hp, bs_bt _ hp, b_or]; simp [b_0])
      rw [e0, ih (by omega)]
      by_cases z : i = n
      · subst z; simp [h]
      · by_cases y : i < n
        · simp [y, show i < n + 1 by omega]
        · simp [y, show ¬ i < n + 1 by omega]
theorem mask0 (K : Nat → Bool) {n : Nat} (hn : n ≤ 12) (set : Int32) : set &&& mkS K n = 0 ↔ ((List.range n).any fun p => bs set p && K p) = false := by
  rw [and_0, List.any_eq_false]
  constructor
  · intro h p hp
    rw [List.mem_range] at hp
    have := h p (by omega)
    rw [← bs_bt set (by omega), ← bs_bt _ (by omega), mkS_b K (by omega) (by omega)] at this
    simp [hp] at this
    simpa using this
  · intro h i hi
    rw [← bs_bt set hi, ← bs_bt _ hi, mkS_b K (by omega) hi]
    by_cases z : i < n
    · have := h i (List.mem_range.mpr z)
      simp [z]
      simpa using this
    · simp [z]
