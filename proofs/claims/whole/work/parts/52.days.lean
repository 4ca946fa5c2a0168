-- the night; a day; days
def nightV (F : Nat → Int32) (u : Int32) (p : Nat) : Int32 := if bs u p = true then (if hd F p + 10 < 100 then hd F p + 10 else 100) else (if 0 < hd F p - forS F p then hd F p - forS F p else 0)
def nightS (F : Nat → Int32) (u : Int32) (k : Nat) : Nat → Int32 := foldN (fun p G => upd G (6 + 6 * p + 4) (nightV G u p)) k F
theorem nightS_s (F : Nat → Int32) (u : Int32) (k : Nat) : nightS F u (k + 1) = upd (nightS F u k) (6 + 6 * k + 4) (nightV (nightS F u k) u k) := rfl
theorem nightV_rg {F : Nat → Int32} {u : Int32} {p : Nat} (h : rg (hd F p) 0 100) : rg (nightV F u p) 0 100 := by
  have hf := for_rg h
  obtain ⟨a, -, ha, ea⟩ := h
  obtain ⟨f, -, hf, ef⟩ := hf
  unfold nightV
  split
  · split
    · next c =>
      rw [ea, show (10 : Int32) = nI 10 from rfl, nI_add, show (100 : Int32) = nI 100 from rfl, nI_ltI (by omega) (by omega)] at c
      rw [ea, show (10 : Int32) = nI 10 from rfl, nI_add]
      exact ⟨a + 10, by omega, by omega, rfl⟩
    · exact ⟨100, by decide, by decide, rfl⟩
  · split
    · next c =>
      rw [ea, ef] at c ⊢
      rw [Int32.lt_iff_toInt_lt, pk_sub_toInt (by omega) (by omega), show (0 : Int32).toInt = 0 from rfl] at c
      exact ⟨a - f, by omega, by omega, pk_sub (by omega)⟩
    · exact ⟨0, by decide, by decide, rfl⟩
theorem nightS_inv {F : Nat → Int32} {u : Int32} {n : Nat} (hn : n ≤ 12) (hh : ∀ p, p < n → rg (hd F p) 0 100) (k : Nat) (hk : k ≤ n) : Sim F (nightS F u k) ∧ (∀ p, p < n → rg (hd (nightS F u k) p) 0 100) ∧ (∀ i, 3 ≤ i → i < 6 → nightS F u k i = F i) ∧ (∀ i, 138 ≤ i → nightS F u k i = F i) ∧ (∀ p, p < 12 → us (nightS F u k) p = us F p) := by
  unfold nightS
  refine foldN_inv (fun i (G : Nat → Int32) => Sim F G ∧ (∀ p, p < n → rg (hd G p) 0 100) ∧ (∀ i, 3 ≤ i → i < 6 → G i = F i) ∧ (∀ i, 138 ≤ i → G i = F i) ∧ (∀ p, p < 12 → us G p = us F p)) ⟨Sim.rf F, hh, fun _ _ _ => rfl, fun _ _ => rfl, fun _ _ => rfl⟩ (fun i G hi hG => ?_)
  obtain ⟨h1, h2, h3, h4, h5⟩ := hG
  refine ⟨h1.tr (Sim.up (Or.inr (Or.inl ⟨i, 4, by omega, by decide, by decide, rfl⟩))), fun p hp => ?_, fun j a b => ?_, fun j a => ?_, fun p hp => ?_⟩
  · show rg (upd G (6 + 6 * i + 4) _ (6 + 6 * p + 4)) 0 100
    by_cases e : p = i
    · subst e
      rw [up_s]
      exact nightV_rg (h2 p hp)
    · rw [up_n (by omega)]
      exact h2 p hp
  · rw [up_n (by omega)]; exact h3 j a b
  · rw [up_n (by omega)]; exact h4 j a
  · show upd G (6 + 6 * i + 4) _ (6 + 6 * p + 5) = _
    rw [up_n (by omega)]
    exact h5 p hp
theorem c_night {g : Nat} {h : HI} {F : Nat → Int32} {n : Nat} {u : Int32} (e : vw (h g) = F) (hn : F 0 = nI n) (hn2 : n ≤ 12) (hh : ∀ p, p < n → rg (hd F p) 0 100) : ∃ h', FX5_passNight g u h = some h' ∧ BkTo h g (nightS F u n) h' := by
  have key : ∃ r, loopN (SX5_passNight_2 g u) FU (0, h) = some r ∧ (fun r : HI => BkTo h g (nightS F u n) r) r := by
    refine gloop (f := SX5_passNight_2 g u) (fun i (s : Int32 × HI) => s.1 = nI i ∧ BkTo h g (nightS F u i) s.2) _ n ?_ (k := FU) (by have := FU_lt; omega) (s0 := (0, h)) ⟨rfl, by rw [show nightS F u 0 = vw (h g) from e.symm]; exact BkTo.rf⟩
    rintro i ⟨a, h1⟩ hi ⟨rfl, i1⟩
    dsimp only at i1
    obtain ⟨s1, s2, s3, s4, s5⟩ := nightS_inv (u := u) hn2 hh i hi
    have ei := i1.at
    obtain ⟨f0, -⟩ := bk0 ei
    rw [s1.1 0 (by decide), hn] at f0
    by_cases z : i = n
    · refine Or.inr ⟨h1, ?_, by rw [← z]; exact i1⟩
      simp only [SX5_passNight_2, f0, z, Int32.le_refl, if_true]
    · have hi2 : i < n := by omega
      refine Or.inl ⟨hi2, ?_⟩
      have hhd : h1 g 6 i = hd (nightS F u i) i := by rw [← ei, vhd (by omega)]
      have hf := c_forgets (g := g) (h := h1) (p := i) (by omega) (by rw [ei]; exact s2 i hi2)
      rw [ei] at hf
      have pu := fun x => bk_p (h := h1) (g := g) (p := i) (k := 4) (x := x) (by omega) (by decide)
      rw [ei] at pu
      simp only [SX5_passNight_2, f0, nI_le12 hn2 (show i ≤ 12 by omega), f_isIn, Option.bind_some, bI_if, gd_ix (show i < 12 by omega) (by decide), nC_n (show i < 2 ^ 31 by omega), hf, hhd, nm_eq, nI_1, nightS_s, nightV]
      rw [if_neg (by omega)]
      cases hb : bs u i with
      | true =>
        simp only [if_true]
        exact ⟨_, rfl, rfl, i1.tr (pu _)⟩
      | false =>
        simp only [if_false, Bool.false_eq_true]
        exact ⟨_, rfl, rfl, i1.tr (pu _)⟩
  obtain ⟨h', k1, k2⟩ := key
  exact ⟨h', by simp only [FX5_passNight, k1, Option.bind_some], k2⟩
theorem clamp_ref {F : Nat → Int32} {u : Int32} {p : Nat} (h : rg (hd F p) 0 100) (x : Int32) (hx : x = if bs u p = true then hd F p + 10 else hd F p - forS F p) : (if 0 ≤ x then (if x ≤ 100 then x else 100) else 0) = nightV F u p := by
  have hf := for_rg h
  obtain ⟨a, -, ha, ea⟩ := h
  obtain ⟨f, -, hf, ef⟩ := hf
  unfold nightV
  rw [ea, ef] at hx ⊢
  by_cases c : bs u p = true
  · rw [if_pos c]
    rw [if_pos c, show (10 : Int32) = nI 10 from rfl, nI_add] at hx
    rw [hx, if_pos (nI_pos' (by omega)), show (10 : Int32) = nI 10 from rfl, nI_add, show (100 : Int32) = nI 100 from rfl]
    simp only [nI_leI (show a + 10 < 2 ^ 31 by omega) (show 100 < 2 ^ 31 by decide), nI_ltI (show a + 10 < 2 ^ 31 by omega) (show 100 < 2 ^ 31 by decide)]
    by_cases c1 : a + 10 < 100
    · rw [if_pos (by omega), if_pos c1]
    · rw [if_neg c1]
      by_cases c2 : a + 10 ≤ 100
      · rw [if_pos c2, show a + 10 = 100 by omega]
      · rw [if_neg c2]
  · rw [if_neg c]
    rw [if_neg c] at hx
    by_cases c1 : f < a
    · have e1 : nI a - nI f = nI (a - f) := pk_sub (by omega)
      rw [hx, e1, if_pos (nI_pos' (by omega)), show (100 : Int32) = nI 100 from rfl, if_pos ((nI_leI (by omega) (by omega)).mpr (by omega)), if_pos (show (0 : Int32) < nI (a - f) from nI_lt (a := 0) (b := a - f) (by omega) (by omega))]
    · by_cases c2 : a = f
      · subst c2
        rw [hx, Int32.sub_self, if_pos (by decide), if_pos (by decide), if_neg (by decide)]
      · have e1 : nI a - nI f < 0 := pk_sneg (by omega) (by omega)
        rw [hx, if_neg (Int32.not_le.mpr e1), if_neg (fun z => Int32.lt_irrefl (Int32.lt_trans z e1))]
theorem r_night {h : HI} {F : Nat → Int32} {n : Nat} {u : Int32} (e : tk (h 8 33) = F) (hn : F 0 = nI n) (hn2 : n ≤ 12) (hh : ∀ p, p < n → rg (hd F p) 0 100) : ∃ h', loopN (SX10_day_115 u) FU (0, h) = some h' ∧ RkTo h (nightS F u n) h' := by
  refine gloop (f := SX10_day_115 u) (fun i (s : Int32 × HI) => s.1 = nI i ∧ RkTo h (nightS F u i) s.2) _ n ?_ (k := FU) (by have := FU_lt; omega) (s0 := (0, h)) ⟨rfl, by rw [show nightS F u 0 = tk (h 8 33) from e.symm]; exact RkTo.rf⟩
  rintro i ⟨a, h1⟩ hi ⟨rfl, i1⟩
  dsimp only at i1
  obtain ⟨s1, s2, s3, s4, s5⟩ := nightS_inv (u := u) hn2 hh i hi
  have ei := i1.at
  have f0 : h1 8 33 0 = nI n := by rw [rk0 ei (by decide), s1.1 0 (by decide), hn]
  by_cases z : i = n
  · refine Or.inr ⟨h1, ?_, by rw [← z]; exact i1⟩
    simp only [SX10_day_115, f0, z, Int32.le_refl, if_true]
  · have hi2 : i < n := by omega
    refine Or.inl ⟨hi2, ?_⟩
    have h4 := its4 (h := h1) (show i < 12 by omega)
    have hf := r_forgets (h := h1) (show i < 12 by omega)
    rw [ei] at h4 hf
    have ea := f_at i 4
    rw [show nI 4 = (4 : Int32) from rfl] at ea
    have pu := fun x => rk_u (h := h1) (i := 6 + 6 * i + 4) (x := x) (by omega)
    rw [ei] at pu
    have J : ∀ x : Int32, x = (if bs u i = true then hd (nightS F u i) i + 10 else hd (nightS F u i) i - forS (nightS F u i) i) → ∃ h', JX10_day_163 u (nI i) x h1 = some (Sum.inl (nI (i + 1), h')) ∧ RkTo h1 (nightS F u (i + 1)) h' := by
      intro x hx
      have cl := clamp_ref (s2 i hi2) x hx
      rw [nightS_s, ← cl]
      simp only [JX10_day_163, ea, Option.bind_some, gd_ix (show 6 + 6 * i + 4 < 150 by omega) (by decide), nC_n (show 6 + 6 * i + 4 < 2 ^ 31 by omega), nm_eq, nI_1]
      by_cases c1 : 0 ≤ x
      · by_cases c2 : x ≤ 100
        · simp only [c1, c2, if_true]
          exact ⟨_, rfl, pu _⟩
        · simp only [c1, c2, if_true, if_false]
          exact ⟨_, rfl, pu _⟩
      · simp only [c1, if_false]
        exact ⟨_, rfl, pu _⟩
    have es : SX10_day_115 u (nI i, h1) = if bs u i = true then JX10_day_163 u (nI i) (hd (nightS F u i) i + 10) h1 else JX10_day_163 u (nI i) (hd (nightS F u i) i - forS (nightS F u i) i) h1 := by
      unfold SX10_day_115
      dsimp only
      rw [f0, if_neg (show ¬ nI n ≤ nI i by rw [nI_le12 hn2 (by omega)]; omega), f_has, Option.bind_some, bI_if, h4, Option.bind_some, hf, Option.bind_some, Option.bind_some]
    rw [es]
    by_cases hb : bs u i = true
    · obtain ⟨h', j1, j2⟩ := J (hd (nightS F u i) i + 10) (if_pos hb).symm
      rw [if_pos hb]
      exact ⟨_, j1, rfl, i1.tr j2⟩
    · obtain ⟨h', j1, j2⟩ := J (hd (nightS F u i) i - forS (nightS F u i) i) (if_neg hb).symm
      rw [if_neg hb]
      exact ⟨_, j1, rfl, i1.tr j2⟩
-- a day: (who was used, the book then)
def dayS (F : Nat → Int32) (n nw : Nat) : Int32 × (Nat → Int32) := ((meetS F n (knS F n) nw).1, upd (nightS (meetS F n (knS F n) nw).2 (meetS F n (knS F n) nw).1 n) 3 (F 3 + 1))
theorem dayS_inv {F : Nat → Int32} {n nw : Nat} (b : BP F n nw) : Sim F (dayS F n nw).2 ∧ BP (dayS F n nw).2 n nw ∧ (dayS F n nw).2 3 = F 3 + 1 ∧ (dayS F n nw).2 5 = F 5 ∧ (∀ i, 138 ≤ i → (dayS F n nw).2 i = F i) ∧ ∀ c, F 4 = nI c → ∃ c', c ≤ c' ∧ c' ≤ c + 1188 ∧ (dayS F n nw).2 4 = nI c' := by
  have hn2 := b.2.1
  have hw2 := b.2.2.2.1
  obtain ⟨m1, m2, m3, m4, m5, m6⟩ := meetS_inv (set := knS F n) b nw (Nat.le_refl nw)
  have hh : ∀ p, p < n → rg (hd (meetS F n (knS F n) nw).2 p) 0 100 := fun p hp => by rw [m2 p (by omega)]; exact (b.2.2.2.2.1 p hp).2.2.2.2
  obtain ⟨s1, s2, s3, s4, s5⟩ := nightS_inv (u := (meetS F n (knS F n) nw).1) hn2 hh n (Nat.le_refl n)
  unfold dayS
  dsimp only
  have sm : Sim F (upd (nightS (meetS F n (knS F n) nw).2 (meetS F n (knS F n) nw).1 n) 3 (F 3 + 1)) := (m1.tr s1).tr (Sim.up (Or.inl (by decide)))
  refine ⟨sm, sm.bp b (fun p hp => ?_), up_s, ?_, fun i hi => ?_, fun c hc => ?_⟩
  · show rg (upd _ 3 _ (6 + 6 * p + 4)) 0 100
    rw [up_n (by omega)]
    exact s2 p hp
  · rw [up_n (by decide), s3 5 (by decide) (by decide), m5]
  · rw [up_n (by omega), s4 i hi, m4 i hi]
  · obtain ⟨c', q1, q2, q3⟩ := m6 c hc
    exact ⟨c', q1, by omega, by rw [up_n (by decide), s3 4 (by decide) (by decide), q3]⟩
theorem r_day {h : HI} {F : Nat → Int32} {n nw : Nat} (e : tk (h 8 33) = F) (b : BP F n nw) : ∃ h', FX10_day h = some ((dayS F n nw).1, h') ∧ RkTo h (dayS F n nw).2 h' := by
  have hn2 := b.2.1
  have f0 : h 8 33 0 = nI n := (rk0 e (by decide)).trans b.1
  have k0 := r_known f0 hn2
  have k1 := r_rope (set := knS (tk (h 8 33)) n) f0 hn2
  have k2 := r_mend (set := knS (tk (h 8 33)) n) f0 hn2
  rw [e] at k0 k1 k2
  obtain ⟨m1, m2, m3, m4, m5, m6⟩ := meetS_inv (set := knS F n) b nw (Nat.le_refl nw)
  have hh : ∀ p, p < n → rg (hd (meetS F n (knS F n) nw).2 p) 0 100 := fun p hp => by rw [m2 p (by omega)]; exact (b.2.2.2.2.1 p hp).2.2.2.2
  obtain ⟨h1, a1, a2⟩ := r_meet (set := knS F n) e b
  obtain ⟨h2, b1, b2⟩ := r_night (u := (meetS F n (knS F n) nw).1) a2.at (by rw [m1.1 0 (by decide)]; exact b.1) hn2 hh
  obtain ⟨s1, s2, s3, s4, s5⟩ := nightS_inv (u := (meetS F n (knS F n) nw).1) hn2 hh n (Nat.le_refl n)
  have f3 : h2 8 33 3 = F 3 := by rw [rk0 b2.at (by decide), s3 3 (by decide) (by decide), m3]
  have p3 := rk_u (h := h2) (i := 3) (x := F 3 + 1) (by decide)
  rw [b2.at] at p3
  refine ⟨_, ?_, (a2.tr b2).tr p3⟩
  simp only [FX10_day, k0, k1, k2, Option.bind_some, a1, b1, nm_eq, f3]
  rfl
-- how many wants come on a day
def cnN (F : Nat → Int32) (x : Int32) (k : Nat) : Nat := foldN (fun w a => if wy F w = x then a + 1 else a) k 0
theorem cnN_le (F : Nat → Int32) (x : Int32) (k : Nat) : cnN F x k ≤ k := foldN_inv (fun i a => a ≤ i) (Nat.le_refl 0) (fun i a hi h => by split <;> omega)
theorem cnN_0 {F : Nat → Int32} {x : Int32} {k : Nat} (h : cnN F x k = 0) : ∀ w, w < k → ¬ wy F w = x := by
  induction k with
  | zero => intro w hw; omega
  | succ k ih =>
    have es : cnN F x (k + 1) = if wy F k = x then cnN F x k + 1 else cnN F x k := rfl
    rw [es] at h
    by_cases c : wy F k = x
    · rw [if_pos c] at h; omega
    · rw [if_neg c] at h
      intro w hw
      by_cases e : w = k
      · rw [e]; exact c
      · exact ih h w (by omega)
theorem c_many {g : Nat} {h : HI} {F : Nat → Int32} {nw : Nat} {x : Int32} (e : vw (h g) = F) (hw : F 1 = nI nw) (hw2 : nw ≤ 12) : FX8_howManyOn g x h = some (nI (cnN F x nw)) := by
  obtain ⟨-, f1, -⟩ := bk0 e
  rw [hw] at f1
  unfold FX8_howManyOn
  have e1 := for_loop (f := SX8_howManyOn_4 g x h) (fun i => (nI (cnN F x i), nI i)) nw (nI (cnN F x nw)) ?_ ?_ FU (by have := FU_lt; omega)
  · exact (congrArg (fun z => Option.bind z fun e5 => some e5) e1)
  · intro i hi
    have hwy : h g 11 i = wy F i := by rw [← e, vwy (by omega)]
    have es : cnN F x (i + 1) = if wy F i = x then cnN F x i + 1 else cnN F x i := rfl
    simp only [SX8_howManyOn_4, f1, nI_le12 hw2 (show i ≤ 12 by omega), gd_ix (show i < 12 by omega) (by decide), nC_n (show i < 2 ^ 31 by omega), hwy, nI_1, es]
    rw [if_neg (by omega)]
    split <;> rfl
  · simp only [SX8_howManyOn_4, f1, Int32.le_refl, if_true]
-- days
def daysS (F : Nat → Int32) (n nw : Nat) : Nat → Int32 × (Nat → Int32)
  | 0 => (0, F)
  | k + 1 => ((daysS F n nw k).1 ||| (dayS (daysS F n nw k).2 n nw).1, (dayS (daysS F n nw k).2 n nw).2)
theorem daysS_s (F : Nat → Int32) (n nw k : Nat) : daysS F n nw (k + 1) = ((daysS F n nw k).1 ||| (dayS (daysS F n nw k).2 n nw).1, (dayS (daysS F n nw k).2 n nw).2) := rfl
set_option maxRecDepth 100000 in
theorem daysS_inv {F : Nat → Int32} {n nw : Nat} (b : BP F n nw) (k : Nat) : Sim F (daysS F n nw k).2 ∧ BP (daysS F n nw k).2 n nw ∧ (daysS F n nw k).2 5 = F 5 ∧ (∀ i, 138 ≤ i → (daysS F n nw k).2 i = F i) ∧ (∀ d, F 3 = nI d → (daysS F n nw k).2 3 = nI (d + k)) ∧ ∀ c, F 4 = nI c → ∃ c', c ≤ c' ∧ c' ≤ c + 1188 * k ∧ (daysS F n nw k).2 4 = nI c' := by
  induction k with
  | zero => exact ⟨Sim.rf F, b, rfl, fun _ _ => rfl, fun d hd => hd, fun c hc => ⟨c, Nat.le_refl c, by omega, hc⟩⟩
  | succ k ih =>
    obtain ⟨i1, i2, i3, i4, i5, i6⟩ := ih
    obtain ⟨d1, d2, d3, d4, d5, d6⟩ := dayS_inv i2
    rw [daysS_s]
    refine ⟨i1.tr d1, d2, d4.trans i3, fun i hi => (d5 i hi).trans (i4 i hi), fun d hd => ?_, fun c hc => ?_⟩
    · show (dayS (daysS F n nw k).2 n nw).2 3 = _
      rw [d3, i5 d hd, nI_1]
      rfl
    · obtain ⟨c1, q1, q2, q3⟩ := i6 c hc
      obtain ⟨c2, q4, q5, q6⟩ := d6 c1 q3
      exact ⟨c2, by omega, by omega, q6⟩
theorem r_days {h : HI} {F : Nat → Int32} {n nw k : Nat} (e : tk (h 8 33) = F) (b : BP F n nw) (hk : k ≤ 200) : ∃ h', FX10_daysGo (nI k) h = some ((daysS F n nw k).1, h') ∧ RkTo h (daysS F n nw k).2 h' := by
  have key : ∃ r, loopN (SX10_daysGo_4 (nI k)) FU (0, 0, h) = some r ∧ (fun r : Int32 × HI => r.1 = (daysS F n nw k).1 ∧ RkTo h (daysS F n nw k).2 r.2) r := by
    refine gloop (f := SX10_daysGo_4 (nI k)) (fun i (s : Int32 × Int32 × HI) => s.1 = (daysS F n nw i).1 ∧ s.2.1 = nI i ∧ RkTo h (daysS F n nw i).2 s.2.2) _ k ?_ (k := FU) (by have := FU_lt; omega) (s0 := (0, 0, h)) ⟨rfl, rfl, by rw [show (daysS F n nw 0).2 = tk (h 8 33) from e.symm]; exact RkTo.rf⟩
    rintro i ⟨a, q, h1⟩ hi ⟨rfl, rfl, i1⟩
    dsimp only at i1
    by_cases z : i = k
    · refine Or.inr ⟨((daysS F n nw i).1, h1), ?_, by rw [z], by rw [← z]; exact i1⟩
      simp only [SX10_daysGo_4, z, Int32.le_refl, if_true]
    · refine Or.inl ⟨by omega, ?_⟩
      obtain ⟨h2, b1, b2⟩ := r_day i1.at (daysS_inv b i).2.1
      simp only [SX10_daysGo_4, nI_leI (show k < 2 ^ 31 by omega) (show i < 2 ^ 31 by omega), b1, Option.bind_some, nm_eq, nI_1, daysS_s]
      rw [if_neg (by omega)]
      exact ⟨_, rfl, rfl, rfl, i1.tr b2⟩
  obtain ⟨⟨x, h'⟩, k1, k2, k3⟩ := key
  dsimp only at k2 k3
  subst k2
  exact ⟨h', by simp only [FX10_daysGo, k1, Option.bind_some], k3⟩
theorem c_days {g : Nat} {h : HI} {F : Nat → Int32} {n nw k : Nat} (e : vw (h g) = F) (b : BP F n nw) (hk : k ≤ 200) : ∃ h', FX0_goDays g (nI k) h = some h' ∧ BkTo h g (daysS F n nw k).2 h' := by
  have key : ∃ r, loopN (SX0_goDays_2 g (nI k)) FU (0, h) = some r ∧ (fun r : HI => BkTo h g (daysS F n nw k).2 r) r := by
    refine gloop (f := SX0_goDays_2 g (nI k)) (fun i (s : Int32 × HI) => s.1 = nI i ∧ BkTo h g (daysS F n nw i).2 s.2) _ k ?_ (k := FU) (by have := FU_lt; omega) (s0 := (0, h)) ⟨rfl, by rw [show (daysS F n nw 0).2 = vw (h g) from e.symm]; exact BkTo.rf⟩
    rintro i ⟨a, h1⟩ hi ⟨rfl, i1⟩
    dsimp only at i1
    by_cases z : i = k
    · refine Or.inr ⟨h1, ?_, by rw [← z]; exact i1⟩
      simp only [SX0_goDays_2, z, Int32.le_refl, if_true]
    · refine Or.inl ⟨by omega, ?_⟩
      have bi := (daysS_inv b i).2.1
      rw [daysS_s]
      generalize (daysS F n nw i).2 = G at i1 bi ⊢
      have ei := i1.at
      have hn2 := bi.2.1
      obtain ⟨f0, f1, f2, f3, f4, -⟩ := bk0 ei
      rw [bi.1] at f0
      have hm := c_many (x := G 3) ei bi.2.2.1 bi.2.2.2.1
      obtain ⟨m1, m2, m3, m4, m5, m6⟩ := meetS_inv (set := knS G n) bi nw (Nat.le_refl nw)
      have hh : ∀ p, p < n → rg (hd (meetS G n (knS G n) nw).2 p) 0 100 := fun p hp => by rw [m2 p (by omega)]; exact (bi.2.2.2.2.1 p hp).2.2.2.2
      obtain ⟨s1, s2, s3, s4, s5⟩ := nightS_inv (u := (meetS G n (knS G n) nw).1) hn2 hh n (Nat.le_refl n)
      -- the end of a day
      have fin : ∀ h2 : HI, BkTo h1 g (meetS G n (knS G n) nw).2 h2 → ∃ h', JX0_goDays_47 g (nI k) (nI i) (meetS G n (knS G n) nw).1 h2 = some (Sum.inl (nI (i + 1), h')) ∧ BkTo h1 g (dayS G n nw).2 h' := by
        intro h2 t
        obtain ⟨h3, b1, b2⟩ := c_night (u := (meetS G n (knS G n) nw).1) t.at (by rw [m1.1 0 (by decide)]; exact bi.1) hn2 hh
        have q3 : h3 g 0 4 = G 3 := by rw [(bk0 b2.at).2.2.2.1, s3 3 (by decide) (by decide), m3]
        have p3 := bk_6 (h := h3) (g := g) (m := 3) (x := G 3 + 1) (by decide)
        rw [b2.at] at p3
        refine ⟨_, ?_, (t.tr b2).tr p3⟩
        simp only [JX0_goDays_47, b1, Option.bind_some, nm_eq, q3, nI_1]
        rfl
      simp only [SX0_goDays_2, nI_leI (show k < 2 ^ 31 by omega) (show i < 2 ^ 31 by omega), f3, hm, Option.bind_some]
      rw [if_neg (by omega)]
      by_cases c0 : cnN G (G 3) nw = 0
      · have en := meetS_none (n := n) (set := knS G n) (cnN_0 c0)
        have eG : BkTo h1 g (meetS G n (knS G n) nw).2 h1 := by rw [en]; have := BkTo.rf (h := h1) (g := g); rw [ei] at this; exact this
        obtain ⟨h', j1, j2⟩ := fin h1 eG
        rw [en] at j1
        rw [c0, if_pos (show nI 0 ≤ 0 by decide), JX0_goDays_26, if_pos rfl]
        exact ⟨_, j1, rfl, i1.tr j2⟩
      · have hc := cnN_le G (G 3) nw
        have hw2 := bi.2.2.2.1
        have hk2 := c_known (g := g) (h := h1) f0 hn2
        rw [ei] at hk2
        obtain ⟨h2, a1, a2⟩ := c_meet (set := knS G n) ei bi
        obtain ⟨h', j1, j2⟩ := fin h2 a2
        rw [if_neg (nI_nle (by omega) (by omega)), JX0_goDays_26, if_neg (show ¬ (1 : Int32) = 0 by decide), hk2, Option.bind_some, a1, Option.bind_some]
        exact ⟨_, j1, rfl, i1.tr j2⟩
  obtain ⟨h', k1, k2⟩ := key
  exact ⟨h', by simp only [FX0_goDays, k1, Option.bind_some], k2⟩
