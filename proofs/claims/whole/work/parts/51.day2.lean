-- the wants of a day, the night, days
def meetF (n : Nat) (set : Int32) (r md : Bool) (w : Nat) (x : Int32 × (Nat → Int32)) : Int32 × (Nat → Int32) :=
  if wy x.2 w = x.2 3 then
    (if (byS x.2 n w set r).1 < 0 then (x.1, upd x.2 4 (x.2 4 + metS x.2 n w set r md)) else (x.1 ||| ((1 : Int32) <<< ((byS x.2 n w set r).1 &&& 31)), upd (upd x.2 4 (x.2 4 + metS x.2 n w set r md)) (6 + 6 * nC (byS x.2 n w set r).1 + 5) (us x.2 (nC (byS x.2 n w set r).1) + 1)))
  else x
def meetS (F : Nat → Int32) (n : Nat) (set : Int32) (k : Nat) : Int32 × (Nat → Int32) := foldN (meetF n set (ropeS F n set) (mendS F n set)) k (0, F)
theorem by_cases1 {F : Nat → Int32} {n w : Nat} {set : Int32} {r : Bool} (hw : rg (wo F w) 0 99) : (byS F n w set r).1 = -1 ∨ ∃ p, p < n ∧ (byS F n w set r).1 = nI p := by
  rcases (byS_inv (set := set) (r := r) hw n).2 with ⟨z, -⟩ | ⟨p, z1, z2, -⟩
  · exact Or.inl z
  · exact Or.inr ⟨p, z1, z2⟩
/-- what a want of the day leaves as it was -/
theorem meetF_sim {n nw w : Nat} {set : Int32} {r md : Bool} {x : Int32 × (Nat → Int32)} (b : BP x.2 n nw) (hw : w < nw) : Sim x.2 (meetF n set r md w x).2 ∧ (∀ p, p < 12 → hd (meetF n set r md w x).2 p = hd x.2 p) ∧ (meetF n set r md w x).2 3 = x.2 3 ∧ (∀ i, 138 ≤ i → (meetF n set r md w x).2 i = x.2 i) ∧ (meetF n set r md w x).2 5 = x.2 5 ∧ ∀ c, x.2 4 = nI c → ∃ c', c ≤ c' ∧ c' ≤ c + 99 ∧ (meetF n set r md w x).2 4 = nI c' := by
  have hn := b.2.1
  have hw2 := b.2.2.2.1
  have hm := met_rg (n := n) (set := set) (r := r) (md := md) b.2.2.2.2.1 (b.2.2.2.2.2.1 w hw)
  unfold meetF
  split
  · rcases by_cases1 (n := n) (set := set) (r := r) (b.O w hw) with z | ⟨p, z1, z2⟩
    · rw [z, if_pos m1_neg]
      dsimp only
      refine ⟨Sim.up (Or.inl (by decide)), fun p hp => up_n (by omega), up_n (by decide), fun i hi => up_n (by omega), up_n (by decide), fun c hc => ?_⟩
      obtain ⟨a, -, ha, e⟩ := hm
      exact ⟨c + a, by omega, by omega, by rw [up_s, hc, e, nI_add]⟩
    · rw [z2, if_neg (nI_pos (by omega)), nC_n (by omega)]
      dsimp only
      refine ⟨(Sim.up (Or.inl (by decide))).tr (Sim.up (Or.inr (Or.inl ⟨p, 5, by omega, by decide, by decide, rfl⟩))), fun q hq => ?_, ?_, fun i hi => ?_, ?_, fun c hc => ?_⟩
      · show upd _ _ _ (6 + 6 * q + 4) = x.2 (6 + 6 * q + 4)
        rw [up_n (by omega), up_n (by omega)]
      · rw [up_n (by omega), up_n (by decide)]
      · rw [up_n (by omega), up_n (by omega)]
      · rw [up_n (by omega), up_n (by decide)]
      · obtain ⟨a, -, ha, e⟩ := hm
        exact ⟨c + a, by omega, by omega, by rw [up_n (by omega), up_s, hc, e, nI_add]⟩
  · exact ⟨Sim.rf _, fun _ _ => rfl, rfl, fun _ _ => rfl, rfl, fun c hc => ⟨c, Nat.le_refl c, by omega, hc⟩⟩
theorem meetS_inv {F : Nat → Int32} {n nw : Nat} {set : Int32} (b : BP F n nw) (k : Nat) (hk : k ≤ nw) : Sim F (meetS F n set k).2 ∧ (∀ p, p < 12 → hd (meetS F n set k).2 p = hd F p) ∧ (meetS F n set k).2 3 = F 3 ∧ (∀ i, 138 ≤ i → (meetS F n set k).2 i = F i) ∧ (meetS F n set k).2 5 = F 5 ∧ ∀ c, F 4 = nI c → ∃ c', c ≤ c' ∧ c' ≤ c + 99 * k ∧ (meetS F n set k).2 4 = nI c' := by
  unfold meetS
  refine foldN_inv (fun i (x : Int32 × (Nat → Int32)) => Sim F x.2 ∧ (∀ p, p < 12 → hd x.2 p = hd F p) ∧ x.2 3 = F 3 ∧ (∀ i, 138 ≤ i → x.2 i = F i) ∧ x.2 5 = F 5 ∧ ∀ c, F 4 = nI c → ∃ c', c ≤ c' ∧ c' ≤ c + 99 * i ∧ x.2 4 = nI c') ⟨Sim.rf _, fun _ _ => rfl, rfl, fun _ _ => rfl, rfl, fun c hc => ⟨c, Nat.le_refl c, by omega, hc⟩⟩ (fun i x hi hx => ?_)
  obtain ⟨i1, i2, i3, i4, i5, i6⟩ := hx
  have b2 : BP x.2 n nw := i1.bp b (fun p hp => by rw [i2 p (by have := b.2.1; omega)]; exact (b.2.2.2.2.1 p hp).2.2.2.2)
  obtain ⟨s1, s2, s3, s4, s5, s6⟩ := meetF_sim (set := set) (r := ropeS F n set) (md := mendS F n set) b2 (show i < nw by omega)
  refine ⟨i1.tr s1, fun p hp => (s2 p hp).trans (i2 p hp), s3.trans i3, fun j hj => (s4 j hj).trans (i4 j hj), s5.trans i5, fun c hc => ?_⟩
  obtain ⟨c1, q1, q2, q3⟩ := i6 c hc
  obtain ⟨c2, q4, q5, q6⟩ := s6 c1 q3
  exact ⟨c2, by omega, by omega, q6⟩
theorem meetS_bp {F : Nat → Int32} {n nw : Nat} {set : Int32} (b : BP F n nw) (k : Nat) (hk : k ≤ nw) : BP (meetS F n set k).2 n nw := by
  have i := meetS_inv (set := set) b k hk
  exact i.1.bp b (fun p hp => by rw [i.2.1 p (by have := b.2.1; omega)]; exact (b.2.2.2.2.1 p hp).2.2.2.2)
theorem meetS_none {F : Nat → Int32} {n : Nat} {set : Int32} {k : Nat} (h : ∀ w, w < k → ¬ wy F w = F 3) : meetS F n set k = (0, F) := by
  unfold meetS
  refine foldN_inv (fun i (x : Int32 × (Nat → Int32)) => x = (0, F)) rfl (fun i x hi hx => ?_)
  rw [hx]
  unfold meetF
  rw [if_neg (h i hi)]
-- the class
theorem bk0 {h : HI} {g : Nat} {F : Nat → Int32} (e : vw (h g) = F) : h g 1 6 = F 0 ∧ h g 8 5 = F 1 ∧ h g 0 3 = F 2 ∧ h g 0 4 = F 3 ∧ h g 0 5 = F 4 ∧ h g 14 1 = F 5 := by
  subst e
  exact ⟨rfl, rfl, rfl, rfl, rfl, rfl⟩
theorem c_meet {g : Nat} {h : HI} {F : Nat → Int32} {n nw : Nat} {set : Int32} (e : vw (h g) = F) (b : BP F n nw) : ∃ h', FX0_meetWants g set h = some ((meetS F n set nw).1, h') ∧ BkTo h g (meetS F n set nw).2 h' := by
  have hn2 := b.2.1
  have hw2 := b.2.2.2.1
  obtain ⟨e0, e1, -⟩ := bk0 e
  rw [b.1] at e0
  rw [b.2.2.1] at e1
  have hr := c_rope (g := g) (set := set) e0 hn2 (by rw [e]; exact b.K)
  have hm := c_mend (g := g) (set := set) e0 hn2 (by rw [e]; exact b.K)
  rw [e] at hr hm
  have key : ∃ r, loopN (SX0_meetWants_26 g set (bI (ropeS F n set)) (bI (mendS F n set))) FU (0, 0, h) = some r ∧ (fun r : Int32 × HI => r.1 = (meetS F n set nw).1 ∧ BkTo h g (meetS F n set nw).2 r.2) r := by
    refine gloop (f := SX0_meetWants_26 g set (bI (ropeS F n set)) (bI (mendS F n set))) (fun i (s : Int32 × Int32 × HI) => s.1 = (meetS F n set i).1 ∧ s.2.1 = nI i ∧ BkTo h g (meetS F n set i).2 s.2.2) _ nw ?_ (k := FU) (by have := FU_lt; omega) (s0 := (0, 0, h)) ⟨rfl, rfl, by rw [show (meetS F n set 0).2 = vw (h g) from e.symm]; exact BkTo.rf⟩
    rintro i ⟨a, q, h1⟩ hi ⟨rfl, rfl, i1⟩
    dsimp only at i1
    have bi := meetS_bp (set := set) b i hi
    have ei := i1.at
    obtain ⟨f0, f1, f2, f3, f4, -⟩ := bk0 ei
    rw [bi.1] at f0
    rw [bi.2.2.1] at f1
    by_cases z : i = nw
    · refine Or.inr ⟨((meetS F n set i).1, h1), ?_, by rw [z], by rw [← z]; exact i1⟩
      simp only [SX0_meetWants_26, f1, z, Int32.le_refl, if_true]
    · have hi2 : i < nw := by omega
      refine Or.inl ⟨hi2, ?_⟩
      have es : meetS F n set (i + 1) = meetF n set (ropeS F n set) (mendS F n set) i (meetS F n set i) := rfl
      rw [es]
      generalize meetS F n set i = x at i1 bi ei f0 f1 f2 f3 f4 ⊢
      have hgm := c_gainsMost (g := g) (h := h1) (w := i) (set := set) (r := ropeS F n set) f0 hn2 (by omega)
      have hmt := c_met (g := g) (h := h1) (n := n) (w := i) (set := set) (r := ropeS F n set) (md := mendS F n set) hn2 (by omega) (by rw [ei]; exact bi.O i hi2)
      have hwy : h1 g 11 i = wy x.2 i := by rw [← ei, vwy (by omega)]
      rw [ei] at hgm hmt
      simp only [SX0_meetWants_26, f1, nI_le12 hw2 (show i ≤ 12 by omega), gd_ix (show i < 12 by omega) (by decide), nC_n (show i < 2 ^ 31 by omega), hwy, f3, hgm, hmt, Option.bind_some, nm_eq, nI_1, meetF]
      rw [if_neg (by omega)]
      have p4 : BkTo h1 g (upd x.2 4 (x.2 4 + metS x.2 n i set (ropeS F n set) (mendS F n set))) (hP1 h1 g 0 5 (h1 g 0 5 + metS x.2 n i set (ropeS F n set) (mendS F n set))) := by
        have := bk_6 (h := h1) (g := g) (m := 4) (x := h1 g 0 5 + metS x.2 n i set (ropeS F n set) (mendS F n set)) (by decide)
        rw [ei] at this
        rw [f4] at this ⊢
        exact this
      split
      · rcases by_cases1 (n := n) (set := set) (r := ropeS F n set) (bi.O i hi2) with y | ⟨p, y1, y2⟩
        · rw [y, if_pos m1_neg, if_pos m1_neg]
          exact ⟨_, rfl, rfl, rfl, i1.tr p4⟩
        · rw [y2, if_neg (nI_pos (by omega)), if_neg (nI_pos (by omega)), gd_ix (show p < 12 by omega) (by decide), gd_ix (show p < 12 by omega) (by decide), nC_n (show p < 2 ^ 31 by omega)]
          have p5 := bk_p (h := hP1 h1 g 0 5 (h1 g 0 5 + metS x.2 n i set (ropeS F n set) (mendS F n set))) (g := g) (p := p) (k := 5) (x := us x.2 p + 1) (by omega) (by decide)
          rw [p4.at] at p5
          have eu : (hP1 h1 g 0 5 (h1 g 0 5 + metS x.2 n i set (ropeS F n set) (mendS F n set))) g 7 p = us x.2 p := by
            rw [hP1_k (by decide), ← ei, vus (by omega)]
          rw [eu]
          exact ⟨_, rfl, rfl, rfl, (i1.tr p4).tr p5⟩
      · exact ⟨_, rfl, rfl, rfl, i1⟩
  obtain ⟨⟨x, h'⟩, k1, k2, k3⟩ := key
  dsimp only at k2 k3
  subst k2
  refine ⟨h', ?_, k3⟩
  simp only [FX0_meetWants, hr, hm, Option.bind_some, k1]
-- the reference
theorem rk0 {h : HI} {F : Nat → Int32} (e : tk (h 8 33) = F) {i : Nat} (hi : i < 150) : h 8 33 i = F i := by
  rw [← e, tk_lt hi]
theorem r_meet {h : HI} {F : Nat → Int32} {n nw : Nat} {set : Int32} (e : tk (h 8 33) = F) (b : BP F n nw) : ∃ h', loopN (SX10_day_23 set (bI (ropeS F n set)) (bI (mendS F n set))) FU (0, 0, h) = some ((meetS F n set nw).1, h') ∧ RkTo h (meetS F n set nw).2 h' := by
  have hn2 := b.2.1
  have hw2 := b.2.2.2.1
  have key : ∃ r, loopN (SX10_day_23 set (bI (ropeS F n set)) (bI (mendS F n set))) FU (0, 0, h) = some r ∧ (fun r : Int32 × HI => r.1 = (meetS F n set nw).1 ∧ RkTo h (meetS F n set nw).2 r.2) r := by
    refine gloop (f := SX10_day_23 set (bI (ropeS F n set)) (bI (mendS F n set))) (fun i (s : Int32 × Int32 × HI) => s.1 = (meetS F n set i).1 ∧ s.2.1 = nI i ∧ RkTo h (meetS F n set i).2 s.2.2) _ nw ?_ (k := FU) (by have := FU_lt; omega) (s0 := (0, 0, h)) ⟨rfl, rfl, by rw [show (meetS F n set 0).2 = tk (h 8 33) from e.symm]; exact RkTo.rf⟩
    rintro i ⟨a, q, h1⟩ hi ⟨rfl, rfl, i1⟩
    dsimp only at i1
    have bi := meetS_bp (set := set) b i hi
    have si := (meetS_inv (set := set) b i hi).1
    have ei := i1.at
    have f0 : h1 8 33 0 = nI n := (rk0 ei (by decide)).trans bi.1
    have f1 : h1 8 33 1 = nI nw := (rk0 ei (by decide)).trans bi.2.2.1
    have f3 := rk0 ei (show 3 < 150 by decide)
    have f4 := rk0 ei (show 4 < 150 by decide)
    by_cases z : i = nw
    · refine Or.inr ⟨((meetS F n set i).1, h1), ?_, by rw [z], by rw [← z]; exact i1⟩
      simp only [SX10_day_23, f1, z, Int32.le_refl, if_true]
    · have hi2 : i < nw := by omega
      refine Or.inl ⟨hi2, ?_⟩
      have es : meetS F n set (i + 1) = meetF n set (ropeS F n set) (mendS F n set) i (meetS F n set i) := rfl
      have er : ropeS (meetS F n set i).2 n set = ropeS F n set := si.rope hn2
      rw [es]
      generalize meetS F n set i = x at i1 bi ei f3 f4 er ⊢
      have hmt := r_met (h := h1) (n := n) (w := i) (set := set) (r := ropeS F n set) (md := mendS F n set) f0 hn2 (by omega) (by rw [ei]; exact bi.O i hi2)
      have hwy := wnt2 (h := h1) (show i < 12 by omega)
      rw [ei] at hmt hwy
      have p4 : RkTo h1 (upd x.2 4 (x.2 4 + metS x.2 n i set (ropeS F n set) (mendS F n set))) (hP1 h1 8 33 4 (h1 8 33 4 + metS x.2 n i set (ropeS F n set) (mendS F n set))) := by
        have := rk_u (h := h1) (i := 4) (x := h1 8 33 4 + metS x.2 n i set (ropeS F n set) (mendS F n set)) (by decide)
        rw [ei] at this
        rw [f4] at this ⊢
        exact this
      have s4 : Sim x.2 (upd x.2 4 (x.2 4 + metS x.2 n i set (ropeS F n set) (mendS F n set))) := Sim.up (Or.inl (by decide))
      have g0 : (hP1 h1 8 33 4 (h1 8 33 4 + metS x.2 n i set (ropeS F n set) (mendS F n set))) 8 33 0 = nI n := by rw [rk0 p4.at (by decide), up_n (by decide)]; exact bi.1
      have hby := r_by (h := hP1 h1 8 33 4 (h1 8 33 4 + metS x.2 n i set (ropeS F n set) (mendS F n set))) (w := i) (set := set) g0 hn2 (by omega) (by rw [p4.at, s4.wo (by omega)]; exact bi.O i hi2)
      rw [p4.at, s4.rope hn2, er, s4.by hn2 (by omega)] at hby
      simp only [SX10_day_23, f1, nI_le12 hw2 (show i ≤ 12 by omega), hwy, f3, hmt, hby, Option.bind_some, nm_eq, nI_1, meetF]
      rw [if_neg (by omega)]
      split
      · rcases by_cases1 (n := n) (set := set) (r := ropeS F n set) (bi.O i hi2) with y | ⟨p, y1, y2⟩
        · rw [y, if_pos m1_neg, if_pos m1_neg]
          exact ⟨_, rfl, rfl, rfl, i1.tr p4⟩
        · have ea := f_at p 5
          rw [show nI 5 = (5 : Int32) from rfl] at ea
          rw [y2, if_neg (nI_pos (by omega)), if_neg (nI_pos (by omega)), ea, Option.bind_some, gd_ix (show 6 + 6 * p + 5 < 150 by omega) (by decide), gd_ix (show 6 + 6 * p + 5 < 150 by omega) (by decide), nC_n (show 6 + 6 * p + 5 < 2 ^ 31 by omega), nC_n (show p < 2 ^ 31 by omega)]
          have p5 := rk_u (h := hP1 h1 8 33 4 (h1 8 33 4 + metS x.2 n i set (ropeS F n set) (mendS F n set))) (i := 6 + 6 * p + 5) (x := us x.2 p + 1) (by omega)
          rw [p4.at] at p5
          have eu : (hP1 h1 8 33 4 (h1 8 33 4 + metS x.2 n i set (ropeS F n set) (mendS F n set))) 8 33 (6 + 6 * p + 5) = us x.2 p := by
            rw [rk0 p4.at (by omega), up_n (by omega)]
            rfl
          rw [eu]
          exact ⟨_, rfl, rfl, rfl, (i1.tr p4).tr p5⟩
      · exact ⟨_, rfl, rfl, rfl, i1⟩
  obtain ⟨⟨x, h'⟩, k1, k2, k3⟩ := key
  dsimp only at k2 k3
  subst k2
  exact ⟨h', k1, k3⟩
