-- plan: the class's arrangement by number
def ordS (F : Nat → Int32) (l : List Nat) : Nat → Int32 := fun x => if x = 5 then nI l.length else if 138 ≤ x ∧ x < 138 + l.length then nI (l.getD (x - 138) 0) else F x
theorem ordS_nil (F : Nat → Int32) : ordS F [] = upd F 5 0 := by
  funext x
  unfold ordS
  by_cases c : x = 5
  · rw [if_pos c, c, up_s]
    rfl
  · rw [if_neg c, if_neg (by simp), up_n c]
theorem ordS_add (F : Nat → Int32) (l : List Nat) (p : Nat) : addS (ordS F l) l.length (nI p) = ordS F (l ++ [p]) := by
  have el : (l ++ [p]).length = l.length + 1 := by simp
  funext x
  unfold addS
  by_cases c : x = 5
  · rw [c, up_s]
    unfold ordS
    rw [if_pos rfl, el]
  · rw [up_n c]
    by_cases d : x = 138 + l.length
    · rw [d, up_s]
      unfold ordS
      rw [if_neg (by omega), if_pos (by omega), Nat.add_sub_cancel_left, List.getD_eq_getElem?_getD, List.getElem?_append_right (Nat.le_refl _), Nat.sub_self]
      rfl
    · rw [up_n d]
      unfold ordS
      rw [if_neg c, if_neg c, el]
      by_cases f : 138 ≤ x ∧ x < 138 + l.length
      · rw [if_pos f, if_pos (by omega), List.getD_eq_getElem?_getD, List.getD_eq_getElem?_getD, List.getElem?_append_left (by omega)]
      · rw [if_neg f, if_neg (by omega)]
theorem ordS_od (F : Nat → Int32) {l : List Nat} {i : Nat} (h : i < l.length) : od (ordS F l) i = nI (l.getD i 0) := by
  show ordS F l (138 + i) = _
  unfold ordS
  rw [if_neg (by omega), if_pos (by omega), Nat.add_sub_cancel_left]
theorem ordS_low {F : Nat → Int32} {l : List Nat} : ∀ x, x < 138 → ¬ x = 5 → ordS F l x = F x := fun x h1 h2 => by
  unfold ordS
  rw [if_neg h2, if_neg (by omega)]
theorem map_gD {l : List Nat} {M : Nat → Nat} {i : Nat} (h : i < l.length) : (l.map M).getD i 0 = M (l.getD i 0) := by
  rw [gD_lt (by rw [List.length_map]; exact h), gD_lt h, List.getElem_map]
theorem fctI : ∀ t, t < 6 → ([1, 1, 2, 6, 24, 120] : List Int32).getD t 0 = nI (fct t) ∧ (if 1 < nI (fct t) then nI (fct t) else 1) = nI (fct t) ∧ 0 < fct t ∧ fct t ≤ 120 := by decide
theorem five : ∀ m, m < 6 → (if (5 : Int32) < nI m then 5 else nI m) = nI m := by decide
theorem c_arrange {h : HI} {g s m a : Nat} {F : Nat → Int32} (e : vw (h g) = F) (hs : s < 4096) (hm : (bL s).length = m) (m5 : m ≤ 5) (ha : a < fct m) : ∃ h', FX3_arrange g (nI s) (nI a) h = some h' ∧ BkTo h g (ordS F ((rwI m a).map fun i => (bL s).getD i 0)) h' := by
  have M_lt : ∀ x, x < m → (bL s).getD x 0 < 12 := fun x hx => (bL_in (by omega)).1
  have M_in : ∀ x y, x < m → y < m → (bL s).getD x 0 = (bL s).getD y 0 → x = y := by
    intro x y hx hy q
    by_cases c : x < y
    · have := bL_lt (s := s) c (by omega)
      omega
    · by_cases d : y < x
      · have := bL_lt (s := s) d (by omega)
        omega
      · omega
  have key : ∃ r, loopN (SX3_arrange_22 g) FU (nI s, nI a, nI m - 1, hP1 h g 14 1 0) = some r ∧ BkTo h g (ordS F ((rwI m a).map fun i => (bL s).getD i 0)) r := by
    refine gloop (f := SX3_arrange_22 g) (fun i (t : Int32 × Int32 × Int32 × HI) => ∃ s' h1, t = (nI s', nI (stI m a i).2.1, nI (m - i) - 1, h1) ∧ s' < 4096 ∧ bL s' = (stI m a i).1.map (fun i => (bL s).getD i 0) ∧ BkTo h g (ordS F ((stI m a i).2.2.map fun i => (bL s).getD i 0)) h1) _ m ?_ (k := FU) (by have := FU_lt; omega) ⟨s, hP1 h g 14 1 0, rfl, hs, ?_, ?_⟩
    · rintro i t hi ⟨s', h1, rfl, s1, s2, s3⟩
      unfold SX3_arrange_22
      dsimp only
      by_cases z : i = m
      · subst z
        exact Or.inr ⟨h1, by rw [Nat.sub_self, if_pos (by decide)], s3⟩
      · obtain ⟨p1, p2, p3, p4, p5, p6⟩ := kP (show m < 6 by omega) ha (show i < m by omega)
        obtain ⟨t, et⟩ : ∃ t, m - i = t + 1 := ⟨m - i - 1, by omega⟩
        have et2 : m - 1 - i = t := by omega
        rw [et2] at p2
        obtain ⟨f1, f2, f3, f4⟩ := fctI t (by omega)
        have es : stI m a (i + 1) = stp (stI m a i) t := by rw [← et2]; rfl
        generalize stI m a i = st at p1 p2 p3 p4 p5 p6 s2 s3 es ⊢
        obtain ⟨R, num, done⟩ := st
        dsimp only at p1 p2 p3 p4 p5 p6 s2 s3 es ⊢
        have hq : num / fct t < R.length := by omega
        have rR : R.getD (num / fct t) 0 ∈ R := by rw [gD_lt hq]; exact List.getElem_mem hq
        obtain ⟨r1, r2⟩ := p4 _ rR
        have em : FX3_memberOf (nI s') (nI (num / fct t)) = some (nI ((bL s).getD (R.getD (num / fct t) 0) 0)) := by
          rw [c_member s1 (by rw [s2, List.length_map]; exact hq), s2, map_gD hq]
        obtain ⟨s'', u1, u2, u3⟩ := bL_rm s1 (M_lt _ r1)
        have ol : (done.map fun i => (bL s).getD i 0).length = i := by rw [List.length_map]; exact p5
        have o5 : ordS F (done.map fun i => (bL s).getD i 0) 5 = nI i := by
          unfold ordS
          rw [if_pos rfl, ol]
        obtain ⟨h2, v1, v2⟩ := c_append (x := nI ((bL s).getD (R.getD (num / fct t) 0) 0)) s3.at o5 (by omega) (fun j hj => by
          rw [ordS_od F (by omega), map_gD (by omega)]
          have dj : done.getD j 0 ∈ done := by rw [gD_lt (by omega)]; exact List.getElem_mem _
          have dl := p6 _ dj
          refine nI_ne (fun q => ?_) (by have := M_lt _ dl; omega) (by have := M_lt _ r1; omega)
          have := M_in _ _ dl r1 q
          rw [this] at dj
          exact r2 dj)
        have ea := ordS_add F (done.map fun i => (bL s).getD i 0) ((bL s).getD (R.getD (num / fct t) 0) 0)
        rw [ol] at ea
        rw [ea] at v2
        refine Or.inl ⟨by omega, (nI s'', nI (num % fct t), nI t + (-1), h2), ?_, s'', h2, ?_, u1, ?_, ?_⟩
        · have ed : nI num / nI (fct t) = nI (num / fct t) := pk_div (by omega) f3 (by omega)
          have er : num - num / fct t * fct t = num % fct t := by
            have := Nat.div_add_mod num (fct t)
            rw [Nat.mul_comm] at this
            omega
          rw [et, nI_pred, if_neg (nI_nn (by omega)), gd_ix (show t < 6 by omega) (by decide), nC_n (show t < 2 ^ 31 by omega), f1, f2, nm_eq, decide_eq_false (nI_ne0 f3 (by omega)), Bool.not_false, gd_1, ed, em, Option.bind_some, gd_1, nm_eq, nm_eq, pk_mul, pk_sub (Nat.div_mul_le_self _ _), er, u2, v1, Option.bind_some]
        · rw [es, show m - (i + 1) = t by omega]
          show (nI s'', nI (num % fct t), nI t + (-1), h2) = (nI s'', nI (num % fct t), nI t - 1, h2)
          rw [Int32.sub_eq_add_neg]
        · rw [es, u3, s2, List.filter_map]
          show _ = (R.filter fun q => decide (q ≠ R.getD (num / fct t) 0)).map _
          congr 1
          refine List.filter_congr (fun q hq => ?_)
          have q1 := (p4 q hq).1
          show decide ((bL s).getD q 0 ≠ (bL s).getD (R.getD (num / fct t) 0) 0) = _
          by_cases c : q = R.getD (num / fct t) 0
          · rw [decide_eq_false (fun z => z (by rw [c])), decide_eq_false (fun z => z c)]
          · rw [decide_eq_true (show (bL s).getD q 0 ≠ (bL s).getD (R.getD (num / fct t) 0) 0 from fun z => c (M_in _ _ q1 r1 z)), decide_eq_true (show q ≠ R.getD (num / fct t) 0 from c)]
        · rw [es]
          show BkTo h g (ordS F ((done ++ [R.getD (num / fct t) 0]).map fun i => (bL s).getD i 0)) h2
          rw [List.map_append]
          exact s3.tr v2
    · show bL s = (List.range m).map fun i => (bL s).getD i 0
      refine List.ext_getElem (by rw [List.length_map, List.length_range, hm]) (fun i h1 h2 => ?_)
      rw [List.getElem_map, List.getElem_range, gD_lt h1]
    · show BkTo h g (ordS F []) (hP1 h g 14 1 0)
      rw [ordS_nil, ← e]
      exact bk_6 (m := 5) (by decide)
  obtain ⟨r, k1, k2⟩ := key
  refine ⟨r, ?_, k2⟩
  unfold FX3_arrange
  rw [nm_eq, (kS hs).1, Option.bind_some, hm, five m (by omega), nm_eq, k1, Option.bind_some]
theorem ordS_OI {F : Nat → Int32} {n : Nat} {l : List Nat} (hl : l.length ≤ n) (hn : n ≤ 12) (lt : ∀ y ∈ l, y < n) (inj : ∀ i j, i < l.length → j < l.length → l.getD i 0 = l.getD j 0 → i = j) : OI (ordS F l) n l.length := by
  refine ⟨by unfold ordS; rw [if_pos rfl], hl, fun i hi => ?_, fun i j hi hj q => ?_⟩
  · refine ⟨l.getD i 0, lt _ ?_, ordS_od F hi⟩
    rw [gD_lt hi]
    exact List.getElem_mem hi
  · rw [ordS_od F hi, ordS_od F hj] at q
    have li : l.getD i 0 < n := lt _ (by rw [gD_lt hi]; exact List.getElem_mem hi)
    have lj : l.getD j 0 < n := lt _ (by rw [gD_lt hj]; exact List.getElem_mem hj)
    exact inj i j hi hj ((nI_eq (by omega) (by omega)).mp q)
/-- what is known of a set of the book's phrases -/
def StI (s n m : Nat) : Prop := s < 4096 ∧ s < 2 ^ n ∧ n ≤ 12 ∧ (bL s).length = m ∧ m ≤ 5
def Mb (s : Nat) : Nat → Nat := fun i => (bL s).getD i 0
theorem Mb_n {s n m : Nat} (t : StI s n m) : ∀ x, x < m → Mb s x < n := by
  intro x hx
  obtain ⟨t1, t2, t3, t4, t5⟩ := t
  have := (bL_in (s := s) (i := x) (by omega)).2
  by_cases c : Mb s x < n
  · exact c
  · have q : s.testBit (Mb s x) = false := Nat.testBit_lt_two_pow (Nat.lt_of_lt_of_le t2 (Nat.pow_le_pow_right (show 0 < 2 by decide) (show n ≤ Mb s x by omega)))
    unfold Mb at q
    rw [q] at this
    exact absurd this (by decide)
theorem Mb_lt {s n m : Nat} (t : StI s n m) : ∀ x y, x < m → y < m → (Mb s x ≤ Mb s y ↔ x ≤ y) := by
  intro x y hx hy
  obtain ⟨t1, t2, t3, t4, t5⟩ := t
  unfold Mb
  by_cases c : x < y
  · have := bL_lt (s := s) c (by omega)
    omega
  · by_cases d : y < x
    · have := bL_lt (s := s) d (by omega)
      omega
    · have : x = y := by omega
      subst this
      omega
theorem Mb_in {s n m : Nat} (t : StI s n m) : ∀ x y, x < m → y < m → Mb s x = Mb s y → x = y := by
  intro x y hx hy q
  have a := Mb_lt t x y hx hy
  have b := Mb_lt t y x hy hx
  omega
theorem StI_n {s n m : Nat} (t : StI s n m) : m ≤ n := pigeon n m (Mb s) (Mb_n t) (fun i j hi hj q => Mb_in t i j hi hj q)
theorem row_OI {s n m a : Nat} {F : Nat → Int32} (t : StI s n m) (ha : a < fct m) : OI (ordS F ((rwI m a).map (Mb s))) n m ∧ ((rwI m a).map (Mb s)).length = m := by
  obtain ⟨r1, r2, r3⟩ := kR (show m < 6 by have := t.2.2.2.2; omega) ha
  have el : ((rwI m a).map (Mb s)).length = m := by rw [List.length_map]; exact r1
  refine ⟨?_, el⟩
  have := ordS_OI (F := F) (n := n) (l := (rwI m a).map (Mb s)) (by rw [el]; exact StI_n t) t.2.2.1 (fun y hy => ?_) (fun i j hi hj q => ?_)
  · rw [el] at this
    exact this
  · obtain ⟨x, x1, rfl⟩ := List.mem_map.mp hy
    exact Mb_n t x (r2 x x1)
  · rw [el] at hi hj
    rw [map_gD (by omega), map_gD (by omega)] at q
    have li : (rwI m a).getD i 0 < m := r2 _ (by rw [gD_lt (by omega)]; exact List.getElem_mem _)
    have lj : (rwI m a).getD j 0 < m := r2 _ (by rw [gD_lt (by omega)]; exact List.getElem_mem _)
    exact r3 i hi j hj (Mb_in t _ _ li lj q)
