-- the two sides as one: rows of what they keep
def cut (n : Nat) (f : Nat → Int32) : Nat → Int32 := fun i => if i < n then f i else 0
def CV (h : HI) : Nat → Nat → Int32
  | 0 => vw (h 0)
  | 1 => if h 3 16 3 = 0 then fun _ => 0 else vw (h 1)
  | 2 => fun _ => h 3 16 3
  | 3 => cut 7 (h 3 17)
  | 4 => fun _ => h 5 26 1
  | 5 => cut 120 (h 5 27)
  | 6 => cut 4 (h 6 29)
  | 7 => cut 4 (h 6 30)
  | _ => fun _ => 0
def RV (h : HI) : Nat → Nat → Int32
  | 0 => tk (h 8 33)
  | 1 => if h 8 32 4 = 0 then fun _ => 0 else tk (h 8 34)
  | 2 => fun _ => h 8 32 4
  | 3 => cut 7 (h 8 36)
  | 4 => fun _ => h 8 32 12
  | 5 => cut 120 (h 8 39)
  | 6 => cut 4 (h 8 40)
  | 7 => cut 4 (h 8 41)
  | _ => fun _ => 0
/-- the class's side becomes A, the reference's stays -/
def CTo (h : HI) (A : Nat → Nat → Int32) (h' : HI) : Prop := h' 8 = h 8 ∧ CV h' = A
def RTo (h : HI) (A : Nat → Nat → Int32) (h' : HI) : Prop := (∀ g, g ≠ 8 → h' g = h g) ∧ RV h' = A
theorem row_ext {A B : Nat → Nat → Int32} (h0 : A 0 = B 0) (h1 : A 1 = B 1) (h2 : A 2 = B 2) (h3 : A 3 = B 3) (h4 : A 4 = B 4) (h5 : A 5 = B 5) (h6 : A 6 = B 6) (h7 : A 7 = B 7) (h8 : ∀ i, A (i + 8) = B (i + 8)) : A = B := by
  funext i
  match i with
  | 0 => exact h0
  | 1 => exact h1
  | 2 => exact h2
  | 3 => exact h3
  | 4 => exact h4
  | 5 => exact h5
  | 6 => exact h6
  | 7 => exact h7
  | i + 8 => exact h8 i
theorem CTo.rf {h : HI} : CTo h (CV h) h := ⟨rfl, rfl⟩
theorem RTo.rf {h : HI} : RTo h (RV h) h := ⟨fun _ _ => rfl, rfl⟩
theorem CTo.tr {h h1 h2 : HI} {A B : Nat → Nat → Int32} (a : CTo h A h1) (b : CTo h1 B h2) : CTo h B h2 := ⟨b.1.trans a.1, b.2⟩
theorem RTo.tr {h h1 h2 : HI} {A B : Nat → Nat → Int32} (a : RTo h A h1) (b : RTo h1 B h2) : RTo h B h2 := ⟨fun g e => (b.1 g e).trans (a.1 g e), b.2⟩
/-- only groups of scratch changed -/
theorem CTo.idle {h h' : HI} (o : ∀ g, g ≠ 2 → g ≠ 4 → h' g = h g) : CTo h (CV h) h' := by
  refine ⟨o 8 (by decide) (by decide), ?_⟩
  refine row_ext ?_ ?_ ?_ ?_ ?_ ?_ ?_ ?_ (fun i => rfl)
  · show vw (h' 0) = vw (h 0)
    rw [o 0 (by decide) (by decide)]
  · show (if h' 3 16 3 = 0 then fun _ => 0 else vw (h' 1)) = (if h 3 16 3 = 0 then fun _ => 0 else vw (h 1))
    rw [o 3 (by decide) (by decide), o 1 (by decide) (by decide)]
  · show (fun _ : Nat => h' 3 16 3) = fun _ => h 3 16 3
    rw [o 3 (by decide) (by decide)]
  · show cut 7 (h' 3 17) = cut 7 (h 3 17)
    rw [o 3 (by decide) (by decide)]
  · show (fun _ : Nat => h' 5 26 1) = fun _ => h 5 26 1
    rw [o 5 (by decide) (by decide)]
  · show cut 120 (h' 5 27) = cut 120 (h 5 27)
    rw [o 5 (by decide) (by decide)]
  · show cut 4 (h' 6 29) = cut 4 (h 6 29)
    rw [o 6 (by decide) (by decide)]
  · show cut 4 (h' 6 30) = cut 4 (h 6 30)
    rw [o 6 (by decide) (by decide)]
theorem CTo.book {h h' : HI} {F : Nat → Int32} (b : BkTo h 0 F h') : CTo h (cU (CV h) 0 F) h' := by
  refine ⟨b.out (by decide), ?_⟩
  refine row_ext ?_ ?_ ?_ ?_ ?_ ?_ ?_ ?_ (fun i => ?_)
  · rw [cU_s]
    exact b.at
  · rw [cU_n (by decide)]
    show (if h' 3 16 3 = 0 then fun _ => 0 else vw (h' 1)) = (if h 3 16 3 = 0 then fun _ => 0 else vw (h 1))
    rw [b.out (show 3 ≠ 0 by decide), b.out (show 1 ≠ 0 by decide)]
  · rw [cU_n (by decide)]
    show (fun _ : Nat => h' 3 16 3) = fun _ => h 3 16 3
    rw [b.out (show 3 ≠ 0 by decide)]
  · rw [cU_n (by decide)]
    show cut 7 (h' 3 17) = cut 7 (h 3 17)
    rw [b.out (show 3 ≠ 0 by decide)]
  · rw [cU_n (by decide)]
    show (fun _ : Nat => h' 5 26 1) = fun _ => h 5 26 1
    rw [b.out (show 5 ≠ 0 by decide)]
  · rw [cU_n (by decide)]
    show cut 120 (h' 5 27) = cut 120 (h 5 27)
    rw [b.out (show 5 ≠ 0 by decide)]
  · rw [cU_n (by decide)]
    show cut 4 (h' 6 29) = cut 4 (h 6 29)
    rw [b.out (show 6 ≠ 0 by decide)]
  · rw [cU_n (by decide)]
    show cut 4 (h' 6 30) = cut 4 (h 6 30)
    rw [b.out (show 6 ≠ 0 by decide)]
  · rw [cU_n (by omega)]
    rfl
/-- of the reference only the row of the book, the row put by and scratch cells changed -/
theorem RTo.book {h h' : HI} {F : Nat → Int32} (b : RkA h F h') : RTo h (cU (RV h) 0 F) h' := by
  have o : ∀ k, k ≠ 33 → k ≠ 35 → h' 8 k = h 8 k := fun k e1 e2 => b.1 8 k (fun z => by omega)
  refine ⟨fun g e => funext fun k => b.1 g k (fun z => e z.1), ?_⟩
  refine row_ext ?_ ?_ ?_ ?_ ?_ ?_ ?_ ?_ (fun i => ?_)
  · rw [cU_s]
    exact b.2
  · rw [cU_n (by decide)]
    show (if h' 8 32 4 = 0 then fun _ => 0 else tk (h' 8 34)) = (if h 8 32 4 = 0 then fun _ => 0 else tk (h 8 34))
    rw [o 32 (by decide) (by decide), o 34 (by decide) (by decide)]
  · rw [cU_n (by decide)]
    show (fun _ : Nat => h' 8 32 4) = fun _ => h 8 32 4
    rw [o 32 (by decide) (by decide)]
  · rw [cU_n (by decide)]
    show cut 7 (h' 8 36) = cut 7 (h 8 36)
    rw [o 36 (by decide) (by decide)]
  · rw [cU_n (by decide)]
    show (fun _ : Nat => h' 8 32 12) = fun _ => h 8 32 12
    rw [o 32 (by decide) (by decide)]
  · rw [cU_n (by decide)]
    show cut 120 (h' 8 39) = cut 120 (h 8 39)
    rw [o 39 (by decide) (by decide)]
  · rw [cU_n (by decide)]
    show cut 4 (h' 8 40) = cut 4 (h 8 40)
    rw [o 40 (by decide) (by decide)]
  · rw [cU_n (by decide)]
    show cut 4 (h' 8 41) = cut 4 (h 8 41)
    rw [o 41 (by decide) (by decide)]
  · rw [cU_n (by omega)]
    rfl
theorem cU_self {A : Nat → Nat → Int32} {k : Nat} : cU A k (A k) = A := by
  funext i
  by_cases e : i = k
  · rw [e, cU_s]
  · rw [cU_n e]
theorem cut_up {n j : Nat} {f : Nat → Int32} {x : Int32} (hj : j < n) : cut n (upd f j x) = upd (cut n f) j x := by
  funext i
  unfold cut
  by_cases e : i = j
  · subst e
    rw [if_pos hj, up_s, up_s]
  · rw [up_n e, up_n e]
theorem cut_lt {n j : Nat} {f : Nat → Int32} (hj : j < n) : cut n f j = f j := if_pos hj
/-- one answer of trouble more -/
def tellS (A : Nat → Nat → Int32) (j : Nat) : Nat → Nat → Int32 := cU A 3 (upd (A 3) j (A 3 j + 1))
theorem c_tell {h : HI} {x : Int32} (j : Nat) (hj : j < 7) (e : (-1000000001) - x = nI j) : ∃ h', FX9_tell x h = some (x, h') ∧ CTo h (tellS (CV h) j) h' := by
  refine ⟨hP1 h 3 17 j (h 3 17 j + 1), ?_, ?_, ?_⟩
  · unfold FX9_tell
    rw [nm_eq, e, if_neg (nI_nn (by omega)), if_neg (by rw [show (7 : Int32) = nI 7 from rfl, nI_le12 (by omega) (by omega)]; omega), gd_ix hj (by decide), gd_ix hj (by decide), nC_n (by omega), nm_eq]
  · unfold hP1
    rw [hU_n (by decide)]
  · have o : ∀ g, g ≠ 3 → hP1 h 3 17 j (h 3 17 j + 1) g = h g := fun g hg => by unfold hP1; rw [hU_n hg]
    have o3 : ∀ k, k ≠ 17 → hP1 h 3 17 j (h 3 17 j + 1) 3 k = h 3 k := fun k hk => by unfold hP1; rw [hU_s, cU_n hk]
    have a3 : hP1 h 3 17 j (h 3 17 j + 1) 3 17 = upd (h 3 17) j (h 3 17 j + 1) := by unfold hP1; rw [hU_s, cU_s]
    generalize hP1 h 3 17 j (h 3 17 j + 1) = h' at o o3 a3 ⊢
    unfold tellS
    refine row_ext ?_ ?_ ?_ ?_ ?_ ?_ ?_ ?_ (fun i => ?_)
    · rw [cU_n (by decide)]
      show vw (h' 0) = vw (h 0)
      rw [o 0 (by decide)]
    · rw [cU_n (by decide)]
      show (if h' 3 16 3 = 0 then fun _ => 0 else vw (h' 1)) = (if h 3 16 3 = 0 then fun _ => 0 else vw (h 1))
      rw [o3 16 (by decide), o 1 (by decide)]
    · rw [cU_n (by decide)]
      show (fun _ : Nat => h' 3 16 3) = fun _ => h 3 16 3
      rw [o3 16 (by decide)]
    · rw [cU_s]
      show cut 7 (h' 3 17) = upd (cut 7 (h 3 17)) j (cut 7 (h 3 17) j + 1)
      rw [a3, cut_up hj, cut_lt hj]
    · rw [cU_n (by decide)]
      show (fun _ : Nat => h' 5 26 1) = fun _ => h 5 26 1
      rw [o 5 (by decide)]
    · rw [cU_n (by decide)]
      show cut 120 (h' 5 27) = cut 120 (h 5 27)
      rw [o 5 (by decide)]
    · rw [cU_n (by decide)]
      show cut 4 (h' 6 29) = cut 4 (h 6 29)
      rw [o 6 (by decide)]
    · rw [cU_n (by decide)]
      show cut 4 (h' 6 30) = cut 4 (h 6 30)
      rw [o 6 (by decide)]
    · rw [cU_n (by omega)]
      rfl
theorem r_tell {h : HI} {x : Int32} (j : Nat) (hj : j < 7) (e : (-1000000001) - x = nI j) : ∃ h', FX10_finds x h = some (x, h') ∧ RTo h (tellS (RV h) j) h' := by
  refine ⟨hP1 h 8 36 j (h 8 36 j + 1), ?_, ?_, ?_⟩
  · unfold FX10_finds
    rw [e, gd_ix hj (by decide), gd_ix hj (by decide), nC_n (by omega), nm_eq]
  · intro g hg
    unfold hP1
    rw [hU_n hg]
  · have o : ∀ k, k ≠ 36 → hP1 h 8 36 j (h 8 36 j + 1) 8 k = h 8 k := fun k hk => by unfold hP1; rw [hU_s, cU_n hk]
    have a3 : hP1 h 8 36 j (h 8 36 j + 1) 8 36 = upd (h 8 36) j (h 8 36 j + 1) := by unfold hP1; rw [hU_s, cU_s]
    generalize hP1 h 8 36 j (h 8 36 j + 1) = h' at o a3 ⊢
    unfold tellS
    refine row_ext ?_ ?_ ?_ ?_ ?_ ?_ ?_ ?_ (fun i => ?_)
    · rw [cU_n (by decide)]
      show tk (h' 8 33) = tk (h 8 33)
      rw [o 33 (by decide)]
    · rw [cU_n (by decide)]
      show (if h' 8 32 4 = 0 then fun _ => 0 else tk (h' 8 34)) = (if h 8 32 4 = 0 then fun _ => 0 else tk (h 8 34))
      rw [o 32 (by decide), o 34 (by decide)]
    · rw [cU_n (by decide)]
      show (fun _ : Nat => h' 8 32 4) = fun _ => h 8 32 4
      rw [o 32 (by decide)]
    · rw [cU_s]
      show cut 7 (h' 8 36) = upd (cut 7 (h 8 36)) j (cut 7 (h 8 36) j + 1)
      rw [a3, cut_up hj, cut_lt hj]
    · rw [cU_n (by decide)]
      show (fun _ : Nat => h' 8 32 12) = fun _ => h 8 32 12
      rw [o 32 (by decide)]
    · rw [cU_n (by decide)]
      show cut 120 (h' 8 39) = cut 120 (h 8 39)
      rw [o 39 (by decide)]
    · rw [cU_n (by decide)]
      show cut 4 (h' 8 40) = cut 4 (h 8 40)
      rw [o 40 (by decide)]
    · rw [cU_n (by decide)]
      show cut 4 (h' 8 41) = cut 4 (h 8 41)
      rw [o 41 (by decide)]
    · rw [cU_n (by omega)]
      rfl
-- what both keep, as it must be
def BkI (F : Nat → Int32) : Prop := ∃ n nw l d c : Nat, BP F n nw ∧ OI F n l ∧ F 3 = nI d ∧ d ≤ 99 ∧ F 4 = nI c ∧ c ≤ 1188 * d
def AI (A : Nat → Nat → Int32) : Prop := BkI (A 0) ∧ (A 2 0 = 0 ∨ (A 2 0 = 1 ∧ BkI (A 1))) ∧ (∃ T : Nat, A 4 0 = nI T ∧ T ≤ 120 ∧ ∀ i, i < T → rg (A 5 i) 0 255) ∧ ∀ s, s < 4 → (A 6 s = 0 ∨ A 6 s = 8 ∨ A 6 s = 16 ∨ A 6 s = 64) ∧ rg (A 7 s) 0 40
/-- the two sides are the same -/
def Rel (h : HI) : Prop := CV h = RV h ∧ AI (CV h)
/-- an operation: both answer alike and stay the same -/
def Ops (c r : HI → Option (Int32 × HI)) : Prop := ∀ h, Rel h → ∃ x h1 h2, c h = some (x, h1) ∧ r h1 = some (x, h2) ∧ Rel h2
theorem CV_other {h h' : HI} (o : ∀ g, g ≠ 8 → h' g = h g) : CV h' = CV h := by
  refine row_ext ?_ ?_ ?_ ?_ ?_ ?_ ?_ ?_ (fun i => rfl)
  · show vw (h' 0) = vw (h 0)
    rw [o 0 (by decide)]
  · show (if h' 3 16 3 = 0 then fun _ => 0 else vw (h' 1)) = (if h 3 16 3 = 0 then fun _ => 0 else vw (h 1))
    rw [o 3 (by decide), o 1 (by decide)]
  · show (fun _ : Nat => h' 3 16 3) = fun _ => h 3 16 3
    rw [o 3 (by decide)]
  · show cut 7 (h' 3 17) = cut 7 (h 3 17)
    rw [o 3 (by decide)]
  · show (fun _ : Nat => h' 5 26 1) = fun _ => h 5 26 1
    rw [o 5 (by decide)]
  · show cut 120 (h' 5 27) = cut 120 (h 5 27)
    rw [o 5 (by decide)]
  · show cut 4 (h' 6 29) = cut 4 (h 6 29)
    rw [o 6 (by decide)]
  · show cut 4 (h' 6 30) = cut 4 (h 6 30)
    rw [o 6 (by decide)]
theorem RV_other {h h' : HI} (o : h' 8 = h 8) : RV h' = RV h := by
  refine row_ext ?_ ?_ ?_ ?_ ?_ ?_ ?_ ?_ (fun i => rfl)
  · show tk (h' 8 33) = tk (h 8 33)
    rw [o]
  · show (if h' 8 32 4 = 0 then fun _ => 0 else tk (h' 8 34)) = (if h 8 32 4 = 0 then fun _ => 0 else tk (h 8 34))
    rw [o]
  · show (fun _ : Nat => h' 8 32 4) = fun _ => h 8 32 4
    rw [o]
  · show cut 7 (h' 8 36) = cut 7 (h 8 36)
    rw [o]
  · show (fun _ : Nat => h' 8 32 12) = fun _ => h 8 32 12
    rw [o]
  · show cut 120 (h' 8 39) = cut 120 (h 8 39)
    rw [o]
  · show cut 4 (h' 8 40) = cut 4 (h 8 40)
    rw [o]
  · show cut 4 (h' 8 41) = cut 4 (h 8 41)
    rw [o]
/-- both sides by one description: the answer x and what is kept, A' -/
theorem Ops_of {c r : HI → Option (Int32 × HI)} (sp : (Nat → Nat → Int32) → Int32 × (Nat → Nat → Int32)) (hc : ∀ h, AI (CV h) → ∃ h', c h = some ((sp (CV h)).1, h') ∧ CTo h (sp (CV h)).2 h') (hr : ∀ h, AI (RV h) → ∃ h', r h = some ((sp (RV h)).1, h') ∧ RTo h (sp (RV h)).2 h') (hI : ∀ A, AI A → AI (sp A).2) : Ops c r := by
  intro h ⟨e, i⟩
  obtain ⟨h1, c1, c2⟩ := hc h i
  have e1 : RV h1 = CV h := (RV_other c2.1).trans e.symm
  obtain ⟨h2, r1, r2⟩ := hr h1 (by rw [e1]; exact i)
  rw [e1] at r1 r2
  refine ⟨_, h1, h2, c1, r1, ?_, ?_⟩
  · rw [CV_other r2.1, c2.2, r2.2]
  · rw [CV_other r2.1, c2.2]
    exact hI _ i
