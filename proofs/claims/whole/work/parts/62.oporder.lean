-- the operations of the order
/-- both sides by one relation: the class finds an answer, the reference gives it -/
theorem Ops_rel {c r : HI → Option (Int32 × HI)} (D : (Nat → Nat → Int32) → Int32 → (Nat → Nat → Int32) → Prop) (hc : ∀ h, AI (CV h) → ∃ x A' h', c h = some (x, h') ∧ CTo h A' h' ∧ D (CV h) x A') (hr : ∀ h x A', AI (RV h) → D (RV h) x A' → ∃ h', r h = some (x, h') ∧ RTo h A' h') (hI : ∀ A x A', AI A → D A x A' → AI A') : Ops c r := by
  intro h ⟨e, i⟩
  obtain ⟨x, A', h1, c1, c2, c3⟩ := hc h i
  have e1 : RV h1 = CV h := (RV_other c2.1).trans e.symm
  obtain ⟨h2, r1, r2⟩ := hr h1 x A' (by rw [e1]; exact i) (by rw [e1]; exact c3)
  refine ⟨x, h1, h2, c1, r1, ?_, ?_⟩
  · rw [CV_other r2.1, c2.2, r2.2]
  · rw [CV_other r2.1, c2.2]
    exact hI _ _ _ i c3
theorem AI_book {A : Nat → Nat → Int32} {F : Nat → Int32} (i : AI A) (b : BkI F) : AI (cU A 0 F) := by
  obtain ⟨i1, i2, i3, i4⟩ := i
  refine ⟨by rw [cU_s]; exact b, ?_, ?_, ?_⟩
  · rw [cU_n (by decide), cU_n (by decide)]
    exact i2
  · rw [cU_n (by decide), cU_n (by decide)]
    exact i3
  · rw [cU_n (by decide), cU_n (by decide)]
    exact i4
theorem AI_tell {A : Nat → Nat → Int32} {j : Nat} (i : AI A) : AI (tellS A j) := by
  obtain ⟨i1, i2, i3, i4⟩ := i
  unfold tellS
  refine ⟨by rw [cU_n (by decide)]; exact i1, ?_, ?_, ?_⟩
  · rw [cU_n (by decide), cU_n (by decide)]
    exact i2
  · rw [cU_n (by decide), cU_n (by decide)]
    exact i3
  · rw [cU_n (by decide), cU_n (by decide)]
    exact i4
