-- THE WORLD: abstract values, the 76 cells that law and class make, and what is known of the tables
abbrev AV : Type := Int32 ⊕ (Int64 ⊕ ((Nat × Nat) ⊕ Value))
abbrev aI (x : Int32) : AV := Sum.inl x
abbrev aL (x : Int64) : AV := Sum.inr (Sum.inl x)
abbrev aR (g k : Nat) : AV := Sum.inr (Sum.inr (Sum.inl (g, k)))
abbrev aV (v : Value) : AV := Sum.inr (Sum.inr (Sum.inr v))
/-- whole numbers of the cells: group, cell, place -/
abbrev HI : Type := Nat → Nat → Nat → Int32
abbrev HL : Type := Nat → Nat → Nat → Int64
/-- class ids and slots, addresses by group and cell, array classes by group and cell -/
abbrev WC : Type := va_G × (Nat → Nat → Nat) × (Nat → Nat → ClassId)
def cv (ω : WC) : AV → Value
  | .inl x => .int x
  | .inr (.inl x) => .long x
  | .inr (.inr (.inl q)) => .ref (ω.2.1 q.1 q.2)
  | .inr (.inr (.inr v)) => v
/-- the class of an object cell (its place in vwCl); none: an array -/
def ck : Nat → Option Nat
  | 0 => some 0
  | 1 => some 5
  | 8 => some 8
  | 14 => some 3
  | 16 => some 9
  | 18 => some 1
  | 24 => some 4
  | 25 => some 2
  | 26 => some 7
  | 28 => some 6
  | 32 => some 10
  | _ => none
/-- an object cell's fields: a reference to a cell, or a number -/
def ft (g : Nat) : Nat → List (Option (Nat × Nat))
  | 0 => [some (g, 1), some (g, 8), some (g, 14), none, none, none]
  | 1 => [some (g, 2), some (g, 3), some (g, 4), some (g, 5), some (g, 6), some (g, 7), none]
  | 8 => [some (g, 9), some (g, 10), some (g, 11), some (g, 12), some (g, 13), none]
  | 14 => [some (g, 15), none]
  | 16 => [some (3, 17), some (0, 0), some (1, 0), none, some (4, 18), some (7, 24), some (5, 25), some (6, 28)]
  | 18 => [some (4, 19), some (4, 20), some (4, 21), some (4, 22), some (4, 23), none, none, none, none]
  | 24 => [some (2, 0)]
  | 25 => [some (5, 26)]
  | 26 => [some (5, 27), none, none, none, none, none]
  | 28 => [some (6, 29), some (6, 30), some (6, 31)]
  | 32 => [some (8, 33), some (8, 34), some (8, 35), some (8, 36), none, none, none, none, some (8, 37), some (8, 38), none, some (8, 39), none, none, none, none, none, some (8, 40), some (8, 41), some (8, 42), some (8, 43)]
  | _ => []
def alen : Nat → Nat
  | 17 => 7
  | 19 => 144
  | 20 => 144
  | 27 => 120
  | 29 => 4
  | 30 => 4
  | 31 => 160
  | 33 => 150
  | 34 => 150
  | 35 => 150
  | 36 => 7
  | 37 => 5
  | 38 => 5
  | 39 => 120
  | 40 => 4
  | 41 => 4
  | 42 => 160
  | 43 => 40
  | _ => 12
def isL : Nat → Bool
  | 31 => true
  | 42 => true
  | 43 => true
  | _ => false
def aty (k : Nat) : FieldType := if isL k = true then .long else .int
/-- the group of a cell that is there once -/
def gk (k : Nat) : Nat := if k < 18 then 3 else if k < 24 then 4 else if k < 25 then 7 else if k < 28 then 5 else if k < 32 then 6 else 8
def inW (g k : Nat) : Bool := if k < 16 then decide (g < 3) else (decide (k < 44) && (gk k == g))
def idx : List (Nat × Nat) := ((List.range 16).map fun k => (0, k)) ++ ((List.range 16).map fun k => (1, k)) ++ ((List.range 16).map fun k => (2, k)) ++ ((List.range 28).map fun k => (gk (16 + k), 16 + k))
theorem bk {g : Nat} (hg : g < 3) {k : Nat} (hk : k < 16) : inW g k = true := by
  unfold inW
  rw [if_pos hk]
  exact decide_eq_true hg
theorem idx_len : idx.length = 76 := by decide +kernel
theorem idx_inj {i j : Nat} {q : Nat × Nat} (hi : idx[i]? = some q) (hj : idx[j]? = some q) : i = j := by
  have key : ∀ i : Fin 76, ∀ j : Fin 76, idx[i.val]? = idx[j.val]? → i = j := by decide +kernel
  have li : i < 76 := by rw [← idx_len]; exact (List.getElem?_eq_some_iff.mp hi).1
  have lj : j < 76 := by rw [← idx_len]; exact (List.getElem?_eq_some_iff.mp hj).1
  exact Fin.mk.inj (key ⟨i, li⟩ ⟨j, lj⟩ (hi.trans hj.symm))
theorem idx_mem {g k : Nat} (h : inW g k = true) : (g, k) ∈ idx := by
  unfold inW at h
  split at h
  · next hk =>
    have hg : g < 3 := of_decide_eq_true h
    have key : ∀ g : Fin 3, ∀ k : Fin 16, (g.val, k.val) ∈ idx := by decide +kernel
    exact key ⟨g, hg⟩ ⟨k, hk⟩
  · next hk =>
    simp only [Bool.and_eq_true, decide_eq_true_eq, beq_iff_eq] at h
    obtain ⟨h1, h2⟩ := h
    have key : ∀ k : Fin 44, 16 ≤ k.val → (gk k.val, k.val) ∈ idx := by decide +kernel
    rw [← h2]
    exact key ⟨k, h1⟩ (show 16 ≤ k by omega)
theorem idx_in {g k : Nat} (h : (g, k) ∈ idx) : inW g k = true := by
  have key : ∀ q ∈ idx, inW q.1 q.2 = true := by decide +kernel
  exact key (g, k) h
/-- an object's fields as values -/
def fv (ω : WC) (u : Nat → Int32) : Nat → List (Option (Nat × Nat)) → List Value
  | _, [] => []
  | j, some q :: r => .ref (ω.2.1 q.1 q.2) :: fv ω u (j + 1) r
  | j, none :: r => .int (u j) :: fv ω u (j + 1) r
theorem fv_ref {ω : WC} {u : Nat → Int32} {q : Nat × Nat} : ∀ {l : List (Option (Nat × Nat))} {j i : Nat}, l[i]? = some (some q) → (fv ω u j l)[i]? = some (.ref (ω.2.1 q.1 q.2))
  | [], _, _, h => by simp at h
  | o :: r, j, 0, h => by
    simp only [List.getElem?_cons_zero, Option.some.injEq] at h
    subst h
    rfl
  | o :: r, j, i + 1, h => by
    rw [List.getElem?_cons_succ] at h
    cases o <;> (simp only [fv, List.getElem?_cons_succ]; exact fv_ref h)
theorem fv_int {ω : WC} {u : Nat → Int32} : ∀ {l : List (Option (Nat × Nat))} {j i : Nat}, l[i]? = some none → (fv ω u j l)[i]? = some (.int (u (j + i)))
  | [], _, _, h => by simp at h
  | o :: r, j, 0, h => by
    simp only [List.getElem?_cons_zero, Option.some.injEq] at h
    subst h
    rfl
  | o :: r, j, i + 1, h => by
    rw [List.getElem?_cons_succ] at h
    have e : j + (i + 1) = (j + 1) + i := by omega
    cases o <;> (simp only [fv, List.getElem?_cons_succ]; rw [e]; exact fv_int h)
theorem fv_cong {ω : WC} {u v : Nat → Int32} : ∀ {l : List (Option (Nat × Nat))} {j : Nat}, (∀ i, j ≤ i → u i = v i) → fv ω u j l = fv ω v j l
  | [], _, _ => rfl
  | o :: r, j, h => by
    cases o with
    | some q => simp only [fv]; rw [fv_cong (fun i hi => h i (by omega))]
    | none => simp only [fv]; rw [fv_cong (l := r) (j := j + 1) (fun i hi => h i (by omega)), h j (Nat.le_refl j)]
theorem fv_set {ω : WC} {u : Nat → Int32} {x : Int32} : ∀ {l : List (Option (Nat × Nat))} {j i : Nat}, l[i]? = some none → (fv ω u j l).set i (.int x) = fv ω (upd u (j + i) x) j l
  | [], _, _, h => by simp at h
  | o :: r, j, 0, h => by
    simp only [List.getElem?_cons_zero, Option.some.injEq] at h
    subst h
    simp only [fv, List.set_cons_zero, Nat.add_zero]
    rw [fv_cong (u := u) (v := upd u j x) (fun i hi => by simp [upd]; omega)]
    simp [upd]
  | o :: r, j, i + 1, h => by
    rw [List.getElem?_cons_succ] at h
    have e : j + (i + 1) = (j + 1) + i := by omega
    cases o with
    | some q => simp only [fv, List.set_cons_succ]; rw [fv_set h, e]
    | none =>
      simp only [fv, List.set_cons_succ]
      rw [fv_set h, e]
      have e2 : upd u (j + 1 + i) x j = u j := by simp [upd]; omega
      rw [e2]
theorem fv_len {ω : WC} {u : Nat → Int32} : ∀ {l : List (Option (Nat × Nat))} {j : Nat}, (fv ω u j l).length = l.length
  | [], _ => rfl
  | o :: r, j => by cases o <;> simp [fv, fv_len]
/-- what a cell holds -/
def cellE (ω : WC) (h : HI) (L : HL) (q : Nat × Nat) : va_E :=
  match ck q.2 with
  | some ci => .inr (ci, fv ω (h q.1 q.2) 0 (ft q.1 q.2))
  | none => if isL q.2 = true then .inl (ω.2.2 q.1 q.2, alen q.2, .inr (.inl (L q.1 q.2))) else .inl (ω.2.2 q.1 q.2, alen q.2, .inl (h q.1 q.2))
def wsW (ω : WC) (h : HI) (L : HL) : va_W := idx.map fun q => (ω.2.1 q.1 q.2, cellE ω h L q)
def Aω (ω : WC) : Nat → Prop := fun a => ∃ q ∈ idx, a = ω.2.1 q.1 q.2
-- updates
def hU (h : HI) (g : Nat) (u : Nat → Nat → Int32) : HI := fun g' => if g' = g then u else h g'
def cU {α : Type} (u : Nat → Nat → α) (k : Nat) (f : Nat → α) : Nat → Nat → α := fun k' => if k' = k then f else u k'
def hUL (L : HL) (g : Nat) (u : Nat → Nat → Int64) : HL := fun g' => if g' = g then u else L g'
theorem hU_s {h : HI} {g : Nat} {u : Nat → Nat → Int32} : hU h g u g = u := if_pos rfl
theorem hU_n {h : HI} {g g' : Nat} {u : Nat → Nat → Int32} (e : g' ≠ g) : hU h g u g' = h g' := if_neg e
theorem hUL_s {h : HL} {g : Nat} {u : Nat → Nat → Int64} : hUL h g u g = u := if_pos rfl
theorem hUL_n {h : HL} {g g' : Nat} {u : Nat → Nat → Int64} (e : g' ≠ g) : hUL h g u g' = h g' := if_neg e
theorem cU_s {α : Type} {u : Nat → Nat → α} {k : Nat} {f : Nat → α} : cU u k f k = f := if_pos rfl
theorem cU_n {α : Type} {u : Nat → Nat → α} {k k' : Nat} {f : Nat → α} (e : k' ≠ k) : cU u k f k' = u k' := if_neg e
/-- place j of cell (g, k) becomes x -/
def hP1 (h : HI) (g k j : Nat) (x : Int32) : HI := hU h g (cU (h g) k (upd (h g k) j x))
def hPF (h : HI) (g k : Nat) (f : Nat → Int32) : HI := hU h g (cU (h g) k f)
def lP1 (L : HL) (g k j : Nat) (x : Int64) : HL := hUL L g (cU (L g) k (vp_updL (L g k) j x))
def lPF (L : HL) (g k : Nat) (f : Nat → Int64) : HL := hUL L g (cU (L g) k f)
theorem hPF_s {h : HI} {g k : Nat} {f : Nat → Int32} : hPF h g k f g k = f := by unfold hPF; rw [hU_s, cU_s]
theorem hPF_n {h : HI} {g k g' k' : Nat} {f : Nat → Int32} (e : ¬ (g' = g ∧ k' = k)) : hPF h g k f g' k' = h g' k' := by
  unfold hPF
  by_cases eg : g' = g
  · subst eg
    rw [hU_s, cU_n (fun z => e ⟨rfl, z⟩)]
  · rw [hU_n eg]
theorem lPF_s {h : HL} {g k : Nat} {f : Nat → Int64} : lPF h g k f g k = f := by unfold lPF; rw [hUL_s, cU_s]
theorem lPF_n {h : HL} {g k g' k' : Nat} {f : Nat → Int64} (e : ¬ (g' = g ∧ k' = k)) : lPF h g k f g' k' = h g' k' := by
  unfold lPF
  by_cases eg : g' = g
  · subst eg
    rw [hUL_s, cU_n (fun z => e ⟨rfl, z⟩)]
  · rw [hUL_n eg]
-- the world's list under a change of one cell
theorem ws_at {ω : WC} {h : HI} {L : HL} {p : Nat} {q : Nat × Nat} (hp : idx[p]? = some q) : (wsW ω h L)[p]? = some (ω.2.1 q.1 q.2, cellE ω h L q) := by
  unfold wsW
  rw [List.getElem?_map, hp]
  rfl
theorem ws_set {ω : WC} {h h' : HI} {L L' : HL} {p : Nat} {q : Nat × Nat} {e : va_E} (hp : idx[p]? = some q) (he : cellE ω h' L' q = e) (ho : ∀ q' ∈ idx, q' ≠ q → cellE ω h' L' q' = cellE ω h L q') : (wsW ω h L).set p (ω.2.1 q.1 q.2, e) = wsW ω h' L' := by
  apply List.ext_getElem?
  intro j
  have hlt : p < (wsW ω h L).length := by
    unfold wsW
    rw [List.length_map]
    exact (List.getElem?_eq_some_iff.mp hp).1
  by_cases hj : j = p
  · subst hj
    rw [List.getElem?_set_self hlt, ws_at hp, he]
  · rw [List.getElem?_set_ne (Ne.symm hj)]
    unfold wsW
    rw [List.getElem?_map, List.getElem?_map]
    cases hq : idx[j]? with
    | none => rfl
    | some q' =>
      have hne : q' ≠ q := by
        intro z
        subst z
        exact hj (idx_inj hq hp)
      show some (ω.2.1 q'.1 q'.2, cellE ω h L q') = some (ω.2.1 q'.1 q'.2, cellE ω h' L' q')
      rw [ho q' (List.mem_of_getElem? hq) hne]
theorem cell_obj {ω : WC} {h : HI} {L : HL} {g k ci : Nat} (hc : ck k = some ci) : cellE ω h L (g, k) = .inr (ci, fv ω (h g k) 0 (ft g k)) := by
  unfold cellE
  rw [hc]
theorem cell_int {ω : WC} {h : HI} {L : HL} {g k : Nat} (hc : ck k = none) (hl : isL k = false) : cellE ω h L (g, k) = .inl (ω.2.2 g k, alen k, .inl (h g k)) := by
  unfold cellE
  rw [hc]
  simp only
  rw [if_neg (by rw [hl]; decide)]
theorem cell_long {ω : WC} {h : HI} {L : HL} {g k : Nat} (hc : ck k = none) (hl : isL k = true) : cellE ω h L (g, k) = .inl (ω.2.2 g k, alen k, .inr (.inl (L g k))) := by
  unfold cellE
  rw [hc]
  simp only
  rw [if_pos hl]
theorem cell_keep {ω : WC} {h h' : HI} {L L' : HL} {q : Nat × Nat} (e1 : h' q.1 q.2 = h q.1 q.2) (e2 : L' q.1 q.2 = L q.1 q.2) : cellE ω h' L' q = cellE ω h L q := by
  unfold cellE
  rw [e1, e2]
