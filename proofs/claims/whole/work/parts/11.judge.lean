-- WHAT IS KNOWN OF THE TABLES at every state of the run, and the judgement V
def wsM (M : MD) : List Cond := .code M.1 M.2.1 M.2.2.1 M.2.2.2 :: gw
/-- static arrays: class, field, contents -/
def statL : List (String × String × List Int32) := [(RX5, "ABOVE", [-1, 0, 0, 1, 2, 0]), (RX5, "LEAST", [0, 0, 1, 0, 0]), (RX5, "MOST", [5, 9, 60, 10, 100]), (RX8, "MOST", [9, 99, 99, 1, 1]), (RX3, "FACTORIAL", [1, 1, 2, 6, 24, 120])]
/-- String constants of Grammar: entry, text -/
def strL : List (Nat × String) := [(73, "phrase"), (75, "thing"), (79, "rope"), (81, "number"), (83, "mending"), (85, "urgent"), (95, "minutes"), (100, "sound"), (49, "want"), (109, "worth"), (111, "day"), (120, "hurry"), (123, "count"), (63, "line"), (68, "order")]
def lenS : List Nat := [6, 5, 4, 6, 7, 6, 7, 5, 4, 5, 3, 5, 5, 4, 5]
def bytS : List (List Int32) := [[112, 104, 114, 97, 115, 101], [116, 104, 105, 110, 103], [114, 111, 112, 101], [110, 117, 109, 98, 101, 114], [109, 101, 110, 100, 105, 110, 103], [117, 114, 103, 101, 110, 116], [109, 105, 110, 117, 116, 101, 115], [115, 111, 117, 110, 100], [119, 97, 110, 116], [119, 111, 114, 116, 104], [100, 97, 121], [104, 117, 114, 114, 121], [99, 111, 117, 110, 116], [108, 105, 110, 101], [111, 114, 100, 101, 114]]
def St (ω : WC) (U : State) (H : Heap) : Prop :=
  va_K ω.1 vwCl [] U ∧
  (∀ g k : Nat, ck k = none → inW g k = true → ArrOfT U (ω.2.2 g k) (aty k) ∧ va_RA U (ω.2.2 g k) (aty k)) ∧
  (∀ q ∈ idx, ∀ q' ∈ idx, ω.2.1 q.1 q.2 = ω.2.1 q'.1 q'.2 → q = q') ∧
  (∀ q ∈ nestL, va_Nw (.methodLinkNest q.1 q.2.1 q.2.2.1 q.2.2.2) U) ∧
  (∀ (j : Nat) (q : String × String × List Int32), statL[j]? = some q → va_Z q.1 q.2.1 "[I" (.ref (ω.2.1 9 j)) (Aω ω) U H ∧ va_T .int (ω.2.1 9 j) q.2.2.length (fun i => .int (q.2.2.getD i 0)) (Aω ω) U H) ∧
  (∀ (i : Nat) (q : Nat × String), strL[i]? = some q → vk_R RX2 q.1 q.2 (ω.2.1 10 i) U) ∧
  vk_S 15 lenS bytS (fun i => ω.2.1 10 i) (fun i => ω.2.1 11 i) (Aω ω) U H ∧
  va_Z "java/lang/String" "COMPACT_STRINGS" "Z" (.int 1) (Aω ω) U H ∧
  va_Zq "jdk/internal/util/Preconditions" "SIOOBE_FORMATTER" "Ljava/util/function/BiFunction;" (Aω ω) U H
theorem St.warm {ω : WC} {s U : State} {H H1 : Heap} (h : St ω s H) (hW : s.WarmedH U.vm) (hq : ∀ a : Nat, a < H.size → ¬ Aω ω a → H1[a]? = H[a]?) : St ω U H1 := by
  obtain ⟨h1, h2, h3, h4, h5, h6, h7, h8, h9⟩ := h
  refine ⟨va_K.moved hW.alike h1, fun g k hc hi => ⟨arrOfT_moved hW.alike (h2 g k hc hi).1, (h2 g k hc hi).2.moved hW.alike⟩, h3, fun q hm => va_Nw.warmM hW (h4 q hm), fun j q hj => ?_, fun i q hi => vk_R.warm hW (h6 i q hi), (vk_S.moved hW.alike h7).kept hq, (va_Z.moved hW.alike h8).kept hq, (va_Zq.moved hW.alike h9).kept hq⟩
  exact ⟨(va_Z.moved hW.alike (h5 j q hj).1).kept hq, (va_T.moved hW.alike (h5 j q hj).2).kept hq⟩
theorem St.same {ω : WC} {u U : State} {H : Heap} (h : St ω u H) (hv : u.vm = U.vm) : St ω U H := by
  obtain ⟨h1, h2, h3, h4, h5, h6, h7, h8, h9⟩ := h
  have al : u.vm.Alike U.vm := by rw [← hv]; exact Vm.Alike.refl u.vm
  exact ⟨va_K.moved al h1, fun g k hc hi => ⟨arrOfT_moved al (h2 g k hc hi).1, (h2 g k hc hi).2.moved al⟩, h3, fun q hm => va_Nw.same rfl hv (h4 q hm), fun j q hj => ⟨va_Z.moved al (h5 j q hj).1, va_T.moved al (h5 j q hj).2⟩, fun i q hi => vk_R.same hv.symm (h6 i q hi), vk_S.moved al h7, va_Z.moved al h8, va_Zq.moved al h9⟩
theorem St.D {ω : WC} {s : State} {H : Heap} (h : St ω s H) (hh : HI) (L : HL) : va_D (Aω ω) (wsW ω hh L) := by
  have h3 := h.2.2.1
  refine ⟨fun i j p q hp hq e => ?_, fun k q hk => ?_⟩
  · unfold wsW at hp hq
    rw [List.getElem?_map] at hp hq
    cases hi : idx[i]? with
    | none => rw [hi] at hp; cases hp
    | some a =>
      cases hj : idx[j]? with
      | none => rw [hj] at hq; cases hq
      | some b =>
        rw [hi] at hp
        rw [hj] at hq
        cases hp
        cases hq
        have hab : a = b := h3 a (List.mem_of_getElem? hi) b (List.mem_of_getElem? hj) e
        subst hab
        exact idx_inj hi hj
  · unfold wsW at hk
    rw [List.getElem?_map] at hk
    cases hi : idx[k]? with
    | none => rw [hi] at hk; cases hk
    | some a =>
      rw [hi] at hk
      cases hk
      exact ⟨a, List.mem_of_getElem? hi, rfl⟩
theorem St.K {ω : WC} {s : State} {H : Heap} (h : St ω s H) {g k : Nat} (hc : ck k = none) (hi : inW g k = true) : va_K ω.1 vwCl [(ω.2.2 g k, aty k)] s := by
  refine ⟨h.1.1, fun i q hq => ?_⟩
  cases i with
  | zero => cases hq; exact h.2.1 g k hc hi
  | succ i => simp at hq
-- locals
def lvl (ω : WC) : Nat → List (Option AV) → List (Nat × Value)
  | _, [] => []
  | j, none :: r => lvl ω (j + 1) r
  | j, some v :: r => (j, cv ω v) :: lvl ω (j + 1) r
def catA : AV → Nat
  | .inl _ => 1
  | .inr (.inl _) => 2
  | .inr (.inr (.inl _)) => 1
  | .inr (.inr (.inr v)) => v.category
theorem cat_cv (ω : WC) (v : AV) : (cv ω v).category = catA v := by
  rcases v with x | x | x | x <;> rfl
theorem cat_sum (ω : WC) (l : List AV) : ((l.map (cv ω)).map fun v => v.category).sum = (l.map catA).sum := by
  rw [List.map_map]
  congr 1
  apply List.map_congr_left
  intro v _
  exact cat_cv ω v
theorem lvl_mem {ω : WC} {v : AV} : ∀ {ls : List (Option AV)} {j i : Nat}, ls[i]? = some (some v) → (j + i, cv ω v) ∈ lvl ω j ls
  | [], _, _, h => by simp at h
  | o :: r, j, 0, h => by
    simp only [List.getElem?_cons_zero, Option.some.injEq] at h
    subst h
    exact List.mem_cons_self
  | o :: r, j, i + 1, h => by
    rw [List.getElem?_cons_succ] at h
    have e : j + (i + 1) = (j + 1) + i := by omega
    rw [e]
    cases o with
    | none => exact lvl_mem h
    | some w => exact List.mem_cons_of_mem _ (lvl_mem h)
theorem lvl_of {ω : WC} {q : Nat × Value} : ∀ {ls : List (Option AV)} {j : Nat}, q ∈ lvl ω j ls → ∃ i v, ls[i]? = some (some v) ∧ q = (j + i, cv ω v)
  | [], _, h => by simp [lvl] at h
  | none :: r, j, h => by
    obtain ⟨i, v, h1, h2⟩ := lvl_of (ls := r) (j := j + 1) h
    exact ⟨i + 1, v, by rw [List.getElem?_cons_succ]; exact h1, by rw [h2]; congr 1; omega⟩
  | some w :: r, j, h => by
    rcases List.mem_cons.mp h with h | h
    · exact ⟨0, w, rfl, h⟩
    · obtain ⟨i, v, h1, h2⟩ := lvl_of (ls := r) (j := j + 1) h
      exact ⟨i + 1, v, by rw [List.getElem?_cons_succ]; exact h1, by rw [h2]; congr 1; omega⟩
theorem lvl_get {ω : WC} {a : Array Slot} {n : Nat} {ls : List (Option AV)} (hl : lv_has a n (lvl ω 0 ls)) {i : Nat} {v : AV} (h : ls[i]? = some (some v)) : a[i]? = some (.val (cv ω v)) := by
  have h2 := hl.2.2 _ (lvl_mem (ω := ω) (j := 0) h)
  rw [show (0 : Nat) + i = i by omega] at h2
  exact h2
/-- a local of one word is written; of two words -/
def kp (i j : Nat) (o : Option AV) : Option AV := match o with
  | some (.inr (.inl x)) => if j + 1 = i then none else some (.inr (.inl x))
  | some (.inr (.inr (.inr x))) => none
  | o => o
def sL1 (i : Nat) (v : AV) : Nat → List (Option AV) → List (Option AV)
  | _, [] => []
  | j, o :: r => (if j = i then some v else kp i j o) :: sL1 i v (j + 1) r
def sL2 (i : Nat) (v : AV) : Nat → List (Option AV) → List (Option AV)
  | _, [] => []
  | j, o :: r => (if j = i then some v else if j = i + 1 then none else kp i j o) :: sL2 i v (j + 1) r
theorem kp_of {i j : Nat} {o : Option AV} {w : AV} (h : kp i j o = some w) : o = some w ∧ ¬ (j + 1 = i ∧ catA w = 2) := by
  unfold kp at h
  rcases o with _ | ((x | x | x | x))
  · cases h
  · cases h; exact ⟨rfl, fun z => by have := z.2; simp [catA] at this⟩
  · simp only at h
    split at h
    · cases h
    · next hn => cases h; exact ⟨rfl, fun z => hn z.1⟩
  · cases h; exact ⟨rfl, fun z => by have := z.2; simp [catA] at this⟩
  · cases h
theorem sL1_of {i : Nat} {v w : AV} : ∀ {ls : List (Option AV)} {j k : Nat}, (sL1 i v j ls)[k]? = some (some w) → (j + k = i ∧ w = v) ∨ (j + k ≠ i ∧ ls[k]? = some (some w) ∧ ¬ (j + k + 1 = i ∧ catA w = 2))
  | [], _, _, h => by simp [sL1] at h
  | o :: r, j, 0, h => by
    simp only [sL1, List.getElem?_cons_zero, Option.some.injEq] at h
    by_cases hj : j = i
    · rw [if_pos hj] at h
      cases h
      exact Or.inl ⟨hj, rfl⟩
    · rw [if_neg hj] at h
      obtain ⟨e1, e2⟩ := kp_of h
      exact Or.inr ⟨hj, by rw [e1]; rfl, e2⟩
  | o :: r, j, k + 1, h => by
    simp only [sL1, List.getElem?_cons_succ] at h
    have e : j + (k + 1) = (j + 1) + k := by omega
    rcases sL1_of h with ⟨h1, h2⟩ | ⟨h1, h2, h3⟩
    · exact Or.inl ⟨by omega, h2⟩
    · exact Or.inr ⟨by omega, by rw [List.getElem?_cons_succ]; exact h2, by rw [e]; exact h3⟩
theorem sL2_of {i : Nat} {v w : AV} : ∀ {ls : List (Option AV)} {j k : Nat}, (sL2 i v j ls)[k]? = some (some w) → (j + k = i ∧ w = v) ∨ (j + k ≠ i ∧ j + k ≠ i + 1 ∧ ls[k]? = some (some w) ∧ ¬ (j + k + 1 = i ∧ catA w = 2))
  | [], _, _, h => by simp [sL2] at h
  | o :: r, j, 0, h => by
    simp only [sL2, List.getElem?_cons_zero, Option.some.injEq] at h
    by_cases hj : j = i
    · rw [if_pos hj] at h
      cases h
      exact Or.inl ⟨hj, rfl⟩
    · rw [if_neg hj] at h
      by_cases hj2 : j = i + 1
      · rw [if_pos hj2] at h
        cases h
      · rw [if_neg hj2] at h
        obtain ⟨e1, e2⟩ := kp_of h
        exact Or.inr ⟨hj, hj2, by rw [e1]; rfl, e2⟩
  | o :: r, j, k + 1, h => by
    simp only [sL2, List.getElem?_cons_succ] at h
    have e : j + (k + 1) = (j + 1) + k := by omega
    rcases sL2_of h with ⟨h1, h2⟩ | ⟨h1, h2, h3, h4⟩
    · exact Or.inl ⟨by omega, h2⟩
    · exact Or.inr ⟨by omega, by omega, by rw [List.getElem?_cons_succ]; exact h3, by rw [e]; exact h4⟩
theorem lvl_s1 {ω : WC} {a : Array Slot} {n i : Nat} {v : AV} {ls : List (Option AV)} (hl : lv_has a n ((i, cv ω v) :: (lvl ω 0 ls).filter (fun q => !(q.1 == i) && !(q.1 + 1 == i && q.2.category == 2)))) : lv_has a n (lvl ω 0 (sL1 i v 0 ls)) := by
  refine ⟨hl.1, hl.2.1, fun q hq => hl.2.2 q ?_⟩
  obtain ⟨k, w, h1, h2⟩ := lvl_of hq
  rcases sL1_of h1 with ⟨e1, e2⟩ | ⟨e1, e2, e3⟩
  · rw [h2, e2, e1]; exact List.mem_cons_self
  · refine List.mem_cons_of_mem _ (List.mem_filter.mpr ⟨by rw [h2]; exact lvl_mem e2, ?_⟩)
    rw [h2]
    simp only [Bool.and_eq_true, Bool.not_eq_true', beq_eq_false_iff_ne, ne_eq, Bool.and_eq_false_iff]
    refine ⟨e1, ?_⟩
    by_cases z : 0 + k + 1 = i
    · exact Or.inr (fun y => e3 ⟨z, by rw [← cat_cv ω w]; exact y⟩)
    · exact Or.inl z
theorem lvl_s2 {ω : WC} {a : Array Slot} {n i : Nat} {v : AV} {ls : List (Option AV)} (hl : lv_has a n ((i, cv ω v) :: (lvl ω 0 ls).filter (fun q => !(q.1 == i) && (!(q.1 == i + 1) && !(q.1 + 1 == i && q.2.category == 2))))) : lv_has a n (lvl ω 0 (sL2 i v 0 ls)) := by
  refine ⟨hl.1, hl.2.1, fun q hq => hl.2.2 q ?_⟩
  obtain ⟨k, w, h1, h2⟩ := lvl_of hq
  rcases sL2_of h1 with ⟨e1, e2⟩ | ⟨e1, e2, e3, e4⟩
  · rw [h2, e2, e1]; exact List.mem_cons_self
  · refine List.mem_cons_of_mem _ (List.mem_filter.mpr ⟨by rw [h2]; exact lvl_mem e3, ?_⟩)
    rw [h2]
    simp only [Bool.and_eq_true, Bool.not_eq_true', beq_eq_false_iff_ne, ne_eq, Bool.and_eq_false_iff]
    refine ⟨e1, e2, ?_⟩
    by_cases z : 0 + k + 1 = i
    · exact Or.inr (fun y => e4 ⟨z, by rw [← cat_cv ω w]; exact y⟩)
    · exact Or.inl z
/-- the locals with which a method begins -/
def entA : List AV → List (Option AV)
  | [] => []
  | .inr (.inl x) :: r => some (.inr (.inl x)) :: none :: entA r
  | v :: r => some v :: entA r
def entL (n : Nat) (av : List AV) : List (Option AV) := entA av ++ List.replicate (n - (entA av).length) none
theorem lvl_none {ω : WC} : ∀ (n j : Nat), lvl ω j (List.replicate n none) = []
  | 0, _ => rfl
  | n + 1, j => by simp only [List.replicate_succ, lvl]; exact lvl_none n (j + 1)
theorem lvl_app {ω : WC} (n : Nat) : ∀ (l : List (Option AV)) (j : Nat), lvl ω j (l ++ List.replicate n none) = lvl ω j l
  | [], j => by simp only [List.nil_append, lvl]; exact lvl_none n j
  | none :: r, j => by simp only [List.cons_append, lvl]; exact lvl_app n r (j + 1)
  | some v :: r, j => by simp only [List.cons_append, lvl]; rw [lvl_app n r (j + 1)]
/-- no raw value among them -/
def plainA : AV → Bool
  | .inr (.inr (.inr _)) => false
  | _ => true
theorem lvl_entA {ω : WC} : ∀ (av : List AV) (j : Nat), (∀ v ∈ av, ∀ x, v = .inr (.inr (.inr x)) → x.category = 1) → lvl ω j (entA av) = lv_args j (av.map (cv ω))
  | [], _, _ => rfl
  | .inl x :: r, j, hr => by
    simp only [entA, lvl, List.map_cons, lv_args]
    rw [lvl_entA r (j + 1) (fun v hv => hr v (List.mem_cons_of_mem _ hv)), if_neg (by simp [cv, Value.category])]
  | .inr (.inl x) :: r, j, hr => by
    simp only [entA, lvl, List.map_cons, lv_args]
    rw [lvl_entA r (j + 1 + 1) (fun v hv => hr v (List.mem_cons_of_mem _ hv)), if_pos (by simp [cv, Value.category])]
  | .inr (.inr (.inl x)) :: r, j, hr => by
    simp only [entA, lvl, List.map_cons, lv_args]
    rw [lvl_entA r (j + 1) (fun v hv => hr v (List.mem_cons_of_mem _ hv)), if_neg (by simp [cv, Value.category])]
  | .inr (.inr (.inr x)) :: r, j, hr => by
    simp only [entA, lvl, List.map_cons, lv_args]
    rw [lvl_entA r (j + 1) (fun v hv => hr v (List.mem_cons_of_mem _ hv)), if_neg (by rw [show cv ω (.inr (.inr (.inr x))) = x from rfl, hr _ List.mem_cons_self x rfl]; decide)]
-- the judgement
/-- how a walk ends: cells and slots made so far, what more is known at the method's start, the end -/
abbrev ZT : Type := (Nat × Nat) × (WC → State → Array Value → Prop) × (WC → List Frame → Array Value → State → State → Prop)
def Cx (ω : WC) (M : MD) (d : Nat) (Z : ZT) (p : Program) (R : Room) (s : State) (m : MethodId) (args : Array Value) (meth : Method) (c : Code) : Prop :=
  p.tables.exec = Jvm.exec ∧ c.code = M.2.1 ∧ meth.sig.returnType = M.2.2.2 ∧ meth.locks = false ∧ c.maxLocals = M.2.2.1 ∧ s.vm.findClass M.1.cls = some m.cls ∧ (∀ w ∈ gw, w.before args s = true) ∧ St ω s s.heap ∧ d ≤ R.frames ∧ 40 * d ≤ R.locals ∧ Z.1.1 ≤ R.cells ∧ Z.1.2 ≤ R.slots ∧ Z.2.1 ω s args
def QC (ω : WC) (Q : Option AV → HI → HL → Prop) : Array Value → State → Outcome → State → Prop := fun _ st oc t =>
  (∃ (r : Option AV) (h : HI) (L : HL), oc = .returned (r.map (cv ω)) ∧ Q r h L ∧ va_P ω.1 vwCl (wsW ω h L) t.heap) ∧ va_F (Aω ω) st t
def ZQ (Q : Option AV → HI → HL → Prop) : ZT := ((0, 0), (fun _ _ _ => True), fun ω below args s => MQ below (QC ω Q) args s 0 0 (Aω ω))
/-- from this frame of method M (d calls may stand above it) the machine comes to the end Z -/
def V (M : MD) (d : Nat) (Z : ZT) (pc : Nat) (ls : List (Option AV)) (st : List AV) (h : HI) (L : HL) : Prop :=
  ∀ (ω : WC) (p : Program) (l : Launch) (e : Env) (R : Room) (s : State) (m : MethodId) (args : Array Value) (below : List Frame) (meth : Method) (c : Code) (H : Heap) (locs : List Loc) (a : Array Slot),
    Cx ω M d Z p R s m args meth c → va_P ω.1 vwCl (wsW ω h L) H → va_S (Aω ω) s.heap H locs → lv_has a M.2.2.1 (lvl ω 0 ls) →
    W p l e R s m args below meth c H locs Z.1.1 Z.1.2 (Z.2.2 ω below args s) (F0 m pc a (st.map (cv ω)))
/-- a method's contract at these arguments and this world -/
def Con (M : MD) (d : Nat) (av : List AV) (h : HI) (L : HL) (Q : Option AV → HI → HL → Prop) : Prop :=
  ∀ (ω : WC) (l : Launch) (R : Room), d ≤ R.frames → 40 * d ≤ R.locals → R.cells = 0 → R.slots = 0 →
    Met l M.1 (wsM M) R (va_Pc (av.map (cv ω)) (fun U => St ω U U.heap ∧ va_P ω.1 vwCl (wsW ω h L) U.heap)) (QC ω Q) 0 0 (Aω ω)
/-- it answers r, the world is (h1, L1) then -/
def Rt (r : Option AV) (h1 : HI) (L1 : HL) : Option AV → HI → HL → Prop := fun r' h' L' => r' = r ∧ h' = h1 ∧ L' = L1
theorem entA_len (ω : WC) : ∀ (av : List AV), (∀ v ∈ av, ∀ x, v = .inr (.inr (.inr x)) → x.category = 1) → (lg_sl (av.map (cv ω))).length = (entA av).length
  | [], _ => rfl
  | .inl x :: r, hr => by
    have := entA_len ω r (fun v hv => hr v (List.mem_cons_of_mem _ hv))
    simp only [lg_sl, List.map_cons, List.flatMap_cons, entA, List.length_append, List.length_cons] at this ⊢
    rw [this]
    simp [cv, Value.category]
    omega
  | .inr (.inl x) :: r, hr => by
    have := entA_len ω r (fun v hv => hr v (List.mem_cons_of_mem _ hv))
    simp only [lg_sl, List.map_cons, List.flatMap_cons, entA, List.length_append, List.length_cons] at this ⊢
    rw [this]
    simp [cv, Value.category]
    omega
  | .inr (.inr (.inl x)) :: r, hr => by
    have := entA_len ω r (fun v hv => hr v (List.mem_cons_of_mem _ hv))
    simp only [lg_sl, List.map_cons, List.flatMap_cons, entA, List.length_append, List.length_cons] at this ⊢
    rw [this]
    simp [cv, Value.category]
    omega
  | .inr (.inr (.inr x)) :: r, hr => by
    have := entA_len ω r (fun v hv => hr v (List.mem_cons_of_mem _ hv))
    have hx := hr _ List.mem_cons_self x rfl
    simp only [lg_sl, List.map_cons, List.flatMap_cons, entA, List.length_append, List.length_cons] at this ⊢
    rw [this]
    simp [cv, hx]
    omega
theorem con_ofR {M : MD} {d : Nat} {av : List AV} {h : HI} {L : HL} {Q : Option AV → HI → HL → Prop} (hraw : ∀ v ∈ av, ∀ x, v = .inr (.inr (.inr x)) → x.category = 1) (hy : plainName M.1.cls = true) (hn : (entA av).length ≤ M.2.2.1) (hV : V M d (ZQ Q) 0 (entL M.2.2.1 av) [] h L) : Con M d av h L Q := by
  intro ω l R hf hloc hc hs
  refine Met.ofW (cc := M.2.1) (maxL := M.2.2.1) (ret := M.2.2.2) hy rfl ?_
  intro p e s m args below meth c s₁ B hml hv
  obtain ⟨rfl, hSt, hP⟩ := hv
  have hts0 := atoms_spec (ws := wsM M) B.pre
  have hown : s.vm.findClass M.1.cls = some m.cls := findClass_of_methodNamed B.named
  have hl := lv_entry (av.map (cv ω)) (n := M.2.2.1) (by rw [entA_len ω av hraw]; exact hn)
  rw [lg_entry_eq]
  have hl2 : lv_has (lg_sl (av.map (cv ω)) ++ List.replicate (M.2.2.1 - (lg_sl (av.map (cv ω))).length) Slot.unset).toArray M.2.2.1 (lvl ω 0 (entL M.2.2.1 av)) := by
    unfold entL
    rw [lvl_app, lvl_entA av 0 hraw]
    exact hl
  exact hV ω p l e R s m _ below meth c s.heap [] _ ⟨B.exec, B.bytes, B.returns, B.notSynchronized, hml, hown, fun w hw => hts0 w (List.mem_cons_of_mem _ hw), hSt, hf, hloc, Nat.zero_le _, Nat.zero_le _, trivial⟩ hP va_S.rf hl2
theorem raw_of {av : List AV} (h : av.all plainA = true) : ∀ v ∈ av, ∀ x, v = .inr (.inr (.inr x)) → x.category = 1 := by
  intro v hv x e
  have := List.all_eq_true.mp h v hv
  rw [e] at this
  cases this
theorem con_of {M : MD} {d : Nat} {av : List AV} {h : HI} {L : HL} {Q : Option AV → HI → HL → Prop} (ls : List (Option AV)) (hraw : av.all plainA = true) (hy : plainName M.1.cls = true) (hn : Nat.ble (entA av).length M.2.2.1 = true) (hls : entL M.2.2.1 av = ls) (hV : V M d (ZQ Q) 0 ls [] h L) : Con M d av h L Q := con_ofR (raw_of hraw) hy (Nat.le_of_ble_eq_true hn) (by rw [hls]; exact hV)
theorem Con.mono {M : MD} {d d2 : Nat} {av : List AV} {h : HI} {L : HL} {Q : Option AV → HI → HL → Prop} (hC : Con M d av h L Q) (hd : d ≤ d2) : Con M d2 av h L Q :=
  fun ω l R h1 h2 h3 h4 => hC ω l R (Nat.le_trans hd h1) (Nat.le_trans (Nat.mul_le_mul_left 40 hd) h2) h3 h4
/-- fewer locals are known -/
theorem v_forget {M : MD} {d : Nat} {Q : ZT} {pc : Nat} {ls : List (Option AV)} {st : List AV} {h : HI} {L : HL} (ls' : List (Option AV)) (hs : ∀ (i : Nat) (v : AV), ls'[i]? = some (some v) → ls[i]? = some (some v)) (k : V M d Q pc ls' st h L) : V M d Q pc ls st h L := by
  intro ω p l e R s m args below meth c H locs a C hP hS hl
  refine k ω p l e R s m args below meth c H locs a C hP hS ⟨hl.1, hl.2.1, fun q hq => ?_⟩
  obtain ⟨i, v, h1, h2⟩ := lvl_of hq
  rw [h2]
  show a[0 + i]? = _
  rw [show (0 : Nat) + i = i by omega]
  exact lvl_get hl (hs i v h1)
/-- places that may be forgotten, by a row of flags: true stays -/
def fgt : List Bool → List (Option AV) → List (Option AV)
  | _, [] => []
  | [], l => l
  | b :: bs, o :: r => (if b = true then o else none) :: fgt bs r
theorem fgt_of {v : AV} : ∀ {bs : List Bool} {l : List (Option AV)} {i : Nat}, (fgt bs l)[i]? = some (some v) → l[i]? = some (some v)
  | bs, [], i, h => by cases bs <;> exact h
  | [], o :: r, i, h => h
  | b :: bs, o :: r, 0, h => by
    simp only [fgt, List.getElem?_cons_zero, Option.some.injEq] at h ⊢
    split at h
    · exact h
    · cases h
  | b :: bs, o :: r, i + 1, h => by
    simp only [fgt, List.getElem?_cons_succ] at h ⊢
    exact fgt_of h
theorem v_fgt {M : MD} {d : Nat} {Q : ZT} {pc : Nat} {ls : List (Option AV)} {st : List AV} {h : HI} {L : HL} (bs : List Bool) (k : V M d Q pc (fgt bs ls) st h L) : V M d Q pc ls st h L := v_forget _ (fun _ _ => fgt_of) k
theorem v_post {M : MD} {d : Nat} {Q Q' : Option AV → HI → HL → Prop} {pc : Nat} {ls : List (Option AV)} {st : List AV} {h : HI} {L : HL} (hQ : ∀ r h' L', Q' r h' L' → Q r h' L') (k : V M d (ZQ Q') pc ls st h L) : V M d (ZQ Q) pc ls st h L := by
  intro ω p l e R s m args below meth c H locs a C hP hS hl T hT X
  obtain ⟨t, h1, o, h2, h3, ⟨⟨r, h', L', h4, h5, h6⟩, h7⟩, h8⟩ := k ω p l e R s m args below meth c H locs a C hP hS hl T hT X
  exact ⟨t, h1, o, h2, h3, ⟨⟨r, h', L', h4, hQ _ _ _ h5, h6⟩, h7⟩, h8⟩
