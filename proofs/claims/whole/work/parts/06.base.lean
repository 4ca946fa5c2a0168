-- words of the tables that are good at every state, methods, links: what the links of the next part say
def gw : List Cond := lw_tbl.filter goodWord
theorem gw_at {w : Cond} (i : Nat) (hi : lw_tbl[i]? = some w) (hg : goodWord w = true) : w ∈ gw := List.mem_filter.mpr ⟨List.mem_of_getElem? hi, hg⟩
theorem gw_good : GoodIn gw gw := fun w h => ⟨h, good_of_word (List.mem_filter.mp h).2⟩
/-- a method: name, bytes, locals, answer -/
abbrev MD : Type := MethodName × ByteArray × Nat × Option FieldType
/-- links among nest mates: class, entry, method, host -/
def nestL : List (String × Nat × MethodName × String) := [(RX9, 15, yX0_init, RX9), (RX0, 11, yX5_init, RX9), (RX0, 20, yX8_init, RX9), (RX0, 27, yX3_init, RX9), (RX9, 29, yX1_init, RX9), (RX9, 36, yX4_init, RX9), (RX4, 11, yX0_init, RX9), (RX9, 43, yX2_init, RX9), (RX2, 11, yX7_init, RX9), (RX9, 50, yX6_init, RX9), (RX5, 40, yX9_within, RX9), (RX8, 34, yX9_within, RX9), (RX5, 47, yX9_isIn, RX9), (RX0, 65, yX9_isIn, RX9), (RX0, 73, yX9_metFrom, RX9), (RX1, 73, yX9_isIn, RX9), (RX1, 70, yX9_metFrom, RX9), (RX2, 146, yX9_within, RX9)]
/-- an entry of the pool names field j of class ci -/
def FL (own : String) (ix ci j : Nat) : Prop := ∃ (Cn : String) (T : u_T) (N : Nat), vwCl[ci]? = some (Cn, T, N) ∧ j < N ∧ Cond.fieldLink own ix (T j).1 (T j).2.1 (T j).2.2.1 ∈ gw ∧ ∀ w ∈ u_ws Cn T N, w ∈ gw
def PL (own : String) (ix ci j : Nat) (ty : FieldType) : Prop := ∃ (Cn : String) (T : u_T) (N : Nat) (ty0 : Nat → FieldType), vwCl[ci]? = some (Cn, T, N) ∧ j < N ∧ Cond.fieldLink own ix (T j).1 (T j).2.1 (T j).2.2.1 ∈ gw ∧ (∀ w ∈ u_ws Cn T N, w ∈ gw) ∧ (∀ k, k < N → parseFieldDescriptor (T k).2.2.1 = some (ty0 k)) ∧ (∀ a, a < N → ∀ b, b < N → a ≠ b → (T a).2.1 ≠ (T b).2.1) ∧ (T j).2.2.2 = false ∧ parseFieldDescriptor (T j).2.2.1 = some ty
def OKM (M : MD) (n : Nat) : Prop := Cond.code M.1 M.2.1 M.2.2.1 M.2.2.2 ∈ gw ∧ Cond.initialized M.1.cls ∈ gw ∧ (M.1.cls ≠ "java/lang/invoke/MethodHandle" ∧ M.1.cls ≠ "java/lang/invoke/VarHandle" ∧ (parseMethodDescriptor M.1.desc).map (fun d => d.parameters.length) = some n) ∧ M.2.2.1 ≤ 21
def OKV (M : MD) (n : Nat) : Prop := OKM M n ∧ Cond.instanceMethod M.1 ∈ gw ∧ Cond.selects M.1.cls M.1 M.1 ∈ gw
def OKS (M : MD) (n : Nat) : Prop := OKM M n ∧ Cond.static M.1 ∈ gw
