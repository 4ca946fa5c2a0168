-- VX: if the function has a value b that is good, the walk comes to its end
def VX {β : Type} (M : MD) (d : Nat) (T : ZT) (G : β → Prop) (pc : Nat) (ls : List (Option AV)) (st : List AV) (h : HI) (L : HL) (o : Option β) : Prop := ∀ b, o = some b → G b → V M d T pc ls st h L
def gd {β : Type} (c : Bool) (o : Option β) : Option β := if c = true then o else none
def nm {α β : Type} (a : α) (f : α → β) : β := f a
def nC (i : Int32) : Nat := i.toNatClampNeg
def ixb (i : Int32) (n : Nat) : Bool := !decide (i < 0) && decide (nC i < n)
def isB (x : Int32) : Bool := decide (x = 0) || decide (x = 1)
def okI (g k : Nat) : Bool := inW g k && ((ck k).isNone && !isL k)
def cpb (i j n : Int32) (a b : Nat) : Bool := (!decide (i < 0) && (!decide (j < 0) && !decide (n < 0))) && (decide (nC i + nC n ≤ a) && decide (nC j + nC n ≤ b))
def loopN {σ ε : Type} (f : σ → Option (σ ⊕ ε)) : Nat → σ → Option ε
  | 0, _ => none
  | n + 1, s => match f s with
    | none => none
    | some (.inl s') => loopN f n s'
    | some (.inr e) => some e
def FU : Nat := 5000
def gS {σ ε : Type} (A : σ → Prop) (B : ε → Prop) : σ ⊕ ε → Prop
  | .inl s => A s
  | .inr e => B e
theorem gd_t {β : Type} {c : Bool} {o : Option β} (h : c = true) : gd c o = o := if_pos h
theorem gd_some {β : Type} {c : Bool} {o : Option β} {b : β} (h : gd c o = some b) : c = true ∧ o = some b := by
  unfold gd at h
  split at h
  · next z => exact ⟨z, h⟩
  · cases h
theorem ixb_iff {i : Int32} {n : Nat} : ixb i n = true ↔ ¬ i < 0 ∧ nC i < n := by
  unfold ixb
  simp only [Bool.and_eq_true, Bool.not_eq_true', decide_eq_false_iff_not, decide_eq_true_eq]
theorem nC_nI {i : Int32} (h : ¬ i < 0) : i = nI (nC i) := by
  obtain ⟨j, h1, h2⟩ := nI_of h
  unfold nC
  rw [h2, nI_clamp h1]
theorem isB_nar {x : Int32} (h : isB x = true) : narrow .boolean (.int x) = .int x ∧ fits .boolean (.int x) = true := by
  unfold isB at h
  simp only [Bool.or_eq_true, decide_eq_true_eq] at h
  rcases h with h | h <;> rw [h] <;> decide
theorem loop_gen {σ ε : Type} {f : σ → Option (σ ⊕ ε)} {A : σ → Prop} {B : ε → Prop} (hs : ∀ s b, f s = some b → gS A B b → A s) : ∀ (n : Nat) (s : σ) (e : ε), loopN f n s = some e → B e → A s
  | 0, _, _, h, _ => by cases h
  | n + 1, s, e, h, hB => by
    unfold loopN at h
    cases hf : f s with
    | none => rw [hf] at h; cases h
    | some b =>
      rw [hf] at h
      cases b with
      | inl s' => exact hs s _ hf (loop_gen hs n s' e h hB)
      | inr e' =>
        cases h
        exact hs s _ hf hB
abbrev RS : Type := Option AV × HI × HL
abbrev Zl {β : Type} (lf : β → RS) (x : β) : ZT := ZQ (Rt (lf x).1 (lf x).2.1 (lf x).2.2)
/-- if the function has a value, the method's contract says it -/
def CG {β : Type} (M : MD) (d : Nat) (av : List AV) (h : HI) (L : HL) (lf : β → RS) (o : Option β) : Prop := ∀ x, o = some x → Con M d av h L (Rt (lf x).1 (lf x).2.1 (lf x).2.2)
abbrev lfI (h : HI) (L : HL) (x : Int32) : RS := (some (aI x), h, L)
abbrev lfJ (h : HI) (L : HL) (x : Int64) : RS := (some (aL x), h, L)
abbrev lfR (g : Nat) (h : HI) (L : HL) (k : Nat) : RS := (some (aR g k), h, L)
abbrev lfVH (L : HL) (x : HI) : RS := (none, x, L)
abbrev lfIH (L : HL) (x : Int32 × HI) : RS := (some (aI x.1), x.2, L)
abbrev lfVL (h : HI) (x : HL) : RS := (none, h, x)
abbrev lfJL (h : HI) (x : Int64 × HL) : RS := (some (aL x.1), h, x.2)
abbrev lfIHL (x : Int32 × HI × HL) : RS := (some (aI x.1), x.2.1, x.2.2)
abbrev lfJHL (x : Int64 × HI × HL) : RS := (some (aL x.1), x.2.1, x.2.2)
-- what cells are, in one word each
def OKA (g k n : Nat) : Prop := inW g k = true ∧ ck k = none ∧ isL k = false ∧ alen k = n
def OKL (g k n : Nat) : Prop := inW g k = true ∧ ck k = none ∧ isL k = true ∧ alen k = n
def OKF (g k ci j : Nat) : Prop := inW g k = true ∧ ck k = some ci ∧ (ft g k)[j]? = some none
def OKR (g k ci j g' k' : Nat) : Prop := inW g k = true ∧ ck k = some ci ∧ (ft g k)[j]? = some (some (g', k'))
def OKO (g k : Nat) (Cn : String) : Prop := inW g k = true ∧ ∃ (ci : Nat) (T : u_T) (N : Nat), ck k = some ci ∧ vwCl[ci]? = some (Cn, T, N)
section VXRows
variable {β : Type} {M : MD} {d : Nat} {T : ZT} {G : β → Prop} {pc : Nat} {ls : List (Option AV)} {rest : List AV} {h : HI} {L : HL} {o o1 o2 : Option β}
theorem cg_of {av : List AV} {lf : β → RS} (ls : List (Option AV)) (hraw : av.all plainA = true) (hy : plainName M.1.cls = true) (hn : Nat.ble (entA av).length M.2.2.1 = true) (hls : entL M.2.2.1 av = ls) (k : ∀ T, VX M d T (fun r => Zl lf r = T) 0 ls [] h L o) : CG M d av h L lf o := fun x e => con_of ls hraw hy hn hls (k (Zl lf x) x e rfl)
theorem g_none {st : List AV} : VX M d T G pc ls st h L none := fun _ e => by cases e
theorem g_jmp {st : List AV} {b : β} (hG : G b → V M d T pc ls st h L) : VX M d T G pc ls st h L (some b) := fun b' e z => by cases e; exact hG z
theorem g_fgt {st : List AV} (bs : List Bool) (k : VX M d T G pc (fgt bs ls) st h L o) : VX M d T G pc ls st h L o := fun b e z => v_fgt bs (k b e z)
theorem g_nmI {x : Int32} {f : Int32 → Option β} (k : ∀ y : Int32, VX M d T G pc ls (aI y :: rest) h L (f y)) : VX M d T G pc ls (aI x :: rest) h L (nm x f) := k x
theorem g_nmJ {x : Int64} {f : Int64 → Option β} (k : ∀ y : Int64, VX M d T G pc ls (aL y :: rest) h L (f y)) : VX M d T G pc ls (aL x :: rest) h L (nm x f) := k x
theorem g_loop {σ ε : Type} {f : σ → Option (σ ⊕ ε)} {A : σ → Prop} {B : ε → Prop} {kf : ε → Option β} {n : Nat} {s0 : σ} (hs : ∀ s b, f s = some b → gS A B b → A s) (hk : ∀ e b, kf e = some b → G b → B e) (h0 : A s0 → V M d T pc ls [] h L) : VX M d T G pc ls [] h L ((loopN f n s0).bind kf) := by
  intro b e z
  obtain ⟨x, h1, h2⟩ := Option.bind_eq_some_iff.mp e
  exact h0 (loop_gen hs n s0 x h1 (hk x b h2 z))
theorem g_iconst {n : Int} {v : Int32} (q : Nat) (hdg : decode M.2.1 pc = .ok (.iconst n, 1)) (hp : pc + 1 = q) (hv : Int32.ofInt n = v) (k : VX M d T G q ls (aI v :: rest) h L o) : VX M d T G pc ls (rest) h L o := fun b e z => v_iconst q hdg hp hv (k b e z)
theorem g_bipush {n : Int} {v : Int32} (q : Nat) (hdg : decode M.2.1 pc = .ok (.bipush n, 2)) (hp : pc + 2 = q) (hv : (Int8.ofInt n).toInt32 = v) (k : VX M d T G q ls (aI v :: rest) h L o) : VX M d T G pc ls (rest) h L o := fun b e z => v_bipush q hdg hp hv (k b e z)
theorem g_sipush {n : Int} {v : Int32} (q : Nat) (hdg : decode M.2.1 pc = .ok (.sipush n, 3)) (hp : pc + 3 = q) (hv : (Int16.ofInt n).toInt32 = v) (k : VX M d T G q ls (aI v :: rest) h L o) : VX M d T G pc ls (rest) h L o := fun b e z => v_sipush q hdg hp hv (k b e z)
theorem g_lconst {n : Fin 2} {v : Int64} (q : Nat) (hdg : decode M.2.1 pc = .ok (.lconst n, 1)) (hp : pc + 1 = q) (hv : Int64.ofNat (n : Nat) = v) (k : VX M d T G q ls (aL v :: rest) h L o) : VX M d T G pc ls (rest) h L o := fun b e z => v_lconst q hdg hp hv (k b e z)
theorem g_ldc {ix : Nat} {v : Int32} (q : Nat) (hdg : decode M.2.1 pc = .ok (.ldc ix, 2)) (hp : pc + 2 = q) (hw : Cond.constant M.1.cls ix v ∈ gw) (k : VX M d T G q ls (aI v :: rest) h L o) : VX M d T G pc ls (rest) h L o := fun b e z => v_ldc q hdg hp hw (k b e z)
theorem g_ldcw {ix : Nat} {v : Int32} (q : Nat) (hdg : decode M.2.1 pc = .ok (.ldc_w ix, 3)) (hp : pc + 3 = q) (hw : Cond.constant M.1.cls ix v ∈ gw) (k : VX M d T G q ls (aI v :: rest) h L o) : VX M d T G pc ls (rest) h L o := fun b e z => v_ldcw q hdg hp hw (k b e z)
theorem g_ldc2 {ix : Nat} {v : Int64} (q : Nat) (hdg : decode M.2.1 pc = .ok (.ldc2_w ix, 3)) (hp : pc + 3 = q) (hw : Cond.constantLong M.1.cls ix v ∈ gw) (k : VX M d T G q ls (aL v :: rest) h L o) : VX M d T G pc ls (rest) h L o := fun b e z => v_ldc2 q hdg hp hw (k b e z)
theorem g_ldcS {ix i : Nat} {tx : String} (q : Nat) (hdg : decode M.2.1 pc = .ok (.ldc ix, 2)) (hp : pc + 2 = q) (hM : M.1.cls = RX2) (hs : strL[i]? = some (ix, tx)) (k : VX M d T G q ls (aR 10 i :: rest) h L o) : VX M d T G pc ls (rest) h L o := fun b e z => v_ldcS q hdg hp hM hs (k b e z)
theorem g_iload_n {i : Nat} {n : Fin 4} {x : Int32} (q : Nat) (hdg : decode M.2.1 pc = .ok (.iload_n n, 1)) (hp : pc + 1 = q) (hi : (n : Nat) = i) (hv : ls[i]? = some (some (aI x))) (k : VX M d T G q ls (aI x :: rest) h L o) : VX M d T G pc ls (rest) h L o := fun b e z => v_iload_n q hdg hp hi hv (k b e z)
theorem g_iload {i : Nat} {x : Int32} (q : Nat) (hdg : decode M.2.1 pc = .ok (.iload i, 2)) (hp : pc + 2 = q) (hv : ls[i]? = some (some (aI x))) (k : VX M d T G q ls (aI x :: rest) h L o) : VX M d T G pc ls (rest) h L o := fun b e z => v_iload q hdg hp hv (k b e z)
theorem g_lload_n {i : Nat} {n : Fin 4} {x : Int64} (q : Nat) (hdg : decode M.2.1 pc = .ok (.lload_n n, 1)) (hp : pc + 1 = q) (hi : (n : Nat) = i) (hv : ls[i]? = some (some (aL x))) (k : VX M d T G q ls (aL x :: rest) h L o) : VX M d T G pc ls (rest) h L o := fun b e z => v_lload_n q hdg hp hi hv (k b e z)
theorem g_lload {i : Nat} {x : Int64} (q : Nat) (hdg : decode M.2.1 pc = .ok (.lload i, 2)) (hp : pc + 2 = q) (hv : ls[i]? = some (some (aL x))) (k : VX M d T G q ls (aL x :: rest) h L o) : VX M d T G pc ls (rest) h L o := fun b e z => v_lload q hdg hp hv (k b e z)
theorem g_aload_n {i : Nat} {n : Fin 4} {g j : Nat} (q : Nat) (hdg : decode M.2.1 pc = .ok (.aload_n n, 1)) (hp : pc + 1 = q) (hi : (n : Nat) = i) (hv : ls[i]? = some (some (aR g j))) (k : VX M d T G q ls (aR g j :: rest) h L o) : VX M d T G pc ls (rest) h L o := fun b e z => v_aload_n q hdg hp hi hv (k b e z)
theorem g_aload {i : Nat} {g j : Nat} (q : Nat) (hdg : decode M.2.1 pc = .ok (.aload i, 2)) (hp : pc + 2 = q) (hv : ls[i]? = some (some (aR g j))) (k : VX M d T G q ls (aR g j :: rest) h L o) : VX M d T G pc ls (rest) h L o := fun b e z => v_aload q hdg hp hv (k b e z)
theorem g_iadd {x y : Int32} (q : Nat) (hdg : decode M.2.1 pc = .ok (.iadd, 1)) (hp : pc + 1 = q) (k : VX M d T G q ls (aI (x + y) :: rest) h L o) : VX M d T G pc ls (aI y :: aI x :: rest) h L o := fun b e z => v_iadd q hdg hp (k b e z)
theorem g_isub {x y : Int32} (q : Nat) (hdg : decode M.2.1 pc = .ok (.isub, 1)) (hp : pc + 1 = q) (k : VX M d T G q ls (aI (x - y) :: rest) h L o) : VX M d T G pc ls (aI y :: aI x :: rest) h L o := fun b e z => v_isub q hdg hp (k b e z)
theorem g_imul {x y : Int32} (q : Nat) (hdg : decode M.2.1 pc = .ok (.imul, 1)) (hp : pc + 1 = q) (k : VX M d T G q ls (aI (x * y) :: rest) h L o) : VX M d T G pc ls (aI y :: aI x :: rest) h L o := fun b e z => v_imul q hdg hp (k b e z)
theorem g_iand {x y : Int32} (q : Nat) (hdg : decode M.2.1 pc = .ok (.iand, 1)) (hp : pc + 1 = q) (k : VX M d T G q ls (aI (x &&& y) :: rest) h L o) : VX M d T G pc ls (aI y :: aI x :: rest) h L o := fun b e z => v_iand q hdg hp (k b e z)
theorem g_ior {x y : Int32} (q : Nat) (hdg : decode M.2.1 pc = .ok (.ior, 1)) (hp : pc + 1 = q) (k : VX M d T G q ls (aI (x ||| y) :: rest) h L o) : VX M d T G pc ls (aI y :: aI x :: rest) h L o := fun b e z => v_ior q hdg hp (k b e z)
theorem g_ixor {x y : Int32} (q : Nat) (hdg : decode M.2.1 pc = .ok (.ixor, 1)) (hp : pc + 1 = q) (k : VX M d T G q ls (aI (x ^^^ y) :: rest) h L o) : VX M d T G pc ls (aI y :: aI x :: rest) h L o := fun b e z => v_ixor q hdg hp (k b e z)
theorem g_ishl {x y : Int32} (q : Nat) (hdg : decode M.2.1 pc = .ok (.ishl, 1)) (hp : pc + 1 = q) (k : VX M d T G q ls (aI (x <<< (y &&& 31)) :: rest) h L o) : VX M d T G pc ls (aI y :: aI x :: rest) h L o := fun b e z => v_ishl q hdg hp (k b e z)
theorem g_ishr {x y : Int32} (q : Nat) (hdg : decode M.2.1 pc = .ok (.ishr, 1)) (hp : pc + 1 = q) (k : VX M d T G q ls (aI (x >>> (y &&& 31)) :: rest) h L o) : VX M d T G pc ls (aI y :: aI x :: rest) h L o := fun b e z => v_ishr q hdg hp (k b e z)
theorem g_iushr {x y : Int32} (q : Nat) (hdg : decode M.2.1 pc = .ok (.iushr, 1)) (hp : pc + 1 = q) (k : VX M d T G q ls (aI ((x.toUInt32 >>> (y.toUInt32 &&& Int32.toUInt32 31)).toInt32) :: rest) h L o) : VX M d T G pc ls (aI y :: aI x :: rest) h L o := fun b e z => v_iushr q hdg hp (k b e z)
theorem g_ineg {x : Int32} (q : Nat) (hdg : decode M.2.1 pc = .ok (.ineg, 1)) (hp : pc + 1 = q) (k : VX M d T G q ls (aI (-x) :: rest) h L o) : VX M d T G pc ls (aI x :: rest) h L o := fun b e z => v_ineg q hdg hp (k b e z)
theorem g_ladd {x y : Int64} (q : Nat) (hdg : decode M.2.1 pc = .ok (.ladd, 1)) (hp : pc + 1 = q) (k : VX M d T G q ls (aL (x + y) :: rest) h L o) : VX M d T G pc ls (aL y :: aL x :: rest) h L o := fun b e z => v_ladd q hdg hp (k b e z)
theorem g_lmul {x y : Int64} (q : Nat) (hdg : decode M.2.1 pc = .ok (.lmul, 1)) (hp : pc + 1 = q) (k : VX M d T G q ls (aL (x * y) :: rest) h L o) : VX M d T G pc ls (aL y :: aL x :: rest) h L o := fun b e z => v_lmul q hdg hp (k b e z)
theorem g_land {x y : Int64} (q : Nat) (hdg : decode M.2.1 pc = .ok (.land, 1)) (hp : pc + 1 = q) (k : VX M d T G q ls (aL (x &&& y) :: rest) h L o) : VX M d T G pc ls (aL y :: aL x :: rest) h L o := fun b e z => v_land q hdg hp (k b e z)
theorem g_lor {x y : Int64} (q : Nat) (hdg : decode M.2.1 pc = .ok (.lor, 1)) (hp : pc + 1 = q) (k : VX M d T G q ls (aL (x ||| y) :: rest) h L o) : VX M d T G pc ls (aL y :: aL x :: rest) h L o := fun b e z => v_lor q hdg hp (k b e z)
theorem g_lshl {x : Int64} {y : Int32} (q : Nat) (hdg : decode M.2.1 pc = .ok (.lshl, 1)) (hp : pc + 1 = q) (k : VX M d T G q ls (aL (x <<< (y.toInt64 &&& 63)) :: rest) h L o) : VX M d T G pc ls (aI y :: aL x :: rest) h L o := fun b e z => v_lshl q hdg hp (k b e z)
theorem g_lcmp {x y : Int64} (q : Nat) (hdg : decode M.2.1 pc = .ok (.lcmp, 1)) (hp : pc + 1 = q) (k : VX M d T G q ls (aI (lg_cmp x y) :: rest) h L o) : VX M d T G pc ls (aL y :: aL x :: rest) h L o := fun b e z => v_lcmp q hdg hp (k b e z)
theorem g_i2l {x : Int32} (q : Nat) (hdg : decode M.2.1 pc = .ok (.i2l, 1)) (hp : pc + 1 = q) (k : VX M d T G q ls (aL x.toInt64 :: rest) h L o) : VX M d T G pc ls (aI x :: rest) h L o := fun b e z => v_i2l q hdg hp (k b e z)
theorem g_l2i {x : Int64} (q : Nat) (hdg : decode M.2.1 pc = .ok (.l2i, 1)) (hp : pc + 1 = q) (k : VX M d T G q ls (aI x.toInt32 :: rest) h L o) : VX M d T G pc ls (aL x :: rest) h L o := fun b e z => v_l2i q hdg hp (k b e z)
theorem g_i2b {x : Int32} (q : Nat) (hdg : decode M.2.1 pc = .ok (.i2b, 1)) (hp : pc + 1 = q) (k : VX M d T G q ls (aI x.toInt8.toInt32 :: rest) h L o) : VX M d T G pc ls (aI x :: rest) h L o := fun b e z => v_i2b q hdg hp (k b e z)
theorem g_i2s {x : Int32} (q : Nat) (hdg : decode M.2.1 pc = .ok (.i2s, 1)) (hp : pc + 1 = q) (k : VX M d T G q ls (aI x.toInt16.toInt32 :: rest) h L o) : VX M d T G pc ls (aI x :: rest) h L o := fun b e z => v_i2s q hdg hp (k b e z)
theorem g_i2c {x : Int32} (q : Nat) (hdg : decode M.2.1 pc = .ok (.i2c, 1)) (hp : pc + 1 = q) (k : VX M d T G q ls (aI (x.toUInt32 % 65536).toInt32 :: rest) h L o) : VX M d T G pc ls (aI x :: rest) h L o := fun b e z => v_i2c q hdg hp (k b e z)
theorem g_dup {v : AV} (q : Nat) (hdg : decode M.2.1 pc = .ok (.dup, 1)) (hp : pc + 1 = q) (hc : catA v = 1) (k : VX M d T G q ls (v :: v :: rest) h L o) : VX M d T G pc ls (v :: rest) h L o := fun b e z => v_dup q hdg hp hc (k b e z)
theorem g_pop {v : AV} (q : Nat) (hdg : decode M.2.1 pc = .ok (.pop, 1)) (hp : pc + 1 = q) (hc : catA v = 1) (k : VX M d T G q ls (rest) h L o) : VX M d T G pc ls (v :: rest) h L o := fun b e z => v_pop q hdg hp hc (k b e z)
theorem g_dup2 {v w : AV} (q : Nat) (hdg : decode M.2.1 pc = .ok (.dup2, 1)) (hp : pc + 1 = q) (hc : catA v = 1) (hc2 : catA w = 1) (k : VX M d T G q ls (v :: w :: v :: w :: rest) h L o) : VX M d T G pc ls (v :: w :: rest) h L o := fun b e z => v_dup2 q hdg hp hc hc2 (k b e z)
theorem g_goto {off : Int} (tgt : Nat) (hdg : decode M.2.1 pc = .ok (.goto off, 3)) (ht : (pc : Int) + off = (tgt : Int)) (k : VX M d T G tgt ls rest h L o) : VX M d T G pc ls rest h L o := fun b e z => v_goto tgt hdg ht (k b e z)
theorem g_tsOut {dflt lo hi : Int} {offs : Array Int} {len : Nat} {x : Int32} (tgt : Nat) (hdg : decode M.2.1 pc = .ok (.tableswitch dflt lo hi offs, len)) (hx : x.toInt < lo ∨ hi < x.toInt) (ht : (pc : Int) + dflt = (tgt : Int)) (k : VX M d T G tgt ls rest h L o) : VX M d T G pc ls (aI x :: rest) h L o := fun b e z => v_tsOut tgt hdg hx ht (k b e z)
theorem g_gets {ix j : Nat} {Cn n : String} {xs : List Int32} (q : Nat) (hdg : decode M.2.1 pc = .ok (.getstatic ix, 3)) (hp : pc + 3 = q) (hf : Cond.fieldLink M.1.cls ix Cn n "[I" ∈ gw) (hs : statL[j]? = some (Cn, n, xs)) (k : VX M d T G q ls (aR 9 j :: rest) h L o) : VX M d T G pc ls rest h L o := fun b e z => v_gets q hdg hp hf hs (k b e z)
theorem g_istore_n {ls' : List (Option AV)} {i : Nat} {n : Fin 4} {x : Int32} (q : Nat) (hdg : decode M.2.1 pc = .ok (.istore_n n, 1)) (hp : pc + 1 = q) (hi : (n : Nat) = i) (hn : Nat.ble (i + 1) M.2.2.1 = true) (hls : sL1 i (aI x) 0 ls = ls') (k : VX M d T G q ls' rest h L o) : VX M d T G pc ls (aI x :: rest) h L o := fun b e z => v_istore_n q hdg hp hi hn (by rw [hls]; exact k b e z)
theorem g_lstore_n {ls' : List (Option AV)} {i : Nat} {n : Fin 4} {x : Int64} (q : Nat) (hdg : decode M.2.1 pc = .ok (.lstore_n n, 1)) (hp : pc + 1 = q) (hi : (n : Nat) = i) (hn : Nat.ble (i + 2) M.2.2.1 = true) (hls : sL2 i (aL x) 0 ls = ls') (k : VX M d T G q ls' rest h L o) : VX M d T G pc ls (aL x :: rest) h L o := fun b e z => v_lstore_n q hdg hp hi hn (by rw [hls]; exact k b e z)
theorem g_astore_n {ls' : List (Option AV)} {i : Nat} {n : Fin 4} {g j : Nat} (q : Nat) (hdg : decode M.2.1 pc = .ok (.astore_n n, 1)) (hp : pc + 1 = q) (hi : (n : Nat) = i) (hn : Nat.ble (i + 1) M.2.2.1 = true) (hls : sL1 i (aR g j) 0 ls = ls') (k : VX M d T G q ls' rest h L o) : VX M d T G pc ls (aR g j :: rest) h L o := fun b e z => v_astore_n q hdg hp hi hn (by rw [hls]; exact k b e z)
theorem g_istore {ls' : List (Option AV)} {i : Nat} {x : Int32} (q : Nat) (hdg : decode M.2.1 pc = .ok (.istore i, 2)) (hp : pc + 2 = q) (hn : Nat.ble (i + 1) M.2.2.1 = true) (hls : sL1 i (aI x) 0 ls = ls') (k : VX M d T G q ls' rest h L o) : VX M d T G pc ls (aI x :: rest) h L o := fun b e z => v_istore q hdg hp hn (by rw [hls]; exact k b e z)
theorem g_lstore {ls' : List (Option AV)} {i : Nat} {x : Int64} (q : Nat) (hdg : decode M.2.1 pc = .ok (.lstore i, 2)) (hp : pc + 2 = q) (hn : Nat.ble (i + 2) M.2.2.1 = true) (hls : sL2 i (aL x) 0 ls = ls') (k : VX M d T G q ls' rest h L o) : VX M d T G pc ls (aL x :: rest) h L o := fun b e z => v_lstore q hdg hp hn (by rw [hls]; exact k b e z)
theorem g_astore {ls' : List (Option AV)} {i : Nat} {g j : Nat} (q : Nat) (hdg : decode M.2.1 pc = .ok (.astore i, 2)) (hp : pc + 2 = q) (hn : Nat.ble (i + 1) M.2.2.1 = true) (hls : sL1 i (aR g j) 0 ls = ls') (k : VX M d T G q ls' rest h L o) : VX M d T G pc ls (aR g j :: rest) h L o := fun b e z => v_astore q hdg hp hn (by rw [hls]; exact k b e z)
theorem g_iinc {i : Nat} {n : Int} {x c : Int32} {ls' : List (Option AV)} (q : Nat) (hdg : decode M.2.1 pc = .ok (.iinc i n, 3)) (hp : pc + 3 = q) (hc : Int32.ofInt n = c) (hv : ls[i]? = some (some (aI x))) (hn : Nat.ble (i + 1) M.2.2.1 = true) (hls : sL1 i (aI (x + c)) 0 ls = ls') (k : VX M d T G q ls' rest h L o) : VX M d T G pc ls rest h L o := fun b e z => v_iinc q hdg hp hv (by rw [hc]) hn (by rw [hls]; exact k b e z)
theorem g_idiv {x y : Int32} (q : Nat) (hdg : decode M.2.1 pc = .ok (.idiv, 1)) (hp : pc + 1 = q) (k : VX M d T G q ls (aI (x / y) :: rest) h L o) : VX M d T G pc ls (aI y :: aI x :: rest) h L (gd (!decide (y = 0)) o) := fun b e z => by
  obtain ⟨h1, h2⟩ := gd_some e
  exact v_idiv q hdg hp (by simpa using h1) (k b h2 z)
theorem g_idivC {x y : Int32} (q : Nat) (hdg : decode M.2.1 pc = .ok (.idiv, 1)) (hp : pc + 1 = q) (hne : ¬ y = 0) (k : VX M d T G q ls (aI (x / y) :: rest) h L o) : VX M d T G pc ls (aI y :: aI x :: rest) h L o := fun b e z => v_idiv q hdg hp hne (k b e z)
theorem g_irem {x y : Int32} (q : Nat) (hdg : decode M.2.1 pc = .ok (.irem, 1)) (hp : pc + 1 = q) (k : VX M d T G q ls (aI (x - x / y * y) :: rest) h L o) : VX M d T G pc ls (aI y :: aI x :: rest) h L (gd (!decide (y = 0)) o) := fun b e z => by
  obtain ⟨h1, h2⟩ := gd_some e
  exact v_irem q hdg hp (by simpa using h1) (k b h2 z)
theorem g_if_eq {x : Int32} {off : Int} (tgt q : Nat) (hdg : decode M.2.1 pc = .ok (.ifCond .eq off, 3)) (ht : (pc : Int) + off = (tgt : Int)) (hp : pc + 3 = q) {inst : Decidable (x = 0)} (kt : x = 0 → VX M d T G tgt ls rest h L o1) (kf : ¬ x = 0 → VX M d T G q ls rest h L o2) : VX M d T G pc ls (aI x :: rest) h L (if x = 0 then o1 else o2) := fun b e z => v_if_eq tgt q hdg ht hp (fun c => kt c b (by rw [if_pos c] at e; exact e) z) (fun c => kf c b (by rw [if_neg c] at e; exact e) z)
theorem g_if_ne {x : Int32} {off : Int} (tgt q : Nat) (hdg : decode M.2.1 pc = .ok (.ifCond .ne off, 3)) (ht : (pc : Int) + off = (tgt : Int)) (hp : pc + 3 = q) {inst : Decidable (x = 0)} (kt : ¬ x = 0 → VX M d T G tgt ls rest h L o1) (kf : x = 0 → VX M d T G q ls rest h L o2) : VX M d T G pc ls (aI x :: rest) h L (if x = 0 then o2 else o1) := fun b e z => v_if_ne tgt q hdg ht hp (fun c => kt c b (by rw [if_neg c] at e; exact e) z) (fun c => kf c b (by rw [if_pos c] at e; exact e) z)
theorem g_if_lt {x : Int32} {off : Int} (tgt q : Nat) (hdg : decode M.2.1 pc = .ok (.ifCond .lt off, 3)) (ht : (pc : Int) + off = (tgt : Int)) (hp : pc + 3 = q) {inst : Decidable (x < 0)} (kt : x < 0 → VX M d T G tgt ls rest h L o1) (kf : ¬ x < 0 → VX M d T G q ls rest h L o2) : VX M d T G pc ls (aI x :: rest) h L (if x < 0 then o1 else o2) := fun b e z => v_if_lt tgt q hdg ht hp (fun c => kt c b (by rw [if_pos c] at e; exact e) z) (fun c => kf c b (by rw [if_neg c] at e; exact e) z)
theorem g_if_ge {x : Int32} {off : Int} (tgt q : Nat) (hdg : decode M.2.1 pc = .ok (.ifCond .ge off, 3)) (ht : (pc : Int) + off = (tgt : Int)) (hp : pc + 3 = q) {inst : Decidable (0 ≤ x)} (kt : 0 ≤ x → VX M d T G tgt ls rest h L o1) (kf : ¬ 0 ≤ x → VX M d T G q ls rest h L o2) : VX M d T G pc ls (aI x :: rest) h L (if 0 ≤ x then o1 else o2) := fun b e z => v_if_ge tgt q hdg ht hp (fun c => kt c b (by rw [if_pos c] at e; exact e) z) (fun c => kf c b (by rw [if_neg c] at e; exact e) z)
theorem g_if_gt {x : Int32} {off : Int} (tgt q : Nat) (hdg : decode M.2.1 pc = .ok (.ifCond .gt off, 3)) (ht : (pc : Int) + off = (tgt : Int)) (hp : pc + 3 = q) {inst : Decidable (0 < x)} (kt : 0 < x → VX M d T G tgt ls rest h L o1) (kf : ¬ 0 < x → VX M d T G q ls rest h L o2) : VX M d T G pc ls (aI x :: rest) h L (if 0 < x then o1 else o2) := fun b e z => v_if_gt tgt q hdg ht hp (fun c => kt c b (by rw [if_pos c] at e; exact e) z) (fun c => kf c b (by rw [if_neg c] at e; exact e) z)
theorem g_if_le {x : Int32} {off : Int} (tgt q : Nat) (hdg : decode M.2.1 pc = .ok (.ifCond .le off, 3)) (ht : (pc : Int) + off = (tgt : Int)) (hp : pc + 3 = q) {inst : Decidable (x ≤ 0)} (kt : x ≤ 0 → VX M d T G tgt ls rest h L o1) (kf : ¬ x ≤ 0 → VX M d T G q ls rest h L o2) : VX M d T G pc ls (aI x :: rest) h L (if x ≤ 0 then o1 else o2) := fun b e z => v_if_le tgt q hdg ht hp (fun c => kt c b (by rw [if_pos c] at e; exact e) z) (fun c => kf c b (by rw [if_neg c] at e; exact e) z)
theorem g_icmp_eq {x y : Int32} {off : Int} (tgt q : Nat) (hdg : decode M.2.1 pc = .ok (.if_icmp .eq off, 3)) (ht : (pc : Int) + off = (tgt : Int)) (hp : pc + 3 = q) {inst : Decidable (x = y)} (kt : x = y → VX M d T G tgt ls rest h L o1) (kf : ¬ x = y → VX M d T G q ls rest h L o2) : VX M d T G pc ls (aI y :: aI x :: rest) h L (if x = y then o1 else o2) := fun b e z => v_icmp_eq tgt q hdg ht hp (fun c => kt c b (by rw [if_pos c] at e; exact e) z) (fun c => kf c b (by rw [if_neg c] at e; exact e) z)
theorem g_icmp_ne {x y : Int32} {off : Int} (tgt q : Nat) (hdg : decode M.2.1 pc = .ok (.if_icmp .ne off, 3)) (ht : (pc : Int) + off = (tgt : Int)) (hp : pc + 3 = q) {inst : Decidable (x = y)} (kt : ¬ x = y → VX M d T G tgt ls rest h L o1) (kf : x = y → VX M d T G q ls rest h L o2) : VX M d T G pc ls (aI y :: aI x :: rest) h L (if x = y then o2 else o1) := fun b e z => v_icmp_ne tgt q hdg ht hp (fun c => kt c b (by rw [if_neg c] at e; exact e) z) (fun c => kf c b (by rw [if_pos c] at e; exact e) z)
theorem g_icmp_lt {x y : Int32} {off : Int} (tgt q : Nat) (hdg : decode M.2.1 pc = .ok (.if_icmp .lt off, 3)) (ht : (pc : Int) + off = (tgt : Int)) (hp : pc + 3 = q) {inst : Decidable (x < y)} (kt : x < y → VX M d T G tgt ls rest h L o1) (kf : ¬ x < y → VX M d T G q ls rest h L o2) : VX M d T G pc ls (aI y :: aI x :: rest) h L (if x < y then o1 else o2) := fun b e z => v_icmp_lt tgt q hdg ht hp (fun c => kt c b (by rw [if_pos c] at e; exact e) z) (fun c => kf c b (by rw [if_neg c] at e; exact e) z)
theorem g_icmp_ge {x y : Int32} {off : Int} (tgt q : Nat) (hdg : decode M.2.1 pc = .ok (.if_icmp .ge off, 3)) (ht : (pc : Int) + off = (tgt : Int)) (hp : pc + 3 = q) {inst : Decidable (y ≤ x)} (kt : y ≤ x → VX M d T G tgt ls rest h L o1) (kf : ¬ y ≤ x → VX M d T G q ls rest h L o2) : VX M d T G pc ls (aI y :: aI x :: rest) h L (if y ≤ x then o1 else o2) := fun b e z => v_icmp_ge tgt q hdg ht hp (fun c => kt c b (by rw [if_pos c] at e; exact e) z) (fun c => kf c b (by rw [if_neg c] at e; exact e) z)
theorem g_icmp_gt {x y : Int32} {off : Int} (tgt q : Nat) (hdg : decode M.2.1 pc = .ok (.if_icmp .gt off, 3)) (ht : (pc : Int) + off = (tgt : Int)) (hp : pc + 3 = q) {inst : Decidable (y < x)} (kt : y < x → VX M d T G tgt ls rest h L o1) (kf : ¬ y < x → VX M d T G q ls rest h L o2) : VX M d T G pc ls (aI y :: aI x :: rest) h L (if y < x then o1 else o2) := fun b e z => v_icmp_gt tgt q hdg ht hp (fun c => kt c b (by rw [if_pos c] at e; exact e) z) (fun c => kf c b (by rw [if_neg c] at e; exact e) z)
theorem g_icmp_le {x y : Int32} {off : Int} (tgt q : Nat) (hdg : decode M.2.1 pc = .ok (.if_icmp .le off, 3)) (ht : (pc : Int) + off = (tgt : Int)) (hp : pc + 3 = q) {inst : Decidable (x ≤ y)} (kt : x ≤ y → VX M d T G tgt ls rest h L o1) (kf : ¬ x ≤ y → VX M d T G q ls rest h L o2) : VX M d T G pc ls (aI y :: aI x :: rest) h L (if x ≤ y then o1 else o2) := fun b e z => v_icmp_le tgt q hdg ht hp (fun c => kt c b (by rw [if_pos c] at e; exact e) z) (fun c => kf c b (by rw [if_neg c] at e; exact e) z)
theorem g_tsc {dflt lo hi : Int} {offs : Array Int} {len : Nat} {x v : Int32} {off : Int} (tgt : Nat) (hdg : decode M.2.1 pc = .ok (.tableswitch dflt lo hi offs, len)) (h1 : ¬ v.toInt < lo) (h2 : ¬ hi < v.toInt) (ho : offs[(v.toInt - lo).toNat]? = some off) (ht : (pc : Int) + off = (tgt : Int)) {inst : Decidable (x = v)} (kt : x = v → VX M d T G tgt ls rest h L o1) (kf : ¬ x = v → VX M d T G pc ls (aI x :: rest) h L o2) : VX M d T G pc ls (aI x :: rest) h L (if x = v then o1 else o2) := fun b e z => v_tsc tgt hdg v h1 h2 ho ht (fun c => kt c b (by rw [if_pos c] at e; exact e) z) (fun c => kf c b (by rw [if_neg c] at e; exact e) z)
theorem g_iret {x : Int32} {ty : FieldType} {b : β} (hdg : decode M.2.1 pc = .ok (.ireturn, 1)) (hr : M.2.2.2 = some ty) (hn : narrow ty (.int x) = .int x) (hG : G b → ZQ (Rt (some (aI x)) h L) = T) : VX M d T G pc ls [aI x] h L (some b) := fun b' e z => by
  cases e
  rw [← hG z]
  exact v_iret hdg hr hn ⟨rfl, rfl, rfl⟩
theorem g_zret {x : Int32} {b : β} (hdg : decode M.2.1 pc = .ok (.ireturn, 1)) (hr : M.2.2.2 = some .boolean) (hG : G b → ZQ (Rt (some (aI x)) h L) = T) : VX M d T G pc ls [aI x] h L (gd (isB x) (some b)) := fun b' e z => by
  obtain ⟨h1, h2⟩ := gd_some e
  cases h2
  rw [← hG z]
  exact v_iret hdg hr (isB_nar h1).1 ⟨rfl, rfl, rfl⟩
theorem g_lret {x : Int64} {b : β} (hdg : decode M.2.1 pc = .ok (.lreturn, 1)) (hr : M.2.2.2 = some .long) (hG : G b → ZQ (Rt (some (aL x)) h L) = T) : VX M d T G pc ls [aL x] h L (some b) := fun b' e z => by
  cases e
  rw [← hG z]
  exact v_lret hdg hr ⟨rfl, rfl, rfl⟩
theorem g_aret {g j : Nat} {rt : FieldType} {b : β} (hdg : decode M.2.1 pc = .ok (.areturn, 1)) (hr : M.2.2.2 = some (.array rt)) (hG : G b → ZQ (Rt (some (aR g j)) h L) = T) : VX M d T G pc ls [aR g j] h L (some b) := fun b' e z => by
  cases e
  rw [← hG z]
  exact v_aret hdg hr ⟨rfl, rfl, rfl⟩
theorem g_vret {b : β} (hdg : decode M.2.1 pc = .ok (.return_, 1)) (hr : M.2.2.2 = none) (hG : G b → ZQ (Rt none h L) = T) : VX M d T G pc ls [] h L (some b) := fun b' e z => by
  cases e
  rw [← hG z]
  exact v_vret hdg hr ⟨rfl, rfl, rfl⟩
theorem g_getI {ix ci g k j : Nat} (q : Nat) (hdg : decode M.2.1 pc = .ok (.getfield ix, 3)) (hp : pc + 3 = q) (hf : FL M.1.cls ix ci j) (hk : OKF g k ci j) (kk : VX M d T G q ls (aI (h g k j) :: rest) h L o) : VX M d T G pc ls (aR g k :: rest) h L o := fun b e z => v_getI q hdg hp hf hk.1 hk.2.1 hk.2.2 (kk b e z)
theorem g_getR {ix ci g k j g' k' : Nat} (q : Nat) (hdg : decode M.2.1 pc = .ok (.getfield ix, 3)) (hp : pc + 3 = q) (hf : FL M.1.cls ix ci j) (hk : OKR g k ci j g' k') (kk : VX M d T G q ls (aR g' k' :: rest) h L o) : VX M d T G pc ls (aR g k :: rest) h L o := fun b e z => v_getR q hdg hp hf hk.1 hk.2.1 hk.2.2 (kk b e z)
theorem g_put {ix ci g k j : Nat} {x : Int32} {ty : FieldType} {f : HI → Option β} (q : Nat) (hdg : decode M.2.1 pc = .ok (.putfield ix, 3)) (hp : pc + 3 = q) (hf : PL M.1.cls ix ci j ty) (hk : OKF g k ci j) (hnr : narrow ty (.int x) = .int x) (hfi : fits ty (.int x) = true) (kk : ∀ h1 : HI, VX M d T G q ls rest h1 L (f h1)) : VX M d T G pc ls (aI x :: aR g k :: rest) h L (nm (hP1 h g k j x) f) := fun b e z => v_put q hdg hp hf hk.1 hk.2.1 hk.2.2 hnr hfi (kk _ b e z)
theorem g_putZ {ix ci g k j : Nat} {x : Int32} {f : HI → Option β} (q : Nat) (hdg : decode M.2.1 pc = .ok (.putfield ix, 3)) (hp : pc + 3 = q) (hf : PL M.1.cls ix ci j .boolean) (hk : OKF g k ci j) (kk : ∀ h1 : HI, VX M d T G q ls rest h1 L (f h1)) : VX M d T G pc ls (aI x :: aR g k :: rest) h L (gd (isB x) (nm (hP1 h g k j x) f)) := fun b e z => by
  obtain ⟨h1, h2⟩ := gd_some e
  exact v_put q hdg hp hf hk.1 hk.2.1 hk.2.2 (isB_nar h1).1 (isB_nar h1).2 (kk _ b h2 z)
theorem g_iald {g k n : Nat} {i : Int32} (q : Nat) (hdg : decode M.2.1 pc = .ok (.iaload, 1)) (hp : pc + 1 = q) (hk : OKA g k n) (kk : VX M d T G q ls (aI (h g k (nC i)) :: rest) h L o) : VX M d T G pc ls (aI i :: aR g k :: rest) h L (gd (ixb i n) o) := fun b e z => by
  obtain ⟨h1, h2⟩ := gd_some e
  obtain ⟨h3, h4⟩ := ixb_iff.mp h1
  exact v_iald q hdg hp hk.1 hk.2.1 hk.2.2.1 (nC_nI h3) (by rw [hk.2.2.2]; exact h4) (kk b h2 z)
theorem g_ialdC {g k n j : Nat} {i : Int32} (q : Nat) (hdg : decode M.2.1 pc = .ok (.iaload, 1)) (hp : pc + 1 = q) (hk : OKA g k n) (hi : i = nI j) (hj : Nat.blt j n = true) (kk : VX M d T G q ls (aI (h g k j) :: rest) h L o) : VX M d T G pc ls (aI i :: aR g k :: rest) h L o := fun b e z => v_iald q hdg hp hk.1 hk.2.1 hk.2.2.1 hi (by rw [hk.2.2.2]; exact Nat.le_of_ble_eq_true hj) (kk b e z)
theorem g_ialdV {g k : Nat} {i : Int32} (q : Nat) (hdg : decode M.2.1 pc = .ok (.iaload, 1)) (hp : pc + 1 = q) (kk : VX M d T G q ls (aI (h g k (nC i)) :: rest) h L o) : VX M d T G pc ls (aI i :: aR g k :: rest) h L (gd (okI g k && ixb i (alen k)) o) := fun b e z => by
  obtain ⟨h1, h2⟩ := gd_some e
  simp only [Bool.and_eq_true, okI, Bool.not_eq_true', Option.isNone_iff_eq_none] at h1
  obtain ⟨⟨h5, h6, h7⟩, h8⟩ := h1
  obtain ⟨h3, h4⟩ := ixb_iff.mp h8
  exact v_iald q hdg hp h5 h6 h7 (nC_nI h3) h4 (kk b h2 z)
theorem g_iast {g k n : Nat} {i x : Int32} {f : HI → Option β} (q : Nat) (hdg : decode M.2.1 pc = .ok (.iastore, 1)) (hp : pc + 1 = q) (hk : OKA g k n) (kk : ∀ h1 : HI, VX M d T G q ls rest h1 L (f h1)) : VX M d T G pc ls (aI x :: aI i :: aR g k :: rest) h L (gd (ixb i n) (nm (hP1 h g k (nC i) x) f)) := fun b e z => by
  obtain ⟨h1, h2⟩ := gd_some e
  obtain ⟨h3, h4⟩ := ixb_iff.mp h1
  exact v_iast q hdg hp hk.1 hk.2.1 hk.2.2.1 (nC_nI h3) (by rw [hk.2.2.2]; exact h4) (kk _ b h2 z)
theorem g_iastC {g k n j : Nat} {i x : Int32} {f : HI → Option β} (q : Nat) (hdg : decode M.2.1 pc = .ok (.iastore, 1)) (hp : pc + 1 = q) (hk : OKA g k n) (hi : i = nI j) (hj : Nat.blt j n = true) (kk : ∀ h1 : HI, VX M d T G q ls rest h1 L (f h1)) : VX M d T G pc ls (aI x :: aI i :: aR g k :: rest) h L (nm (hP1 h g k j x) f) := fun b e z => v_iast q hdg hp hk.1 hk.2.1 hk.2.2.1 hi (by rw [hk.2.2.2]; exact Nat.le_of_ble_eq_true hj) (kk _ b e z)
theorem g_iastV {g k : Nat} {i x : Int32} {f : HI → Option β} (q : Nat) (hdg : decode M.2.1 pc = .ok (.iastore, 1)) (hp : pc + 1 = q) (kk : ∀ h1 : HI, VX M d T G q ls rest h1 L (f h1)) : VX M d T G pc ls (aI x :: aI i :: aR g k :: rest) h L (gd (okI g k && ixb i (alen k)) (nm (hP1 h g k (nC i) x) f)) := fun b e z => by
  obtain ⟨h1, h2⟩ := gd_some e
  simp only [Bool.and_eq_true, okI, Bool.not_eq_true', Option.isNone_iff_eq_none] at h1
  obtain ⟨⟨h5, h6, h7⟩, h8⟩ := h1
  obtain ⟨h3, h4⟩ := ixb_iff.mp h8
  exact v_iast q hdg hp h5 h6 h7 (nC_nI h3) h4 (kk _ b h2 z)
theorem g_lald {g k n : Nat} {i : Int32} (q : Nat) (hdg : decode M.2.1 pc = .ok (.laload, 1)) (hp : pc + 1 = q) (hk : OKL g k n) (kk : VX M d T G q ls (aL (L g k (nC i)) :: rest) h L o) : VX M d T G pc ls (aI i :: aR g k :: rest) h L (gd (ixb i n) o) := fun b e z => by
  obtain ⟨h1, h2⟩ := gd_some e
  obtain ⟨h3, h4⟩ := ixb_iff.mp h1
  exact v_lald q hdg hp hk.1 hk.2.1 hk.2.2.1 (nC_nI h3) (by rw [hk.2.2.2]; exact h4) (kk b h2 z)
theorem g_last {g k n : Nat} {i : Int32} {x : Int64} {f : HL → Option β} (q : Nat) (hdg : decode M.2.1 pc = .ok (.lastore, 1)) (hp : pc + 1 = q) (hk : OKL g k n) (kk : ∀ L1 : HL, VX M d T G q ls rest h L1 (f L1)) : VX M d T G pc ls (aL x :: aI i :: aR g k :: rest) h L (gd (ixb i n) (nm (lP1 L g k (nC i) x) f)) := fun b e z => by
  obtain ⟨h1, h2⟩ := gd_some e
  obtain ⟨h3, h4⟩ := ixb_iff.mp h1
  exact v_last q hdg hp hk.1 hk.2.1 hk.2.2.1 (nC_nI h3) (by rw [hk.2.2.2]; exact h4) (kk _ b h2 z)
theorem g_sald {j n : Nat} {i : Int32} {Cn nn : String} {xs : List Int32} (q : Nat) (hdg : decode M.2.1 pc = .ok (.iaload, 1)) (hp : pc + 1 = q) (hs : statL[j]? = some (Cn, nn, xs)) (hn : xs.length = n) (k : VX M d T G q ls (aI (xs.getD (nC i) 0) :: rest) h L o) : VX M d T G pc ls (aI i :: aR 9 j :: rest) h L (gd (ixb i n) o) := fun b e z => by
  obtain ⟨h1, h2⟩ := gd_some e
  obtain ⟨h3, h4⟩ := ixb_iff.mp h1
  have h5 : nC i < 2 ^ 31 := by
    obtain ⟨jj, z1, z2⟩ := nI_of h3
    unfold nC
    rw [z2, nI_clamp z1]
    exact z1
  exact v_sald q hdg hp hs (nC_nI h3) (by rw [hn]; exact h4) h5 (k b h2 z)
theorem g_slen {j : Nat} {Cn nn : String} {xs : List Int32} {v : Int32} (q : Nat) (hdg : decode M.2.1 pc = .ok (.arraylength, 1)) (hp : pc + 1 = q) (hs : statL[j]? = some (Cn, nn, xs)) (hv : nI xs.length = v) (k : VX M d T G q ls (aI v :: rest) h L o) : VX M d T G pc ls (aR 9 j :: rest) h L o := fun b e z => v_slen q hdg hp hs (by rw [hv]; exact k b e z)
theorem g_max {ix : Nat} {x y : Int32} (q : Nat) (hdg : decode M.2.1 pc = .ok (.invokestatic ix, 3)) (hp : pc + 3 = q) (hlk : Cond.methodLink M.1.cls ix Lib.Math.max.name ∈ gw) (hd : Nat.ble 1 d = true) (hcat : Nat.ble (rest.map catA).sum 8 = true) (k : VX M d T G q ls (aI (if x < y then y else x) :: rest) h L o) : VX M d T G pc ls (aI y :: aI x :: rest) h L o := fun b e z => w_max q hdg hp hlk hd hcat (k b e z)
theorem g_min {ix : Nat} {x y : Int32} (q : Nat) (hdg : decode M.2.1 pc = .ok (.invokestatic ix, 3)) (hp : pc + 3 = q) (hlk : Cond.methodLink M.1.cls ix Lib.Math.min.name ∈ gw) (hd : Nat.ble 1 d = true) (hcat : Nat.ble (rest.map catA).sum 8 = true) (k : VX M d T G q ls (aI (if y < x then y else x) :: rest) h L o) : VX M d T G pc ls (aI y :: aI x :: rest) h L o := fun b e z => w_min q hdg hp hlk hd hcat (k b e z)
theorem g_acpy {ix g0 k0 g1 k1 n sp dp m : Nat} {i0 i1 i2 : Int32} {f : HI → Option β} (q : Nat) (hdg : decode M.2.1 pc = .ok (.invokestatic ix, 3)) (hp : pc + 3 = q) (hlk : Cond.methodLink M.1.cls ix arraycopyName ∈ gw) (hk0 : OKA g0 k0 n) (hk1 : OKA g1 k1 n) (h0 : i0 = nI sp) (h1 : i1 = nI dp) (h2 : i2 = nI m) (hb : Nat.ble (sp + m) n = true) (hb1 : Nat.ble (dp + m) n = true) (hd : Nat.ble 1 d = true) (hcat : Nat.ble (rest.map catA).sum 8 = true) (kk : ∀ h1 : HI, VX M d T G q ls rest h1 L (f h1)) : VX M d T G pc ls (aI i2 :: aI i1 :: aR g1 k1 :: aI i0 :: aR g0 k0 :: rest) h L (nm (hPF h g1 k1 (va_cpy (h g0 k0) (h g1 k1) sp dp m)) f) := fun b e z => w_acpy q hdg hp hlk hk0.1 hk1.1 h0 h1 h2 (by rw [hk0.2.2.2]; exact Nat.le_of_ble_eq_true hb) (by rw [hk1.2.2.2]; exact Nat.le_of_ble_eq_true hb1) hk0.2.1 hk0.2.2.1 hk1.2.1 hk1.2.2.1 hd hcat (kk _ b e z)
theorem g_acpyL {ix g0 k0 g1 k1 n n1 : Nat} {i0 i1 i2 : Int32} {f : HL → Option β} (q : Nat) (hdg : decode M.2.1 pc = .ok (.invokestatic ix, 3)) (hp : pc + 3 = q) (hlk : Cond.methodLink M.1.cls ix arraycopyName ∈ gw) (hk0 : OKL g0 k0 n) (hk1 : OKL g1 k1 n1) (hd : Nat.ble 1 d = true) (hcat : Nat.ble (rest.map catA).sum 8 = true) (kk : ∀ L1 : HL, VX M d T G q ls rest h L1 (f L1)) : VX M d T G pc ls (aI i2 :: aI i1 :: aR g1 k1 :: aI i0 :: aR g0 k0 :: rest) h L (gd (cpb i0 i1 i2 n n1) (nm (lPF L g1 k1 (va_cpy (L g0 k0) (L g1 k1) (nC i0) (nC i1) (nC i2))) f)) := fun b e z => by
  obtain ⟨h1, h2⟩ := gd_some e
  unfold cpb at h1
  simp only [Bool.and_eq_true, Bool.not_eq_true', decide_eq_false_iff_not, decide_eq_true_eq] at h1
  obtain ⟨⟨z1, z2, z3⟩, z4, z5⟩ := h1
  exact w_acpyL q hdg hp hlk hk0.1 hk1.1 (nC_nI z1) (nC_nI z2) (nC_nI z3) (by rw [hk0.2.2.2]; exact z4) (by rw [hk1.2.2.2]; exact z5) hk0.2.1 hk0.2.2.1 hk1.2.1 hk1.2.2.1 hd hcat (kk _ b h2 z)
theorem g_cV_I {M' : MD} {d' ix n g k : Nat} {av : List AV} {st : List AV} {of : Option Int32} {kf : Int32 → Option β} (q : Nat) (hdg : decode M.2.1 pc = .ok (.invokevirtual ix, 3)) (hp : pc + 3 = q) (hlk : Cond.methodLink M.1.cls ix M'.1 ∈ gw) (ok : OKV M' n) (hC : CG M' d' (aR g k :: av) h L (lfI h L) of) (hob : OKO g k M'.1.cls) (hst : av.reverse ++ aR g k :: rest = st) (hn : av.length = n) (hd : Nat.ble (d' + 1) d = true) (hcat : Nat.ble (rest.map catA).sum 8 = true) (kk : ∀ (x : Int32), VX M d T G q ls (aI x :: rest) h L (kf x)) : VX M d T G pc ls st h L (of.bind kf) := fun b e z => by
  obtain ⟨x, h1, h2⟩ := Option.bind_eq_some_iff.mp e
  obtain ⟨o1, ci, T0, N, o2, o3⟩ := hob
  refine w_callV q hdg hp hlk ok (hC x h1) o1 hst o2 o3 hn hd hcat (fun r' h' L' y => ?_)
  obtain ⟨rfl, rfl, rfl⟩ := y
  exact kk x b h2 z
theorem g_cS_I {M' : MD} {d' ix n : Nat} {av : List AV} {st : List AV} {of : Option Int32} {kf : Int32 → Option β} (q : Nat) (hdg : decode M.2.1 pc = .ok (.invokestatic ix, 3)) (hp : pc + 3 = q) (hlk : Cond.methodLink M.1.cls ix M'.1 ∈ gw) (ok : OKS M' n) (hC : CG M' d' av h L (lfI h L) of) (hst : av.reverse ++ rest = st) (hn : av.length = n) (hd : Nat.ble (d' + 1) d = true) (hcat : Nat.ble (rest.map catA).sum 8 = true) (kk : ∀ (x : Int32), VX M d T G q ls (aI x :: rest) h L (kf x)) : VX M d T G pc ls st h L (of.bind kf) := fun b e z => by
  obtain ⟨x, h1, h2⟩ := Option.bind_eq_some_iff.mp e
  refine v_callS q hdg hp hlk ok (hC x h1) (Nat.le_of_ble_eq_true hd) hn hst (Nat.le_of_ble_eq_true hcat) (fun r' h' L' y => ?_)
  obtain ⟨rfl, rfl, rfl⟩ := y
  exact kk x b h2 z
theorem g_cN_I {M' : MD} {d' ix n : Nat} {av : List AV} {st : List AV} {of : Option Int32} {kf : Int32 → Option β} (q : Nat) (hdg : decode M.2.1 pc = .ok (.invokestatic ix, 3)) (hp : pc + 3 = q) {host : String} (hlk : (M.1.cls, ix, M'.1, host) ∈ nestL) (ok : OKS M' n) (hC : CG M' d' av h L (lfI h L) of) (hst : av.reverse ++ rest = st) (hn : av.length = n) (hd : Nat.ble (d' + 1) d = true) (hcat : Nat.ble (rest.map catA).sum 8 = true) (kk : ∀ (x : Int32), VX M d T G q ls (aI x :: rest) h L (kf x)) : VX M d T G pc ls st h L (of.bind kf) := fun b e z => by
  obtain ⟨x, h1, h2⟩ := Option.bind_eq_some_iff.mp e
  refine v_callN q hdg hp hlk ok (hC x h1) (Nat.le_of_ble_eq_true hd) hn hst (Nat.le_of_ble_eq_true hcat) (fun r' h' L' y => ?_)
  obtain ⟨rfl, rfl, rfl⟩ := y
  exact kk x b h2 z
theorem g_cV_J {M' : MD} {d' ix n g k : Nat} {av : List AV} {st : List AV} {of : Option Int64} {kf : Int64 → Option β} (q : Nat) (hdg : decode M.2.1 pc = .ok (.invokevirtual ix, 3)) (hp : pc + 3 = q) (hlk : Cond.methodLink M.1.cls ix M'.1 ∈ gw) (ok : OKV M' n) (hC : CG M' d' (aR g k :: av) h L (lfJ h L) of) (hob : OKO g k M'.1.cls) (hst : av.reverse ++ aR g k :: rest = st) (hn : av.length = n) (hd : Nat.ble (d' + 1) d = true) (hcat : Nat.ble (rest.map catA).sum 8 = true) (kk : ∀ (x : Int64), VX M d T G q ls (aL x :: rest) h L (kf x)) : VX M d T G pc ls st h L (of.bind kf) := fun b e z => by
  obtain ⟨x, h1, h2⟩ := Option.bind_eq_some_iff.mp e
  obtain ⟨o1, ci, T0, N, o2, o3⟩ := hob
  refine w_callV q hdg hp hlk ok (hC x h1) o1 hst o2 o3 hn hd hcat (fun r' h' L' y => ?_)
  obtain ⟨rfl, rfl, rfl⟩ := y
  exact kk x b h2 z
theorem g_cS_J {M' : MD} {d' ix n : Nat} {av : List AV} {st : List AV} {of : Option Int64} {kf : Int64 → Option β} (q : Nat) (hdg : decode M.2.1 pc = .ok (.invokestatic ix, 3)) (hp : pc + 3 = q) (hlk : Cond.methodLink M.1.cls ix M'.1 ∈ gw) (ok : OKS M' n) (hC : CG M' d' av h L (lfJ h L) of) (hst : av.reverse ++ rest = st) (hn : av.length = n) (hd : Nat.ble (d' + 1) d = true) (hcat : Nat.ble (rest.map catA).sum 8 = true) (kk : ∀ (x : Int64), VX M d T G q ls (aL x :: rest) h L (kf x)) : VX M d T G pc ls st h L (of.bind kf) := fun b e z => by
  obtain ⟨x, h1, h2⟩ := Option.bind_eq_some_iff.mp e
  refine v_callS q hdg hp hlk ok (hC x h1) (Nat.le_of_ble_eq_true hd) hn hst (Nat.le_of_ble_eq_true hcat) (fun r' h' L' y => ?_)
  obtain ⟨rfl, rfl, rfl⟩ := y
  exact kk x b h2 z
theorem g_cN_J {M' : MD} {d' ix n : Nat} {av : List AV} {st : List AV} {of : Option Int64} {kf : Int64 → Option β} (q : Nat) (hdg : decode M.2.1 pc = .ok (.invokestatic ix, 3)) (hp : pc + 3 = q) {host : String} (hlk : (M.1.cls, ix, M'.1, host) ∈ nestL) (ok : OKS M' n) (hC : CG M' d' av h L (lfJ h L) of) (hst : av.reverse ++ rest = st) (hn : av.length = n) (hd : Nat.ble (d' + 1) d = true) (hcat : Nat.ble (rest.map catA).sum 8 = true) (kk : ∀ (x : Int64), VX M d T G q ls (aL x :: rest) h L (kf x)) : VX M d T G pc ls st h L (of.bind kf) := fun b e z => by
  obtain ⟨x, h1, h2⟩ := Option.bind_eq_some_iff.mp e
  refine v_callN q hdg hp hlk ok (hC x h1) (Nat.le_of_ble_eq_true hd) hn hst (Nat.le_of_ble_eq_true hcat) (fun r' h' L' y => ?_)
  obtain ⟨rfl, rfl, rfl⟩ := y
  exact kk x b h2 z
theorem g_cV_R {M' : MD} {d' ix n g k : Nat} {av : List AV} {st : List AV} {g9 : Nat} {of : Option Nat} {kf : Nat → Option β} (q : Nat) (hdg : decode M.2.1 pc = .ok (.invokevirtual ix, 3)) (hp : pc + 3 = q) (hlk : Cond.methodLink M.1.cls ix M'.1 ∈ gw) (ok : OKV M' n) (hC : CG M' d' (aR g k :: av) h L (lfR g9 h L) of) (hob : OKO g k M'.1.cls) (hst : av.reverse ++ aR g k :: rest = st) (hn : av.length = n) (hd : Nat.ble (d' + 1) d = true) (hcat : Nat.ble (rest.map catA).sum 8 = true) (kk : ∀ (x : Nat), VX M d T G q ls (aR g9 x :: rest) h L (kf x)) : VX M d T G pc ls st h L (of.bind kf) := fun b e z => by
  obtain ⟨x, h1, h2⟩ := Option.bind_eq_some_iff.mp e
  obtain ⟨o1, ci, T0, N, o2, o3⟩ := hob
  refine w_callV q hdg hp hlk ok (hC x h1) o1 hst o2 o3 hn hd hcat (fun r' h' L' y => ?_)
  obtain ⟨rfl, rfl, rfl⟩ := y
  exact kk x b h2 z
theorem g_cS_R {M' : MD} {d' ix n : Nat} {av : List AV} {st : List AV} {g9 : Nat} {of : Option Nat} {kf : Nat → Option β} (q : Nat) (hdg : decode M.2.1 pc = .ok (.invokestatic ix, 3)) (hp : pc + 3 = q) (hlk : Cond.methodLink M.1.cls ix M'.1 ∈ gw) (ok : OKS M' n) (hC : CG M' d' av h L (lfR g9 h L) of) (hst : av.reverse ++ rest = st) (hn : av.length = n) (hd : Nat.ble (d' + 1) d = true) (hcat : Nat.ble (rest.map catA).sum 8 = true) (kk : ∀ (x : Nat), VX M d T G q ls (aR g9 x :: rest) h L (kf x)) : VX M d T G pc ls st h L (of.bind kf) := fun b e z => by
  obtain ⟨x, h1, h2⟩ := Option.bind_eq_some_iff.mp e
  refine v_callS q hdg hp hlk ok (hC x h1) (Nat.le_of_ble_eq_true hd) hn hst (Nat.le_of_ble_eq_true hcat) (fun r' h' L' y => ?_)
  obtain ⟨rfl, rfl, rfl⟩ := y
  exact kk x b h2 z
theorem g_cN_R {M' : MD} {d' ix n : Nat} {av : List AV} {st : List AV} {g9 : Nat} {of : Option Nat} {kf : Nat → Option β} (q : Nat) (hdg : decode M.2.1 pc = .ok (.invokestatic ix, 3)) (hp : pc + 3 = q) {host : String} (hlk : (M.1.cls, ix, M'.1, host) ∈ nestL) (ok : OKS M' n) (hC : CG M' d' av h L (lfR g9 h L) of) (hst : av.reverse ++ rest = st) (hn : av.length = n) (hd : Nat.ble (d' + 1) d = true) (hcat : Nat.ble (rest.map catA).sum 8 = true) (kk : ∀ (x : Nat), VX M d T G q ls (aR g9 x :: rest) h L (kf x)) : VX M d T G pc ls st h L (of.bind kf) := fun b e z => by
  obtain ⟨x, h1, h2⟩ := Option.bind_eq_some_iff.mp e
  refine v_callN q hdg hp hlk ok (hC x h1) (Nat.le_of_ble_eq_true hd) hn hst (Nat.le_of_ble_eq_true hcat) (fun r' h' L' y => ?_)
  obtain ⟨rfl, rfl, rfl⟩ := y
  exact kk x b h2 z
theorem g_cV_VH {M' : MD} {d' ix n g k : Nat} {av : List AV} {st : List AV} {of : Option HI} {kf : HI → Option β} (q : Nat) (hdg : decode M.2.1 pc = .ok (.invokevirtual ix, 3)) (hp : pc + 3 = q) (hlk : Cond.methodLink M.1.cls ix M'.1 ∈ gw) (ok : OKV M' n) (hC : CG M' d' (aR g k :: av) h L (lfVH L) of) (hob : OKO g k M'.1.cls) (hst : av.reverse ++ aR g k :: rest = st) (hn : av.length = n) (hd : Nat.ble (d' + 1) d = true) (hcat : Nat.ble (rest.map catA).sum 8 = true) (kk : ∀ (h1 : HI), VX M d T G q ls (rest) h1 L (kf h1)) : VX M d T G pc ls st h L (of.bind kf) := fun b e z => by
  obtain ⟨x, h1, h2⟩ := Option.bind_eq_some_iff.mp e
  obtain ⟨o1, ci, T0, N, o2, o3⟩ := hob
  refine w_callV q hdg hp hlk ok (hC x h1) o1 hst o2 o3 hn hd hcat (fun r' h' L' y => ?_)
  obtain ⟨rfl, rfl, rfl⟩ := y
  exact kk _ b h2 z
theorem g_cS_VH {M' : MD} {d' ix n : Nat} {av : List AV} {st : List AV} {of : Option HI} {kf : HI → Option β} (q : Nat) (hdg : decode M.2.1 pc = .ok (.invokestatic ix, 3)) (hp : pc + 3 = q) (hlk : Cond.methodLink M.1.cls ix M'.1 ∈ gw) (ok : OKS M' n) (hC : CG M' d' av h L (lfVH L) of) (hst : av.reverse ++ rest = st) (hn : av.length = n) (hd : Nat.ble (d' + 1) d = true) (hcat : Nat.ble (rest.map catA).sum 8 = true) (kk : ∀ (h1 : HI), VX M d T G q ls (rest) h1 L (kf h1)) : VX M d T G pc ls st h L (of.bind kf) := fun b e z => by
  obtain ⟨x, h1, h2⟩ := Option.bind_eq_some_iff.mp e
  refine v_callS q hdg hp hlk ok (hC x h1) (Nat.le_of_ble_eq_true hd) hn hst (Nat.le_of_ble_eq_true hcat) (fun r' h' L' y => ?_)
  obtain ⟨rfl, rfl, rfl⟩ := y
  exact kk _ b h2 z
theorem g_cN_VH {M' : MD} {d' ix n : Nat} {av : List AV} {st : List AV} {of : Option HI} {kf : HI → Option β} (q : Nat) (hdg : decode M.2.1 pc = .ok (.invokestatic ix, 3)) (hp : pc + 3 = q) {host : String} (hlk : (M.1.cls, ix, M'.1, host) ∈ nestL) (ok : OKS M' n) (hC : CG M' d' av h L (lfVH L) of) (hst : av.reverse ++ rest = st) (hn : av.length = n) (hd : Nat.ble (d' + 1) d = true) (hcat : Nat.ble (rest.map catA).sum 8 = true) (kk : ∀ (h1 : HI), VX M d T G q ls (rest) h1 L (kf h1)) : VX M d T G pc ls st h L (of.bind kf) := fun b e z => by
  obtain ⟨x, h1, h2⟩ := Option.bind_eq_some_iff.mp e
  refine v_callN q hdg hp hlk ok (hC x h1) (Nat.le_of_ble_eq_true hd) hn hst (Nat.le_of_ble_eq_true hcat) (fun r' h' L' y => ?_)
  obtain ⟨rfl, rfl, rfl⟩ := y
  exact kk _ b h2 z
theorem g_cV_IH {M' : MD} {d' ix n g k : Nat} {av : List AV} {st : List AV} {of : Option (Int32 × HI)} {kf : (Int32 × HI) → Option β} (q : Nat) (hdg : decode M.2.1 pc = .ok (.invokevirtual ix, 3)) (hp : pc + 3 = q) (hlk : Cond.methodLink M.1.cls ix M'.1 ∈ gw) (ok : OKV M' n) (hC : CG M' d' (aR g k :: av) h L (lfIH L) of) (hob : OKO g k M'.1.cls) (hst : av.reverse ++ aR g k :: rest = st) (hn : av.length = n) (hd : Nat.ble (d' + 1) d = true) (hcat : Nat.ble (rest.map catA).sum 8 = true) (kk : ∀ (x : Int32) (h1 : HI), VX M d T G q ls (aI x :: rest) h1 L (kf (x, h1))) : VX M d T G pc ls st h L (of.bind kf) := fun b e z => by
  obtain ⟨x, h1, h2⟩ := Option.bind_eq_some_iff.mp e
  obtain ⟨o1, ci, T0, N, o2, o3⟩ := hob
  refine w_callV q hdg hp hlk ok (hC x h1) o1 hst o2 o3 hn hd hcat (fun r' h' L' y => ?_)
  obtain ⟨rfl, rfl, rfl⟩ := y
  exact kk x.1 x.2 b h2 z
theorem g_cS_IH {M' : MD} {d' ix n : Nat} {av : List AV} {st : List AV} {of : Option (Int32 × HI)} {kf : (Int32 × HI) → Option β} (q : Nat) (hdg : decode M.2.1 pc = .ok (.invokestatic ix, 3)) (hp : pc + 3 = q) (hlk : Cond.methodLink M.1.cls ix M'.1 ∈ gw) (ok : OKS M' n) (hC : CG M' d' av h L (lfIH L) of) (hst : av.reverse ++ rest = st) (hn : av.length = n) (hd : Nat.ble (d' + 1) d = true) (hcat : Nat.ble (rest.map catA).sum 8 = true) (kk : ∀ (x : Int32) (h1 : HI), VX M d T G q ls (aI x :: rest) h1 L (kf (x, h1))) : VX M d T G pc ls st h L (of.bind kf) := fun b e z => by
  obtain ⟨x, h1, h2⟩ := Option.bind_eq_some_iff.mp e
  refine v_callS q hdg hp hlk ok (hC x h1) (Nat.le_of_ble_eq_true hd) hn hst (Nat.le_of_ble_eq_true hcat) (fun r' h' L' y => ?_)
  obtain ⟨rfl, rfl, rfl⟩ := y
  exact kk x.1 x.2 b h2 z
theorem g_cN_IH {M' : MD} {d' ix n : Nat} {av : List AV} {st : List AV} {of : Option (Int32 × HI)} {kf : (Int32 × HI) → Option β} (q : Nat) (hdg : decode M.2.1 pc = .ok (.invokestatic ix, 3)) (hp : pc + 3 = q) {host : String} (hlk : (M.1.cls, ix, M'.1, host) ∈ nestL) (ok : OKS M' n) (hC : CG M' d' av h L (lfIH L) of) (hst : av.reverse ++ rest = st) (hn : av.length = n) (hd : Nat.ble (d' + 1) d = true) (hcat : Nat.ble (rest.map catA).sum 8 = true) (kk : ∀ (x : Int32) (h1 : HI), VX M d T G q ls (aI x :: rest) h1 L (kf (x, h1))) : VX M d T G pc ls st h L (of.bind kf) := fun b e z => by
  obtain ⟨x, h1, h2⟩ := Option.bind_eq_some_iff.mp e
  refine v_callN q hdg hp hlk ok (hC x h1) (Nat.le_of_ble_eq_true hd) hn hst (Nat.le_of_ble_eq_true hcat) (fun r' h' L' y => ?_)
  obtain ⟨rfl, rfl, rfl⟩ := y
  exact kk x.1 x.2 b h2 z
theorem g_cV_VL {M' : MD} {d' ix n g k : Nat} {av : List AV} {st : List AV} {of : Option HL} {kf : HL → Option β} (q : Nat) (hdg : decode M.2.1 pc = .ok (.invokevirtual ix, 3)) (hp : pc + 3 = q) (hlk : Cond.methodLink M.1.cls ix M'.1 ∈ gw) (ok : OKV M' n) (hC : CG M' d' (aR g k :: av) h L (lfVL h) of) (hob : OKO g k M'.1.cls) (hst : av.reverse ++ aR g k :: rest = st) (hn : av.length = n) (hd : Nat.ble (d' + 1) d = true) (hcat : Nat.ble (rest.map catA).sum 8 = true) (kk : ∀ (L1 : HL), VX M d T G q ls (rest) h L1 (kf L1)) : VX M d T G pc ls st h L (of.bind kf) := fun b e z => by
  obtain ⟨x, h1, h2⟩ := Option.bind_eq_some_iff.mp e
  obtain ⟨o1, ci, T0, N, o2, o3⟩ := hob
  refine w_callV q hdg hp hlk ok (hC x h1) o1 hst o2 o3 hn hd hcat (fun r' h' L' y => ?_)
  obtain ⟨rfl, rfl, rfl⟩ := y
  exact kk _ b h2 z
theorem g_cS_VL {M' : MD} {d' ix n : Nat} {av : List AV} {st : List AV} {of : Option HL} {kf : HL → Option β} (q : Nat) (hdg : decode M.2.1 pc = .ok (.invokestatic ix, 3)) (hp : pc + 3 = q) (hlk : Cond.methodLink M.1.cls ix M'.1 ∈ gw) (ok : OKS M' n) (hC : CG M' d' av h L (lfVL h) of) (hst : av.reverse ++ rest = st) (hn : av.length = n) (hd : Nat.ble (d' + 1) d = true) (hcat : Nat.ble (rest.map catA).sum 8 = true) (kk : ∀ (L1 : HL), VX M d T G q ls (rest) h L1 (kf L1)) : VX M d T G pc ls st h L (of.bind kf) := fun b e z => by
  obtain ⟨x, h1, h2⟩ := Option.bind_eq_some_iff.mp e
  refine v_callS q hdg hp hlk ok (hC x h1) (Nat.le_of_ble_eq_true hd) hn hst (Nat.le_of_ble_eq_true hcat) (fun r' h' L' y => ?_)
  obtain ⟨rfl, rfl, rfl⟩ := y
  exact kk _ b h2 z
theorem g_cN_VL {M' : MD} {d' ix n : Nat} {av : List AV} {st : List AV} {of : Option HL} {kf : HL → Option β} (q : Nat) (hdg : decode M.2.1 pc = .ok (.invokestatic ix, 3)) (hp : pc + 3 = q) {host : String} (hlk : (M.1.cls, ix, M'.1, host) ∈ nestL) (ok : OKS M' n) (hC : CG M' d' av h L (lfVL h) of) (hst : av.reverse ++ rest = st) (hn : av.length = n) (hd : Nat.ble (d' + 1) d = true) (hcat : Nat.ble (rest.map catA).sum 8 = true) (kk : ∀ (L1 : HL), VX M d T G q ls (rest) h L1 (kf L1)) : VX M d T G pc ls st h L (of.bind kf) := fun b e z => by
  obtain ⟨x, h1, h2⟩ := Option.bind_eq_some_iff.mp e
  refine v_callN q hdg hp hlk ok (hC x h1) (Nat.le_of_ble_eq_true hd) hn hst (Nat.le_of_ble_eq_true hcat) (fun r' h' L' y => ?_)
  obtain ⟨rfl, rfl, rfl⟩ := y
  exact kk _ b h2 z
theorem g_cV_JL {M' : MD} {d' ix n g k : Nat} {av : List AV} {st : List AV} {of : Option (Int64 × HL)} {kf : (Int64 × HL) → Option β} (q : Nat) (hdg : decode M.2.1 pc = .ok (.invokevirtual ix, 3)) (hp : pc + 3 = q) (hlk : Cond.methodLink M.1.cls ix M'.1 ∈ gw) (ok : OKV M' n) (hC : CG M' d' (aR g k :: av) h L (lfJL h) of) (hob : OKO g k M'.1.cls) (hst : av.reverse ++ aR g k :: rest = st) (hn : av.length = n) (hd : Nat.ble (d' + 1) d = true) (hcat : Nat.ble (rest.map catA).sum 8 = true) (kk : ∀ (x : Int64) (L1 : HL), VX M d T G q ls (aL x :: rest) h L1 (kf (x, L1))) : VX M d T G pc ls st h L (of.bind kf) := fun b e z => by
  obtain ⟨x, h1, h2⟩ := Option.bind_eq_some_iff.mp e
  obtain ⟨o1, ci, T0, N, o2, o3⟩ := hob
  refine w_callV q hdg hp hlk ok (hC x h1) o1 hst o2 o3 hn hd hcat (fun r' h' L' y => ?_)
  obtain ⟨rfl, rfl, rfl⟩ := y
  exact kk x.1 x.2 b h2 z
theorem g_cS_JL {M' : MD} {d' ix n : Nat} {av : List AV} {st : List AV} {of : Option (Int64 × HL)} {kf : (Int64 × HL) → Option β} (q : Nat) (hdg : decode M.2.1 pc = .ok (.invokestatic ix, 3)) (hp : pc + 3 = q) (hlk : Cond.methodLink M.1.cls ix M'.1 ∈ gw) (ok : OKS M' n) (hC : CG M' d' av h L (lfJL h) of) (hst : av.reverse ++ rest = st) (hn : av.length = n) (hd : Nat.ble (d' + 1) d = true) (hcat : Nat.ble (rest.map catA).sum 8 = true) (kk : ∀ (x : Int64) (L1 : HL), VX M d T G q ls (aL x :: rest) h L1 (kf (x, L1))) : VX M d T G pc ls st h L (of.bind kf) := fun b e z => by
  obtain ⟨x, h1, h2⟩ := Option.bind_eq_some_iff.mp e
  refine v_callS q hdg hp hlk ok (hC x h1) (Nat.le_of_ble_eq_true hd) hn hst (Nat.le_of_ble_eq_true hcat) (fun r' h' L' y => ?_)
  obtain ⟨rfl, rfl, rfl⟩ := y
  exact kk x.1 x.2 b h2 z
theorem g_cN_JL {M' : MD} {d' ix n : Nat} {av : List AV} {st : List AV} {of : Option (Int64 × HL)} {kf : (Int64 × HL) → Option β} (q : Nat) (hdg : decode M.2.1 pc = .ok (.invokestatic ix, 3)) (hp : pc + 3 = q) {host : String} (hlk : (M.1.cls, ix, M'.1, host) ∈ nestL) (ok : OKS M' n) (hC : CG M' d' av h L (lfJL h) of) (hst : av.reverse ++ rest = st) (hn : av.length = n) (hd : Nat.ble (d' + 1) d = true) (hcat : Nat.ble (rest.map catA).sum 8 = true) (kk : ∀ (x : Int64) (L1 : HL), VX M d T G q ls (aL x :: rest) h L1 (kf (x, L1))) : VX M d T G pc ls st h L (of.bind kf) := fun b e z => by
  obtain ⟨x, h1, h2⟩ := Option.bind_eq_some_iff.mp e
  refine v_callN q hdg hp hlk ok (hC x h1) (Nat.le_of_ble_eq_true hd) hn hst (Nat.le_of_ble_eq_true hcat) (fun r' h' L' y => ?_)
  obtain ⟨rfl, rfl, rfl⟩ := y
  exact kk x.1 x.2 b h2 z
theorem g_cV_IHL {M' : MD} {d' ix n g k : Nat} {av : List AV} {st : List AV} {of : Option (Int32 × HI × HL)} {kf : (Int32 × HI × HL) → Option β} (q : Nat) (hdg : decode M.2.1 pc = .ok (.invokevirtual ix, 3)) (hp : pc + 3 = q) (hlk : Cond.methodLink M.1.cls ix M'.1 ∈ gw) (ok : OKV M' n) (hC : CG M' d' (aR g k :: av) h L (lfIHL) of) (hob : OKO g k M'.1.cls) (hst : av.reverse ++ aR g k :: rest = st) (hn : av.length = n) (hd : Nat.ble (d' + 1) d = true) (hcat : Nat.ble (rest.map catA).sum 8 = true) (kk : ∀ (x : Int32) (h1 : HI) (L1 : HL), VX M d T G q ls (aI x :: rest) h1 L1 (kf (x, h1, L1))) : VX M d T G pc ls st h L (of.bind kf) := fun b e z => by
  obtain ⟨x, h1, h2⟩ := Option.bind_eq_some_iff.mp e
  obtain ⟨o1, ci, T0, N, o2, o3⟩ := hob
  refine w_callV q hdg hp hlk ok (hC x h1) o1 hst o2 o3 hn hd hcat (fun r' h' L' y => ?_)
  obtain ⟨rfl, rfl, rfl⟩ := y
  exact kk x.1 x.2.1 x.2.2 b h2 z
theorem g_cS_IHL {M' : MD} {d' ix n : Nat} {av : List AV} {st : List AV} {of : Option (Int32 × HI × HL)} {kf : (Int32 × HI × HL) → Option β} (q : Nat) (hdg : decode M.2.1 pc = .ok (.invokestatic ix, 3)) (hp : pc + 3 = q) (hlk : Cond.methodLink M.1.cls ix M'.1 ∈ gw) (ok : OKS M' n) (hC : CG M' d' av h L (lfIHL) of) (hst : av.reverse ++ rest = st) (hn : av.length = n) (hd : Nat.ble (d' + 1) d = true) (hcat : Nat.ble (rest.map catA).sum 8 = true) (kk : ∀ (x : Int32) (h1 : HI) (L1 : HL), VX M d T G q ls (aI x :: rest) h1 L1 (kf (x, h1, L1))) : VX M d T G pc ls st h L (of.bind kf) := fun b e z => by
  obtain ⟨x, h1, h2⟩ := Option.bind_eq_some_iff.mp e
  refine v_callS q hdg hp hlk ok (hC x h1) (Nat.le_of_ble_eq_true hd) hn hst (Nat.le_of_ble_eq_true hcat) (fun r' h' L' y => ?_)
  obtain ⟨rfl, rfl, rfl⟩ := y
  exact kk x.1 x.2.1 x.2.2 b h2 z
theorem g_cN_IHL {M' : MD} {d' ix n : Nat} {av : List AV} {st : List AV} {of : Option (Int32 × HI × HL)} {kf : (Int32 × HI × HL) → Option β} (q : Nat) (hdg : decode M.2.1 pc = .ok (.invokestatic ix, 3)) (hp : pc + 3 = q) {host : String} (hlk : (M.1.cls, ix, M'.1, host) ∈ nestL) (ok : OKS M' n) (hC : CG M' d' av h L (lfIHL) of) (hst : av.reverse ++ rest = st) (hn : av.length = n) (hd : Nat.ble (d' + 1) d = true) (hcat : Nat.ble (rest.map catA).sum 8 = true) (kk : ∀ (x : Int32) (h1 : HI) (L1 : HL), VX M d T G q ls (aI x :: rest) h1 L1 (kf (x, h1, L1))) : VX M d T G pc ls st h L (of.bind kf) := fun b e z => by
  obtain ⟨x, h1, h2⟩ := Option.bind_eq_some_iff.mp e
  refine v_callN q hdg hp hlk ok (hC x h1) (Nat.le_of_ble_eq_true hd) hn hst (Nat.le_of_ble_eq_true hcat) (fun r' h' L' y => ?_)
  obtain ⟨rfl, rfl, rfl⟩ := y
  exact kk x.1 x.2.1 x.2.2 b h2 z
theorem g_cV_JHL {M' : MD} {d' ix n g k : Nat} {av : List AV} {st : List AV} {of : Option (Int64 × HI × HL)} {kf : (Int64 × HI × HL) → Option β} (q : Nat) (hdg : decode M.2.1 pc = .ok (.invokevirtual ix, 3)) (hp : pc + 3 = q) (hlk : Cond.methodLink M.1.cls ix M'.1 ∈ gw) (ok : OKV M' n) (hC : CG M' d' (aR g k :: av) h L (lfJHL) of) (hob : OKO g k M'.1.cls) (hst : av.reverse ++ aR g k :: rest = st) (hn : av.length = n) (hd : Nat.ble (d' + 1) d = true) (hcat : Nat.ble (rest.map catA).sum 8 = true) (kk : ∀ (x : Int64) (h1 : HI) (L1 : HL), VX M d T G q ls (aL x :: rest) h1 L1 (kf (x, h1, L1))) : VX M d T G pc ls st h L (of.bind kf) := fun b e z => by
  obtain ⟨x, h1, h2⟩ := Option.bind_eq_some_iff.mp e
  obtain ⟨o1, ci, T0, N, o2, o3⟩ := hob
  refine w_callV q hdg hp hlk ok (hC x h1) o1 hst o2 o3 hn hd hcat (fun r' h' L' y => ?_)
  obtain ⟨rfl, rfl, rfl⟩ := y
  exact kk x.1 x.2.1 x.2.2 b h2 z
theorem g_cS_JHL {M' : MD} {d' ix n : Nat} {av : List AV} {st : List AV} {of : Option (Int64 × HI × HL)} {kf : (Int64 × HI × HL) → Option β} (q : Nat) (hdg : decode M.2.1 pc = .ok (.invokestatic ix, 3)) (hp : pc + 3 = q) (hlk : Cond.methodLink M.1.cls ix M'.1 ∈ gw) (ok : OKS M' n) (hC : CG M' d' av h L (lfJHL) of) (hst : av.reverse ++ rest = st) (hn : av.length = n) (hd : Nat.ble (d' + 1) d = true) (hcat : Nat.ble (rest.map catA).sum 8 = true) (kk : ∀ (x : Int64) (h1 : HI) (L1 : HL), VX M d T G q ls (aL x :: rest) h1 L1 (kf (x, h1, L1))) : VX M d T G pc ls st h L (of.bind kf) := fun b e z => by
  obtain ⟨x, h1, h2⟩ := Option.bind_eq_some_iff.mp e
  refine v_callS q hdg hp hlk ok (hC x h1) (Nat.le_of_ble_eq_true hd) hn hst (Nat.le_of_ble_eq_true hcat) (fun r' h' L' y => ?_)
  obtain ⟨rfl, rfl, rfl⟩ := y
  exact kk x.1 x.2.1 x.2.2 b h2 z
theorem g_cN_JHL {M' : MD} {d' ix n : Nat} {av : List AV} {st : List AV} {of : Option (Int64 × HI × HL)} {kf : (Int64 × HI × HL) → Option β} (q : Nat) (hdg : decode M.2.1 pc = .ok (.invokestatic ix, 3)) (hp : pc + 3 = q) {host : String} (hlk : (M.1.cls, ix, M'.1, host) ∈ nestL) (ok : OKS M' n) (hC : CG M' d' av h L (lfJHL) of) (hst : av.reverse ++ rest = st) (hn : av.length = n) (hd : Nat.ble (d' + 1) d = true) (hcat : Nat.ble (rest.map catA).sum 8 = true) (kk : ∀ (x : Int64) (h1 : HI) (L1 : HL), VX M d T G q ls (aL x :: rest) h1 L1 (kf (x, h1, L1))) : VX M d T G pc ls st h L (of.bind kf) := fun b e z => by
  obtain ⟨x, h1, h2⟩ := Option.bind_eq_some_iff.mp e
  refine v_callN q hdg hp hlk ok (hC x h1) (Nat.le_of_ble_eq_true hd) hn hst (Nat.le_of_ble_eq_true hcat) (fun r' h' L' y => ?_)
  obtain ⟨rfl, rfl, rfl⟩ := y
  exact kk x.1 x.2.1 x.2.2 b h2 z
end VXRows
theorem oO0 {g : Nat} (hg : g < 3) : OKO g 0 RX0 := ⟨bk hg (by decide), 0, TX0, _, rfl, rfl⟩
theorem oR0_0 {g : Nat} (hg : g < 3) : OKR g 0 0 0 g 1 := ⟨bk hg (by decide), rfl, rfl⟩
theorem oR0_1 {g : Nat} (hg : g < 3) : OKR g 0 0 1 g 8 := ⟨bk hg (by decide), rfl, rfl⟩
theorem oR0_2 {g : Nat} (hg : g < 3) : OKR g 0 0 2 g 14 := ⟨bk hg (by decide), rfl, rfl⟩
theorem oF0_3 {g : Nat} (hg : g < 3) : OKF g 0 0 3 := ⟨bk hg (by decide), rfl, rfl⟩
theorem oF0_4 {g : Nat} (hg : g < 3) : OKF g 0 0 4 := ⟨bk hg (by decide), rfl, rfl⟩
theorem oF0_5 {g : Nat} (hg : g < 3) : OKF g 0 0 5 := ⟨bk hg (by decide), rfl, rfl⟩
theorem oO1 {g : Nat} (hg : g < 3) : OKO g 1 RX5 := ⟨bk hg (by decide), 5, TX5, _, rfl, rfl⟩
theorem oR1_0 {g : Nat} (hg : g < 3) : OKR g 1 5 0 g 2 := ⟨bk hg (by decide), rfl, rfl⟩
theorem oR1_1 {g : Nat} (hg : g < 3) : OKR g 1 5 1 g 3 := ⟨bk hg (by decide), rfl, rfl⟩
theorem oR1_2 {g : Nat} (hg : g < 3) : OKR g 1 5 2 g 4 := ⟨bk hg (by decide), rfl, rfl⟩
theorem oR1_3 {g : Nat} (hg : g < 3) : OKR g 1 5 3 g 5 := ⟨bk hg (by decide), rfl, rfl⟩
theorem oR1_4 {g : Nat} (hg : g < 3) : OKR g 1 5 4 g 6 := ⟨bk hg (by decide), rfl, rfl⟩
theorem oR1_5 {g : Nat} (hg : g < 3) : OKR g 1 5 5 g 7 := ⟨bk hg (by decide), rfl, rfl⟩
theorem oF1_6 {g : Nat} (hg : g < 3) : OKF g 1 5 6 := ⟨bk hg (by decide), rfl, rfl⟩
theorem oA2 {g : Nat} (hg : g < 3) : OKA g 2 12 := ⟨bk hg (by decide), rfl, rfl, rfl⟩
theorem oA3 {g : Nat} (hg : g < 3) : OKA g 3 12 := ⟨bk hg (by decide), rfl, rfl, rfl⟩
theorem oA4 {g : Nat} (hg : g < 3) : OKA g 4 12 := ⟨bk hg (by decide), rfl, rfl, rfl⟩
theorem oA5 {g : Nat} (hg : g < 3) : OKA g 5 12 := ⟨bk hg (by decide), rfl, rfl, rfl⟩
theorem oA6 {g : Nat} (hg : g < 3) : OKA g 6 12 := ⟨bk hg (by decide), rfl, rfl, rfl⟩
theorem oA7 {g : Nat} (hg : g < 3) : OKA g 7 12 := ⟨bk hg (by decide), rfl, rfl, rfl⟩
theorem oO8 {g : Nat} (hg : g < 3) : OKO g 8 RX8 := ⟨bk hg (by decide), 8, TX8, _, rfl, rfl⟩
theorem oR8_0 {g : Nat} (hg : g < 3) : OKR g 8 8 0 g 9 := ⟨bk hg (by decide), rfl, rfl⟩
theorem oR8_1 {g : Nat} (hg : g < 3) : OKR g 8 8 1 g 10 := ⟨bk hg (by decide), rfl, rfl⟩
theorem oR8_2 {g : Nat} (hg : g < 3) : OKR g 8 8 2 g 11 := ⟨bk hg (by decide), rfl, rfl⟩
theorem oR8_3 {g : Nat} (hg : g < 3) : OKR g 8 8 3 g 12 := ⟨bk hg (by decide), rfl, rfl⟩
theorem oR8_4 {g : Nat} (hg : g < 3) : OKR g 8 8 4 g 13 := ⟨bk hg (by decide), rfl, rfl⟩
theorem oF8_5 {g : Nat} (hg : g < 3) : OKF g 8 8 5 := ⟨bk hg (by decide), rfl, rfl⟩
theorem oA9 {g : Nat} (hg : g < 3) : OKA g 9 12 := ⟨bk hg (by decide), rfl, rfl, rfl⟩
theorem oA10 {g : Nat} (hg : g < 3) : OKA g 10 12 := ⟨bk hg (by decide), rfl, rfl, rfl⟩
theorem oA11 {g : Nat} (hg : g < 3) : OKA g 11 12 := ⟨bk hg (by decide), rfl, rfl, rfl⟩
theorem oA12 {g : Nat} (hg : g < 3) : OKA g 12 12 := ⟨bk hg (by decide), rfl, rfl, rfl⟩
theorem oA13 {g : Nat} (hg : g < 3) : OKA g 13 12 := ⟨bk hg (by decide), rfl, rfl, rfl⟩
theorem oO14 {g : Nat} (hg : g < 3) : OKO g 14 RX3 := ⟨bk hg (by decide), 3, TX3, _, rfl, rfl⟩
theorem oR14_0 {g : Nat} (hg : g < 3) : OKR g 14 3 0 g 15 := ⟨bk hg (by decide), rfl, rfl⟩
theorem oF14_1 {g : Nat} (hg : g < 3) : OKF g 14 3 1 := ⟨bk hg (by decide), rfl, rfl⟩
theorem oA15 {g : Nat} (hg : g < 3) : OKA g 15 12 := ⟨bk hg (by decide), rfl, rfl, rfl⟩
theorem oO16  : OKO 3 16 RX9 := ⟨by decide, 9, TX9, _, rfl, rfl⟩
theorem oR16_0  : OKR 3 16 9 0 3 17 := ⟨by decide, rfl, rfl⟩
theorem oR16_1  : OKR 3 16 9 1 0 0 := ⟨by decide, rfl, rfl⟩
theorem oR16_2  : OKR 3 16 9 2 1 0 := ⟨by decide, rfl, rfl⟩
theorem oF16_3  : OKF 3 16 9 3 := ⟨by decide, rfl, rfl⟩
theorem oR16_4  : OKR 3 16 9 4 4 18 := ⟨by decide, rfl, rfl⟩
theorem oR16_5  : OKR 3 16 9 5 7 24 := ⟨by decide, rfl, rfl⟩
theorem oR16_6  : OKR 3 16 9 6 5 25 := ⟨by decide, rfl, rfl⟩
theorem oR16_7  : OKR 3 16 9 7 6 28 := ⟨by decide, rfl, rfl⟩
theorem oA17  : OKA 3 17 7 := ⟨by decide, rfl, rfl, rfl⟩
theorem oO18  : OKO 4 18 RX1 := ⟨by decide, 1, TX1, _, rfl, rfl⟩
theorem oR18_0  : OKR 4 18 1 0 4 19 := ⟨by decide, rfl, rfl⟩
theorem oR18_1  : OKR 4 18 1 1 4 20 := ⟨by decide, rfl, rfl⟩
theorem oR18_2  : OKR 4 18 1 2 4 21 := ⟨by decide, rfl, rfl⟩
theorem oR18_3  : OKR 4 18 1 3 4 22 := ⟨by decide, rfl, rfl⟩
theorem oR18_4  : OKR 4 18 1 4 4 23 := ⟨by decide, rfl, rfl⟩
theorem oF18_5  : OKF 4 18 1 5 := ⟨by decide, rfl, rfl⟩
theorem oF18_6  : OKF 4 18 1 6 := ⟨by decide, rfl, rfl⟩
theorem oF18_7  : OKF 4 18 1 7 := ⟨by decide, rfl, rfl⟩
theorem oF18_8  : OKF 4 18 1 8 := ⟨by decide, rfl, rfl⟩
theorem oA19  : OKA 4 19 144 := ⟨by decide, rfl, rfl, rfl⟩
theorem oA20  : OKA 4 20 144 := ⟨by decide, rfl, rfl, rfl⟩
theorem oA21  : OKA 4 21 12 := ⟨by decide, rfl, rfl, rfl⟩
theorem oA22  : OKA 4 22 12 := ⟨by decide, rfl, rfl, rfl⟩
theorem oA23  : OKA 4 23 12 := ⟨by decide, rfl, rfl, rfl⟩
theorem oO24  : OKO 7 24 RX4 := ⟨by decide, 4, TX4, _, rfl, rfl⟩
theorem oR24_0  : OKR 7 24 4 0 2 0 := ⟨by decide, rfl, rfl⟩
theorem oO25  : OKO 5 25 RX2 := ⟨by decide, 2, TX2, _, rfl, rfl⟩
theorem oR25_0  : OKR 5 25 2 0 5 26 := ⟨by decide, rfl, rfl⟩
theorem oO26  : OKO 5 26 RX7 := ⟨by decide, 7, TX7, _, rfl, rfl⟩
theorem oR26_0  : OKR 5 26 7 0 5 27 := ⟨by decide, rfl, rfl⟩
theorem oF26_1  : OKF 5 26 7 1 := ⟨by decide, rfl, rfl⟩
theorem oF26_2  : OKF 5 26 7 2 := ⟨by decide, rfl, rfl⟩
theorem oF26_3  : OKF 5 26 7 3 := ⟨by decide, rfl, rfl⟩
theorem oF26_4  : OKF 5 26 7 4 := ⟨by decide, rfl, rfl⟩
theorem oF26_5  : OKF 5 26 7 5 := ⟨by decide, rfl, rfl⟩
theorem oA27  : OKA 5 27 120 := ⟨by decide, rfl, rfl, rfl⟩
theorem oO28  : OKO 6 28 RX6 := ⟨by decide, 6, TX6, _, rfl, rfl⟩
theorem oR28_0  : OKR 6 28 6 0 6 29 := ⟨by decide, rfl, rfl⟩
theorem oR28_1  : OKR 6 28 6 1 6 30 := ⟨by decide, rfl, rfl⟩
theorem oR28_2  : OKR 6 28 6 2 6 31 := ⟨by decide, rfl, rfl⟩
theorem oA29  : OKA 6 29 4 := ⟨by decide, rfl, rfl, rfl⟩
theorem oA30  : OKA 6 30 4 := ⟨by decide, rfl, rfl, rfl⟩
theorem oA31  : OKL 6 31 160 := ⟨by decide, rfl, rfl, rfl⟩
theorem oO32  : OKO 8 32 RX10 := ⟨by decide, 10, TX10, _, rfl, rfl⟩
theorem oR32_0  : OKR 8 32 10 0 8 33 := ⟨by decide, rfl, rfl⟩
theorem oR32_1  : OKR 8 32 10 1 8 34 := ⟨by decide, rfl, rfl⟩
theorem oR32_2  : OKR 8 32 10 2 8 35 := ⟨by decide, rfl, rfl⟩
theorem oR32_3  : OKR 8 32 10 3 8 36 := ⟨by decide, rfl, rfl⟩
theorem oF32_4  : OKF 8 32 10 4 := ⟨by decide, rfl, rfl⟩
theorem oF32_5  : OKF 8 32 10 5 := ⟨by decide, rfl, rfl⟩
theorem oF32_6  : OKF 8 32 10 6 := ⟨by decide, rfl, rfl⟩
theorem oF32_7  : OKF 8 32 10 7 := ⟨by decide, rfl, rfl⟩
theorem oR32_8  : OKR 8 32 10 8 8 37 := ⟨by decide, rfl, rfl⟩
theorem oR32_9  : OKR 8 32 10 9 8 38 := ⟨by decide, rfl, rfl⟩
theorem oF32_10  : OKF 8 32 10 10 := ⟨by decide, rfl, rfl⟩
theorem oR32_11  : OKR 8 32 10 11 8 39 := ⟨by decide, rfl, rfl⟩
theorem oF32_12  : OKF 8 32 10 12 := ⟨by decide, rfl, rfl⟩
theorem oF32_13  : OKF 8 32 10 13 := ⟨by decide, rfl, rfl⟩
theorem oF32_14  : OKF 8 32 10 14 := ⟨by decide, rfl, rfl⟩
theorem oF32_15  : OKF 8 32 10 15 := ⟨by decide, rfl, rfl⟩
theorem oF32_16  : OKF 8 32 10 16 := ⟨by decide, rfl, rfl⟩
theorem oR32_17  : OKR 8 32 10 17 8 40 := ⟨by decide, rfl, rfl⟩
theorem oR32_18  : OKR 8 32 10 18 8 41 := ⟨by decide, rfl, rfl⟩
theorem oR32_19  : OKR 8 32 10 19 8 42 := ⟨by decide, rfl, rfl⟩
theorem oR32_20  : OKR 8 32 10 20 8 43 := ⟨by decide, rfl, rfl⟩
theorem oA33  : OKA 8 33 150 := ⟨by decide, rfl, rfl, rfl⟩
theorem oA34  : OKA 8 34 150 := ⟨by decide, rfl, rfl, rfl⟩
theorem oA35  : OKA 8 35 150 := ⟨by decide, rfl, rfl, rfl⟩
theorem oA36  : OKA 8 36 7 := ⟨by decide, rfl, rfl, rfl⟩
theorem oA37  : OKA 8 37 5 := ⟨by decide, rfl, rfl, rfl⟩
theorem oA38  : OKA 8 38 5 := ⟨by decide, rfl, rfl, rfl⟩
theorem oA39  : OKA 8 39 120 := ⟨by decide, rfl, rfl, rfl⟩
theorem oA40  : OKA 8 40 4 := ⟨by decide, rfl, rfl, rfl⟩
theorem oA41  : OKA 8 41 4 := ⟨by decide, rfl, rfl, rfl⟩
theorem oA42  : OKL 8 42 160 := ⟨by decide, rfl, rfl, rfl⟩
theorem oA43  : OKL 8 43 40 := ⟨by decide, rfl, rfl, rfl⟩
