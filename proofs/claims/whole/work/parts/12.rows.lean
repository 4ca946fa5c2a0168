-- ROWS OF V: one an instruction
theorem alen_lt (k : Nat) : alen k < 2 ^ 31 := by
  unfold alen
  split <;> decide
section VRows
variable {M : MD} {d : Nat} {Q : ZT} {pc : Nat} {ls : List (Option AV)} {rest : List AV} {h : HI} {L : HL}
theorem v_iconst {n : Int} {v : Int32} (q : Nat) (hdg : decode M.2.1 pc = .ok (.iconst n, 1)) (hp : pc + 1 = q) (hv : Int32.ofInt n = v) (k : V M d Q q ls (aI v :: rest) h L) : V M d Q pc ls (rest) h L := by
  subst hp
  intro ω p l e R s m args below meth c H locs a C hP hS hl
  exact lv_iconst C.1 C.2.1 hdg hv (k ω p l e R s m args below meth c H locs a C hP hS hl)
theorem v_bipush {n : Int} {v : Int32} (q : Nat) (hdg : decode M.2.1 pc = .ok (.bipush n, 2)) (hp : pc + 2 = q) (hv : (Int8.ofInt n).toInt32 = v) (k : V M d Q q ls (aI v :: rest) h L) : V M d Q pc ls (rest) h L := by
  subst hp
  intro ω p l e R s m args below meth c H locs a C hP hS hl
  exact lv_bipush C.1 C.2.1 hdg hv (k ω p l e R s m args below meth c H locs a C hP hS hl)
theorem v_sipush {n : Int} {v : Int32} (q : Nat) (hdg : decode M.2.1 pc = .ok (.sipush n, 3)) (hp : pc + 3 = q) (hv : (Int16.ofInt n).toInt32 = v) (k : V M d Q q ls (aI v :: rest) h L) : V M d Q pc ls (rest) h L := by
  subst hp
  intro ω p l e R s m args below meth c H locs a C hP hS hl
  exact lv_sipush C.1 C.2.1 hdg hv (k ω p l e R s m args below meth c H locs a C hP hS hl)
theorem v_lconst {n : Fin 2} {v : Int64} (q : Nat) (hdg : decode M.2.1 pc = .ok (.lconst n, 1)) (hp : pc + 1 = q) (hv : Int64.ofNat (n : Nat) = v) (k : V M d Q q ls (aL v :: rest) h L) : V M d Q pc ls (rest) h L := by
  subst hp
  intro ω p l e R s m args below meth c H locs a C hP hS hl
  exact lv_lconst C.1 C.2.1 hdg hv (k ω p l e R s m args below meth c H locs a C hP hS hl)
theorem v_ldc {ix : Nat} {v : Int32} (q : Nat) (hdg : decode M.2.1 pc = .ok (.ldc ix, 2)) (hp : pc + 2 = q) (hw : Cond.constant M.1.cls ix v ∈ gw) (k : V M d Q q ls (aI v :: rest) h L) : V M d Q pc ls (rest) h L := by
  subst hp
  intro ω p l e R s m args below meth c H locs a C hP hS hl
  exact lv_ldc C.1 C.2.1 C.2.2.2.2.2.1 (C.2.2.2.2.2.2.1 _ hw) hdg (k ω p l e R s m args below meth c H locs a C hP hS hl)
theorem v_ldcw {ix : Nat} {v : Int32} (q : Nat) (hdg : decode M.2.1 pc = .ok (.ldc_w ix, 3)) (hp : pc + 3 = q) (hw : Cond.constant M.1.cls ix v ∈ gw) (k : V M d Q q ls (aI v :: rest) h L) : V M d Q pc ls (rest) h L := by
  subst hp
  intro ω p l e R s m args below meth c H locs a C hP hS hl
  exact lv_ldcw C.1 C.2.1 C.2.2.2.2.2.1 (C.2.2.2.2.2.2.1 _ hw) hdg (k ω p l e R s m args below meth c H locs a C hP hS hl)
theorem v_ldc2 {ix : Nat} {v : Int64} (q : Nat) (hdg : decode M.2.1 pc = .ok (.ldc2_w ix, 3)) (hp : pc + 3 = q) (hw : Cond.constantLong M.1.cls ix v ∈ gw) (k : V M d Q q ls (aL v :: rest) h L) : V M d Q pc ls (rest) h L := by
  subst hp
  intro ω p l e R s m args below meth c H locs a C hP hS hl
  exact lv_ldc2 C.1 C.2.1 C.2.2.2.2.2.1 (C.2.2.2.2.2.2.1 _ hw) hdg (k ω p l e R s m args below meth c H locs a C hP hS hl)
theorem v_ldcS {ix i : Nat} {tx : String} (q : Nat) (hdg : decode M.2.1 pc = .ok (.ldc ix, 2)) (hp : pc + 2 = q) (hM : M.1.cls = RX2) (hs : strL[i]? = some (ix, tx)) (k : V M d Q q ls (aR 10 i :: rest) h L) : V M d Q pc ls (rest) h L := by
  subst hp
  intro ω p l e R s m args below meth c H locs a C hP hS hl
  exact va_ldcS C.1 C.2.1 C.2.2.2.2.2.1 (by rw [hM]; exact C.2.2.2.2.2.2.2.1.2.2.2.2.2.1 i (ix, tx) hs) hdg (k ω p l e R s m args below meth c H locs a C hP hS hl)
theorem v_iload_n {i : Nat} {n : Fin 4} {x : Int32} (q : Nat) (hdg : decode M.2.1 pc = .ok (.iload_n n, 1)) (hp : pc + 1 = q) (hi : (n : Nat) = i) (hv : ls[i]? = some (some (aI x))) (k : V M d Q q ls (aI x :: rest) h L) : V M d Q pc ls (rest) h L := by
  subst hp
  intro ω p l e R s m args below meth c H locs a C hP hS hl
  exact lv_iload_n C.1 C.2.1 hdg hi (lvl_get hl hv) (k ω p l e R s m args below meth c H locs a C hP hS hl)
theorem v_iload {i : Nat} {x : Int32} (q : Nat) (hdg : decode M.2.1 pc = .ok (.iload i, 2)) (hp : pc + 2 = q) (hv : ls[i]? = some (some (aI x))) (k : V M d Q q ls (aI x :: rest) h L) : V M d Q pc ls (rest) h L := by
  subst hp
  intro ω p l e R s m args below meth c H locs a C hP hS hl
  exact lv_iload C.1 C.2.1 hdg (lvl_get hl hv) (k ω p l e R s m args below meth c H locs a C hP hS hl)
theorem v_lload_n {i : Nat} {n : Fin 4} {x : Int64} (q : Nat) (hdg : decode M.2.1 pc = .ok (.lload_n n, 1)) (hp : pc + 1 = q) (hi : (n : Nat) = i) (hv : ls[i]? = some (some (aL x))) (k : V M d Q q ls (aL x :: rest) h L) : V M d Q pc ls (rest) h L := by
  subst hp
  intro ω p l e R s m args below meth c H locs a C hP hS hl
  exact lv_lload_n C.1 C.2.1 hdg hi (lvl_get hl hv) (k ω p l e R s m args below meth c H locs a C hP hS hl)
theorem v_lload {i : Nat} {x : Int64} (q : Nat) (hdg : decode M.2.1 pc = .ok (.lload i, 2)) (hp : pc + 2 = q) (hv : ls[i]? = some (some (aL x))) (k : V M d Q q ls (aL x :: rest) h L) : V M d Q pc ls (rest) h L := by
  subst hp
  intro ω p l e R s m args below meth c H locs a C hP hS hl
  exact lv_lload C.1 C.2.1 hdg (lvl_get hl hv) (k ω p l e R s m args below meth c H locs a C hP hS hl)
theorem v_aload_n {i : Nat} {n : Fin 4} {g j : Nat} (q : Nat) (hdg : decode M.2.1 pc = .ok (.aload_n n, 1)) (hp : pc + 1 = q) (hi : (n : Nat) = i) (hv : ls[i]? = some (some (aR g j))) (k : V M d Q q ls (aR g j :: rest) h L) : V M d Q pc ls (rest) h L := by
  subst hp
  intro ω p l e R s m args below meth c H locs a C hP hS hl
  exact lv_aload_n C.1 C.2.1 hdg hi (lvl_get hl hv) (k ω p l e R s m args below meth c H locs a C hP hS hl)
theorem v_aload {i : Nat} {g j : Nat} (q : Nat) (hdg : decode M.2.1 pc = .ok (.aload i, 2)) (hp : pc + 2 = q) (hv : ls[i]? = some (some (aR g j))) (k : V M d Q q ls (aR g j :: rest) h L) : V M d Q pc ls (rest) h L := by
  subst hp
  intro ω p l e R s m args below meth c H locs a C hP hS hl
  exact lv_aload C.1 C.2.1 hdg (lvl_get hl hv) (k ω p l e R s m args below meth c H locs a C hP hS hl)
theorem v_istore_n {i : Nat} {n : Fin 4} {x : Int32} (q : Nat) (hdg : decode M.2.1 pc = .ok (.istore_n n, 1)) (hp : pc + 1 = q) (hi : (n : Nat) = i) (hn : Nat.ble (i + 1) M.2.2.1 = true) (k : V M d Q q (sL1 i (aI x) 0 ls) rest h L) : V M d Q pc ls (aI x :: rest) h L := by
  subst hp
  intro ω p l e R s m args below meth c H locs a C hP hS hl
  exact lv_istore_n C.1 C.2.1 hdg hi hl (by have := Nat.le_of_ble_eq_true hn; omega) rfl (fun a' hl' => k ω p l e R s m args below meth c H locs a' C hP hS (lvl_s1 hl'))
theorem v_lstore_n {i : Nat} {n : Fin 4} {x : Int64} (q : Nat) (hdg : decode M.2.1 pc = .ok (.lstore_n n, 1)) (hp : pc + 1 = q) (hi : (n : Nat) = i) (hn : Nat.ble (i + 2) M.2.2.1 = true) (k : V M d Q q (sL2 i (aL x) 0 ls) rest h L) : V M d Q pc ls (aL x :: rest) h L := by
  subst hp
  intro ω p l e R s m args below meth c H locs a C hP hS hl
  exact lv_lstore_n C.1 C.2.1 hdg hi hl (by have := Nat.le_of_ble_eq_true hn; omega) rfl (fun a' hl' => k ω p l e R s m args below meth c H locs a' C hP hS (lvl_s2 hl'))
theorem v_astore_n {i : Nat} {n : Fin 4} {g j : Nat} (q : Nat) (hdg : decode M.2.1 pc = .ok (.astore_n n, 1)) (hp : pc + 1 = q) (hi : (n : Nat) = i) (hn : Nat.ble (i + 1) M.2.2.1 = true) (k : V M d Q q (sL1 i (aR g j) 0 ls) rest h L) : V M d Q pc ls (aR g j :: rest) h L := by
  subst hp
  intro ω p l e R s m args below meth c H locs a C hP hS hl
  exact lv_astore_n C.1 C.2.1 hdg hi hl (by have := Nat.le_of_ble_eq_true hn; omega) rfl (fun a' hl' => k ω p l e R s m args below meth c H locs a' C hP hS (lvl_s1 hl'))
theorem v_istore {i : Nat} {x : Int32} (q : Nat) (hdg : decode M.2.1 pc = .ok (.istore i, 2)) (hp : pc + 2 = q) (hn : Nat.ble (i + 1) M.2.2.1 = true) (k : V M d Q q (sL1 i (aI x) 0 ls) rest h L) : V M d Q pc ls (aI x :: rest) h L := by
  subst hp
  intro ω p l e R s m args below meth c H locs a C hP hS hl
  exact lv_istore C.1 C.2.1 hdg hl (by have := Nat.le_of_ble_eq_true hn; omega) rfl (fun a' hl' => k ω p l e R s m args below meth c H locs a' C hP hS (lvl_s1 hl'))
theorem v_lstore {i : Nat} {x : Int64} (q : Nat) (hdg : decode M.2.1 pc = .ok (.lstore i, 2)) (hp : pc + 2 = q) (hn : Nat.ble (i + 2) M.2.2.1 = true) (k : V M d Q q (sL2 i (aL x) 0 ls) rest h L) : V M d Q pc ls (aL x :: rest) h L := by
  subst hp
  intro ω p l e R s m args below meth c H locs a C hP hS hl
  exact lv_lstore C.1 C.2.1 hdg hl (by have := Nat.le_of_ble_eq_true hn; omega) rfl (fun a' hl' => k ω p l e R s m args below meth c H locs a' C hP hS (lvl_s2 hl'))
theorem v_astore {i : Nat} {g j : Nat} (q : Nat) (hdg : decode M.2.1 pc = .ok (.astore i, 2)) (hp : pc + 2 = q) (hn : Nat.ble (i + 1) M.2.2.1 = true) (k : V M d Q q (sL1 i (aR g j) 0 ls) rest h L) : V M d Q pc ls (aR g j :: rest) h L := by
  subst hp
  intro ω p l e R s m args below meth c H locs a C hP hS hl
  exact lv_astore C.1 C.2.1 hdg hl (by have := Nat.le_of_ble_eq_true hn; omega) rfl (fun a' hl' => k ω p l e R s m args below meth c H locs a' C hP hS (lvl_s1 hl'))
theorem v_iinc {i : Nat} {n : Int} {x v : Int32} (q : Nat) (hdg : decode M.2.1 pc = .ok (.iinc i n, 3)) (hp : pc + 3 = q) (hv : ls[i]? = some (some (aI x))) (hx : x + Int32.ofInt n = v) (hn : Nat.ble (i + 1) M.2.2.1 = true) (k : V M d Q q (sL1 i (aI v) 0 ls) rest h L) : V M d Q pc ls rest h L := by
  subst hp
  intro ω p l e R s m args below meth c H locs a C hP hS hl
  have hm := lvl_mem (ω := ω) (j := 0) hv
  obtain ⟨kk, hk⟩ := List.getElem?_of_mem hm
  rw [show (0 : Nat) + i = i by omega] at hk
  exact lv_iinc C.1 C.2.1 hdg hl hk hx (by have := Nat.le_of_ble_eq_true hn; omega) rfl (fun a' hl' => k ω p l e R s m args below meth c H locs a' C hP hS (lvl_s1 hl'))
theorem v_iadd {x y : Int32} (q : Nat) (hdg : decode M.2.1 pc = .ok (.iadd, 1)) (hp : pc + 1 = q) (k : V M d Q q ls (aI (x + y) :: rest) h L) : V M d Q pc ls (aI y :: aI x :: rest) h L := by
  subst hp
  intro ω p l e R s m args below meth c H locs a C hP hS hl
  exact lv_iadd C.1 C.2.1 hdg (k ω p l e R s m args below meth c H locs a C hP hS hl)
theorem v_isub {x y : Int32} (q : Nat) (hdg : decode M.2.1 pc = .ok (.isub, 1)) (hp : pc + 1 = q) (k : V M d Q q ls (aI (x - y) :: rest) h L) : V M d Q pc ls (aI y :: aI x :: rest) h L := by
  subst hp
  intro ω p l e R s m args below meth c H locs a C hP hS hl
  exact lv_isub C.1 C.2.1 hdg (k ω p l e R s m args below meth c H locs a C hP hS hl)
theorem v_imul {x y : Int32} (q : Nat) (hdg : decode M.2.1 pc = .ok (.imul, 1)) (hp : pc + 1 = q) (k : V M d Q q ls (aI (x * y) :: rest) h L) : V M d Q pc ls (aI y :: aI x :: rest) h L := by
  subst hp
  intro ω p l e R s m args below meth c H locs a C hP hS hl
  exact lv_imul C.1 C.2.1 hdg (k ω p l e R s m args below meth c H locs a C hP hS hl)
theorem v_iand {x y : Int32} (q : Nat) (hdg : decode M.2.1 pc = .ok (.iand, 1)) (hp : pc + 1 = q) (k : V M d Q q ls (aI (x &&& y) :: rest) h L) : V M d Q pc ls (aI y :: aI x :: rest) h L := by
  subst hp
  intro ω p l e R s m args below meth c H locs a C hP hS hl
  exact lv_iand C.1 C.2.1 hdg (k ω p l e R s m args below meth c H locs a C hP hS hl)
theorem v_ior {x y : Int32} (q : Nat) (hdg : decode M.2.1 pc = .ok (.ior, 1)) (hp : pc + 1 = q) (k : V M d Q q ls (aI (x ||| y) :: rest) h L) : V M d Q pc ls (aI y :: aI x :: rest) h L := by
  subst hp
  intro ω p l e R s m args below meth c H locs a C hP hS hl
  exact lv_ior C.1 C.2.1 hdg (k ω p l e R s m args below meth c H locs a C hP hS hl)
theorem v_ixor {x y : Int32} (q : Nat) (hdg : decode M.2.1 pc = .ok (.ixor, 1)) (hp : pc + 1 = q) (k : V M d Q q ls (aI (x ^^^ y) :: rest) h L) : V M d Q pc ls (aI y :: aI x :: rest) h L := by
  subst hp
  intro ω p l e R s m args below meth c H locs a C hP hS hl
  exact lv_ixor C.1 C.2.1 hdg (k ω p l e R s m args below meth c H locs a C hP hS hl)
theorem v_ishl {x y : Int32} (q : Nat) (hdg : decode M.2.1 pc = .ok (.ishl, 1)) (hp : pc + 1 = q) (k : V M d Q q ls (aI (x <<< (y &&& 31)) :: rest) h L) : V M d Q pc ls (aI y :: aI x :: rest) h L := by
  subst hp
  intro ω p l e R s m args below meth c H locs a C hP hS hl
  exact lv_ishl C.1 C.2.1 hdg (k ω p l e R s m args below meth c H locs a C hP hS hl)
theorem v_ishr {x y : Int32} (q : Nat) (hdg : decode M.2.1 pc = .ok (.ishr, 1)) (hp : pc + 1 = q) (k : V M d Q q ls (aI (x >>> (y &&& 31)) :: rest) h L) : V M d Q pc ls (aI y :: aI x :: rest) h L := by
  subst hp
  intro ω p l e R s m args below meth c H locs a C hP hS hl
  exact lv_ishr C.1 C.2.1 hdg (k ω p l e R s m args below meth c H locs a C hP hS hl)
theorem v_idiv {x y : Int32} (q : Nat) (hdg : decode M.2.1 pc = .ok (.idiv, 1)) (hp : pc + 1 = q) (hne : ¬ y = 0) (k : V M d Q q ls (aI (x / y) :: rest) h L) : V M d Q pc ls (aI y :: aI x :: rest) h L := by
  subst hp
  intro ω p l e R s m args below meth c H locs a C hP hS hl
  exact lv_idiv C.1 C.2.1 hdg hne (k ω p l e R s m args below meth c H locs a C hP hS hl)
theorem v_irem {x y : Int32} (q : Nat) (hdg : decode M.2.1 pc = .ok (.irem, 1)) (hp : pc + 1 = q) (hne : ¬ y = 0) (k : V M d Q q ls (aI (x - x / y * y) :: rest) h L) : V M d Q pc ls (aI y :: aI x :: rest) h L := by
  subst hp
  intro ω p l e R s m args below meth c H locs a C hP hS hl
  exact lv_irem C.1 C.2.1 hdg hne (k ω p l e R s m args below meth c H locs a C hP hS hl)
theorem v_ineg {x : Int32} (q : Nat) (hdg : decode M.2.1 pc = .ok (.ineg, 1)) (hp : pc + 1 = q) (k : V M d Q q ls (aI (-x) :: rest) h L) : V M d Q pc ls (aI x :: rest) h L := by
  subst hp
  intro ω p l e R s m args below meth c H locs a C hP hS hl
  exact lv_ineg C.1 C.2.1 hdg (k ω p l e R s m args below meth c H locs a C hP hS hl)
theorem v_iushr {x y : Int32} (q : Nat) (hdg : decode M.2.1 pc = .ok (.iushr, 1)) (hp : pc + 1 = q) (k : V M d Q q ls (aI ((x.toUInt32 >>> (y.toUInt32 &&& Int32.toUInt32 31)).toInt32) :: rest) h L) : V M d Q pc ls (aI y :: aI x :: rest) h L := by
  subst hp
  intro ω p l e R s m args below meth c H locs a C hP hS hl
  exact lv_iushr C.1 C.2.1 hdg rfl (k ω p l e R s m args below meth c H locs a C hP hS hl)
theorem v_ladd {x y : Int64} (q : Nat) (hdg : decode M.2.1 pc = .ok (.ladd, 1)) (hp : pc + 1 = q) (k : V M d Q q ls (aL (x + y) :: rest) h L) : V M d Q pc ls (aL y :: aL x :: rest) h L := by
  subst hp
  intro ω p l e R s m args below meth c H locs a C hP hS hl
  exact lv_ladd C.1 C.2.1 hdg (k ω p l e R s m args below meth c H locs a C hP hS hl)
theorem v_lmul {x y : Int64} (q : Nat) (hdg : decode M.2.1 pc = .ok (.lmul, 1)) (hp : pc + 1 = q) (k : V M d Q q ls (aL (x * y) :: rest) h L) : V M d Q pc ls (aL y :: aL x :: rest) h L := by
  subst hp
  intro ω p l e R s m args below meth c H locs a C hP hS hl
  exact lv_lmul C.1 C.2.1 hdg (k ω p l e R s m args below meth c H locs a C hP hS hl)
theorem v_land {x y : Int64} (q : Nat) (hdg : decode M.2.1 pc = .ok (.land, 1)) (hp : pc + 1 = q) (k : V M d Q q ls (aL (x &&& y) :: rest) h L) : V M d Q pc ls (aL y :: aL x :: rest) h L := by
  subst hp
  intro ω p l e R s m args below meth c H locs a C hP hS hl
  exact lv_land C.1 C.2.1 hdg (k ω p l e R s m args below meth c H locs a C hP hS hl)
theorem v_lor {x y : Int64} (q : Nat) (hdg : decode M.2.1 pc = .ok (.lor, 1)) (hp : pc + 1 = q) (k : V M d Q q ls (aL (x ||| y) :: rest) h L) : V M d Q pc ls (aL y :: aL x :: rest) h L := by
  subst hp
  intro ω p l e R s m args below meth c H locs a C hP hS hl
  exact lv_lor C.1 C.2.1 hdg (k ω p l e R s m args below meth c H locs a C hP hS hl)
theorem v_lshl {x : Int64} {y : Int32} (q : Nat) (hdg : decode M.2.1 pc = .ok (.lshl, 1)) (hp : pc + 1 = q) (k : V M d Q q ls (aL (x <<< (y.toInt64 &&& 63)) :: rest) h L) : V M d Q pc ls (aI y :: aL x :: rest) h L := by
  subst hp
  intro ω p l e R s m args below meth c H locs a C hP hS hl
  exact lv_lshl C.1 C.2.1 hdg rfl (k ω p l e R s m args below meth c H locs a C hP hS hl)
theorem v_lcmp {x y : Int64} (q : Nat) (hdg : decode M.2.1 pc = .ok (.lcmp, 1)) (hp : pc + 1 = q) (k : V M d Q q ls (aI (lg_cmp x y) :: rest) h L) : V M d Q pc ls (aL y :: aL x :: rest) h L := by
  subst hp
  intro ω p l e R s m args below meth c H locs a C hP hS hl
  exact W.lcmp C.1 C.2.1 hdg (k ω p l e R s m args below meth c H locs a C hP hS hl)
theorem v_i2l {x : Int32} (q : Nat) (hdg : decode M.2.1 pc = .ok (.i2l, 1)) (hp : pc + 1 = q) (k : V M d Q q ls (aL x.toInt64 :: rest) h L) : V M d Q pc ls (aI x :: rest) h L := by
  subst hp
  intro ω p l e R s m args below meth c H locs a C hP hS hl
  exact lv_i2l C.1 C.2.1 hdg rfl (k ω p l e R s m args below meth c H locs a C hP hS hl)
theorem v_l2i {x : Int64} (q : Nat) (hdg : decode M.2.1 pc = .ok (.l2i, 1)) (hp : pc + 1 = q) (k : V M d Q q ls (aI x.toInt32 :: rest) h L) : V M d Q pc ls (aL x :: rest) h L := by
  subst hp
  intro ω p l e R s m args below meth c H locs a C hP hS hl
  exact lv_l2i C.1 C.2.1 hdg rfl (k ω p l e R s m args below meth c H locs a C hP hS hl)
theorem v_i2b {x : Int32} (q : Nat) (hdg : decode M.2.1 pc = .ok (.i2b, 1)) (hp : pc + 1 = q) (k : V M d Q q ls (aI x.toInt8.toInt32 :: rest) h L) : V M d Q pc ls (aI x :: rest) h L := by
  subst hp
  intro ω p l e R s m args below meth c H locs a C hP hS hl
  exact lv_i2b C.1 C.2.1 hdg rfl (k ω p l e R s m args below meth c H locs a C hP hS hl)
theorem v_i2s {x : Int32} (q : Nat) (hdg : decode M.2.1 pc = .ok (.i2s, 1)) (hp : pc + 1 = q) (k : V M d Q q ls (aI x.toInt16.toInt32 :: rest) h L) : V M d Q pc ls (aI x :: rest) h L := by
  subst hp
  intro ω p l e R s m args below meth c H locs a C hP hS hl
  exact lv_i2s C.1 C.2.1 hdg rfl (k ω p l e R s m args below meth c H locs a C hP hS hl)
theorem v_i2c {x : Int32} (q : Nat) (hdg : decode M.2.1 pc = .ok (.i2c, 1)) (hp : pc + 1 = q) (k : V M d Q q ls (aI (x.toUInt32 % 65536).toInt32 :: rest) h L) : V M d Q pc ls (aI x :: rest) h L := by
  subst hp
  intro ω p l e R s m args below meth c H locs a C hP hS hl
  exact lv_i2c C.1 C.2.1 hdg rfl (k ω p l e R s m args below meth c H locs a C hP hS hl)
theorem v_dup {v : AV} (q : Nat) (hdg : decode M.2.1 pc = .ok (.dup, 1)) (hp : pc + 1 = q) (hc : catA v = 1) (k : V M d Q q ls (v :: v :: rest) h L) : V M d Q pc ls (v :: rest) h L := by
  subst hp
  intro ω p l e R s m args below meth c H locs a C hP hS hl
  exact lv_dup C.1 C.2.1 hdg (by rw [cat_cv]; exact hc) (k ω p l e R s m args below meth c H locs a C hP hS hl)
theorem v_pop {v : AV} (q : Nat) (hdg : decode M.2.1 pc = .ok (.pop, 1)) (hp : pc + 1 = q) (hc : catA v = 1) (k : V M d Q q ls (rest) h L) : V M d Q pc ls (v :: rest) h L := by
  subst hp
  intro ω p l e R s m args below meth c H locs a C hP hS hl
  exact lv_pop C.1 C.2.1 hdg (by rw [cat_cv]; exact hc) (k ω p l e R s m args below meth c H locs a C hP hS hl)
theorem v_dup2 {v w : AV} (q : Nat) (hdg : decode M.2.1 pc = .ok (.dup2, 1)) (hp : pc + 1 = q) (hc : catA v = 1) (hc2 : catA w = 1) (k : V M d Q q ls (v :: w :: v :: w :: rest) h L) : V M d Q pc ls (v :: w :: rest) h L := by
  subst hp
  intro ω p l e R s m args below meth c H locs a C hP hS hl
  exact lv_dup2_11 C.1 C.2.1 hdg (by rw [cat_cv]; exact hc) (by rw [cat_cv]; exact hc2) (k ω p l e R s m args below meth c H locs a C hP hS hl)
theorem v_if_eq {x : Int32} {off : Int} (tgt q : Nat) (hdg : decode M.2.1 pc = .ok (.ifCond .eq off, 3)) (ht : (pc : Int) + off = (tgt : Int)) (hp : pc + 3 = q) (kt : x = 0 → V M d Q tgt ls rest h L) (kf : ¬ x = 0 → V M d Q q ls rest h L) : V M d Q pc ls (aI x :: rest) h L := by
  subst hp
  intro ω p l e R s m args below meth c H locs a C hP hS hl
  exact lv_if_eq C.1 C.2.1 hdg ht (fun z => kt z ω p l e R s m args below meth c H locs a C hP hS hl) (fun z => kf z ω p l e R s m args below meth c H locs a C hP hS hl)
theorem v_if_ne {x : Int32} {off : Int} (tgt q : Nat) (hdg : decode M.2.1 pc = .ok (.ifCond .ne off, 3)) (ht : (pc : Int) + off = (tgt : Int)) (hp : pc + 3 = q) (kt : ¬ x = 0 → V M d Q tgt ls rest h L) (kf : x = 0 → V M d Q q ls rest h L) : V M d Q pc ls (aI x :: rest) h L := by
  subst hp
  intro ω p l e R s m args below meth c H locs a C hP hS hl
  exact lv_if_ne C.1 C.2.1 hdg ht (fun z => kt z ω p l e R s m args below meth c H locs a C hP hS hl) (fun z => kf z ω p l e R s m args below meth c H locs a C hP hS hl)
theorem v_if_lt {x : Int32} {off : Int} (tgt q : Nat) (hdg : decode M.2.1 pc = .ok (.ifCond .lt off, 3)) (ht : (pc : Int) + off = (tgt : Int)) (hp : pc + 3 = q) (kt : x < 0 → V M d Q tgt ls rest h L) (kf : ¬ x < 0 → V M d Q q ls rest h L) : V M d Q pc ls (aI x :: rest) h L := by
  subst hp
  intro ω p l e R s m args below meth c H locs a C hP hS hl
  exact lv_if_lt C.1 C.2.1 hdg ht (fun z => kt z ω p l e R s m args below meth c H locs a C hP hS hl) (fun z => kf z ω p l e R s m args below meth c H locs a C hP hS hl)
theorem v_if_ge {x : Int32} {off : Int} (tgt q : Nat) (hdg : decode M.2.1 pc = .ok (.ifCond .ge off, 3)) (ht : (pc : Int) + off = (tgt : Int)) (hp : pc + 3 = q) (kt : 0 ≤ x → V M d Q tgt ls rest h L) (kf : ¬ 0 ≤ x → V M d Q q ls rest h L) : V M d Q pc ls (aI x :: rest) h L := by
  subst hp
  intro ω p l e R s m args below meth c H locs a C hP hS hl
  exact lv_if_ge C.1 C.2.1 hdg ht (fun z => kt z ω p l e R s m args below meth c H locs a C hP hS hl) (fun z => kf z ω p l e R s m args below meth c H locs a C hP hS hl)
theorem v_if_gt {x : Int32} {off : Int} (tgt q : Nat) (hdg : decode M.2.1 pc = .ok (.ifCond .gt off, 3)) (ht : (pc : Int) + off = (tgt : Int)) (hp : pc + 3 = q) (kt : 0 < x → V M d Q tgt ls rest h L) (kf : ¬ 0 < x → V M d Q q ls rest h L) : V M d Q pc ls (aI x :: rest) h L := by
  subst hp
  intro ω p l e R s m args below meth c H locs a C hP hS hl
  exact lv_if_gt C.1 C.2.1 hdg ht (fun z => kt z ω p l e R s m args below meth c H locs a C hP hS hl) (fun z => kf z ω p l e R s m args below meth c H locs a C hP hS hl)
theorem v_if_le {x : Int32} {off : Int} (tgt q : Nat) (hdg : decode M.2.1 pc = .ok (.ifCond .le off, 3)) (ht : (pc : Int) + off = (tgt : Int)) (hp : pc + 3 = q) (kt : x ≤ 0 → V M d Q tgt ls rest h L) (kf : ¬ x ≤ 0 → V M d Q q ls rest h L) : V M d Q pc ls (aI x :: rest) h L := by
  subst hp
  intro ω p l e R s m args below meth c H locs a C hP hS hl
  exact lv_if_le C.1 C.2.1 hdg ht (fun z => kt z ω p l e R s m args below meth c H locs a C hP hS hl) (fun z => kf z ω p l e R s m args below meth c H locs a C hP hS hl)
theorem v_icmp_eq {x y : Int32} {off : Int} (tgt q : Nat) (hdg : decode M.2.1 pc = .ok (.if_icmp .eq off, 3)) (ht : (pc : Int) + off = (tgt : Int)) (hp : pc + 3 = q) (kt : x = y → V M d Q tgt ls rest h L) (kf : ¬ x = y → V M d Q q ls rest h L) : V M d Q pc ls (aI y :: aI x :: rest) h L := by
  subst hp
  intro ω p l e R s m args below meth c H locs a C hP hS hl
  exact lv_icmp_eq C.1 C.2.1 hdg ht (fun z => kt z ω p l e R s m args below meth c H locs a C hP hS hl) (fun z => kf z ω p l e R s m args below meth c H locs a C hP hS hl)
theorem v_icmp_ne {x y : Int32} {off : Int} (tgt q : Nat) (hdg : decode M.2.1 pc = .ok (.if_icmp .ne off, 3)) (ht : (pc : Int) + off = (tgt : Int)) (hp : pc + 3 = q) (kt : ¬ x = y → V M d Q tgt ls rest h L) (kf : x = y → V M d Q q ls rest h L) : V M d Q pc ls (aI y :: aI x :: rest) h L := by
  subst hp
  intro ω p l e R s m args below meth c H locs a C hP hS hl
  exact lv_icmp_ne C.1 C.2.1 hdg ht (fun z => kt z ω p l e R s m args below meth c H locs a C hP hS hl) (fun z => kf z ω p l e R s m args below meth c H locs a C hP hS hl)
theorem v_icmp_lt {x y : Int32} {off : Int} (tgt q : Nat) (hdg : decode M.2.1 pc = .ok (.if_icmp .lt off, 3)) (ht : (pc : Int) + off = (tgt : Int)) (hp : pc + 3 = q) (kt : x < y → V M d Q tgt ls rest h L) (kf : ¬ x < y → V M d Q q ls rest h L) : V M d Q pc ls (aI y :: aI x :: rest) h L := by
  subst hp
  intro ω p l e R s m args below meth c H locs a C hP hS hl
  exact lv_icmp_lt C.1 C.2.1 hdg ht (fun z => kt z ω p l e R s m args below meth c H locs a C hP hS hl) (fun z => kf z ω p l e R s m args below meth c H locs a C hP hS hl)
theorem v_icmp_ge {x y : Int32} {off : Int} (tgt q : Nat) (hdg : decode M.2.1 pc = .ok (.if_icmp .ge off, 3)) (ht : (pc : Int) + off = (tgt : Int)) (hp : pc + 3 = q) (kt : y ≤ x → V M d Q tgt ls rest h L) (kf : ¬ y ≤ x → V M d Q q ls rest h L) : V M d Q pc ls (aI y :: aI x :: rest) h L := by
  subst hp
  intro ω p l e R s m args below meth c H locs a C hP hS hl
  exact lv_icmp_ge C.1 C.2.1 hdg ht (fun z => kt z ω p l e R s m args below meth c H locs a C hP hS hl) (fun z => kf z ω p l e R s m args below meth c H locs a C hP hS hl)
theorem v_icmp_gt {x y : Int32} {off : Int} (tgt q : Nat) (hdg : decode M.2.1 pc = .ok (.if_icmp .gt off, 3)) (ht : (pc : Int) + off = (tgt : Int)) (hp : pc + 3 = q) (kt : y < x → V M d Q tgt ls rest h L) (kf : ¬ y < x → V M d Q q ls rest h L) : V M d Q pc ls (aI y :: aI x :: rest) h L := by
  subst hp
  intro ω p l e R s m args below meth c H locs a C hP hS hl
  exact lv_icmp_gt C.1 C.2.1 hdg ht (fun z => kt z ω p l e R s m args below meth c H locs a C hP hS hl) (fun z => kf z ω p l e R s m args below meth c H locs a C hP hS hl)
theorem v_icmp_le {x y : Int32} {off : Int} (tgt q : Nat) (hdg : decode M.2.1 pc = .ok (.if_icmp .le off, 3)) (ht : (pc : Int) + off = (tgt : Int)) (hp : pc + 3 = q) (kt : x ≤ y → V M d Q tgt ls rest h L) (kf : ¬ x ≤ y → V M d Q q ls rest h L) : V M d Q pc ls (aI y :: aI x :: rest) h L := by
  subst hp
  intro ω p l e R s m args below meth c H locs a C hP hS hl
  exact lv_icmp_le C.1 C.2.1 hdg ht (fun z => kt z ω p l e R s m args below meth c H locs a C hP hS hl) (fun z => kf z ω p l e R s m args below meth c H locs a C hP hS hl)
theorem v_goto {off : Int} (tgt : Nat) (hdg : decode M.2.1 pc = .ok (.goto off, 3)) (ht : (pc : Int) + off = (tgt : Int)) (k : V M d Q tgt ls rest h L) : V M d Q pc ls rest h L := by
  intro ω p l e R s m args below meth c H locs a C hP hS hl
  exact lv_goto C.1 C.2.1 hdg ht (k ω p l e R s m args below meth c H locs a C hP hS hl)
theorem v_tsOut {dflt lo hi : Int} {offs : Array Int} {len : Nat} {x : Int32} (tgt : Nat) (hdg : decode M.2.1 pc = .ok (.tableswitch dflt lo hi offs, len)) (hx : x.toInt < lo ∨ hi < x.toInt) (ht : (pc : Int) + dflt = (tgt : Int)) (k : V M d Q tgt ls rest h L) : V M d Q pc ls (aI x :: rest) h L := by
  intro ω p l e R s m args below meth c H locs a C hP hS hl
  exact lv_tableOut C.1 C.2.1 hdg hx ht (k ω p l e R s m args below meth c H locs a C hP hS hl)
theorem v_tsIn {dflt lo hi : Int} {offs : Array Int} {len : Nat} {x : Int32} {off : Int} (tgt : Nat) (hdg : decode M.2.1 pc = .ok (.tableswitch dflt lo hi offs, len)) (v : Int32) (hx : x = v) (h1 : ¬ v.toInt < lo) (h2 : ¬ hi < v.toInt) (ho : offs[(v.toInt - lo).toNat]? = some off) (ht : (pc : Int) + off = (tgt : Int)) (k : V M d Q tgt ls rest h L) : V M d Q pc ls (aI x :: rest) h L := by
  subst hx
  intro ω p l e R s m args below meth c H locs a C hP hS hl
  exact lv_tableIn C.1 C.2.1 hdg h1 h2 ho ht (k ω p l e R s m args below meth c H locs a C hP hS hl)
theorem v_iret {Q : Option AV → HI → HL → Prop} {x : Int32} {ty : FieldType} (hdg : decode M.2.1 pc = .ok (.ireturn, 1)) (hr : M.2.2.2 = some ty) (hn : narrow ty (.int x) = .int x) (k : Q (some (aI x)) h L) : V M d (ZQ Q) pc ls [aI x] h L := by
  intro ω p l e R s m args below meth c H locs a C hP hS hl
  exact W.zret C.1 C.2.1 (C.2.2.1.trans hr) hn (fun t ht hW => ⟨⟨some (aI x), h, L, rfl, k, by rw [ht]; exact hP⟩, hS.F ht⟩) hS.2.2 hdg C.2.2.2.1
theorem v_lret {Q : Option AV → HI → HL → Prop} {x : Int64} (hdg : decode M.2.1 pc = .ok (.lreturn, 1)) (hr : M.2.2.2 = some .long) (k : Q (some (aL x)) h L) : V M d (ZQ Q) pc ls [aL x] h L := by
  intro ω p l e R s m args below meth c H locs a C hP hS hl
  exact W.lret C.1 C.2.1 (C.2.2.1.trans hr) (fun t ht hW => ⟨⟨some (aL x), h, L, rfl, k, by rw [ht]; exact hP⟩, hS.F ht⟩) hS.2.2 hdg C.2.2.2.1
theorem v_aret {Q : Option AV → HI → HL → Prop} {g j : Nat} {rt : FieldType} (hdg : decode M.2.1 pc = .ok (.areturn, 1)) (hr : M.2.2.2 = some (.array rt)) (k : Q (some (aR g j)) h L) : V M d (ZQ Q) pc ls [aR g j] h L := by
  intro ω p l e R s m args below meth c H locs a C hP hS hl
  exact W.aret C.1 C.2.1 (C.2.2.1.trans hr) (Or.inr ⟨rt, rfl⟩) (Or.inr ⟨_, rfl⟩) (fun t ht hW => ⟨⟨some (aR g j), h, L, rfl, k, by rw [ht]; exact hP⟩, hS.F ht⟩) hS.2.2 hdg C.2.2.2.1
theorem v_vret {Q : Option AV → HI → HL → Prop} (hdg : decode M.2.1 pc = .ok (.return_, 1)) (hr : M.2.2.2 = none) (k : Q none h L) : V M d (ZQ Q) pc ls [] h L := by
  intro ω p l e R s m args below meth c H locs a C hP hS hl
  exact W.vret C.1 C.2.1 (C.2.2.1.trans hr) (fun t ht hW => ⟨⟨none, h, L, rfl, k, by rw [ht]; exact hP⟩, hS.F ht⟩) hS.2.2 hdg C.2.2.2.1
theorem v_getI {ix ci g k j : Nat} (q : Nat) (hdg : decode M.2.1 pc = .ok (.getfield ix, 3)) (hp : pc + 3 = q) (hf : FL M.1.cls ix ci j) (hin : inW g k = true) (hc : ck k = some ci) (ht : (ft g k)[j]? = some none) (kk : V M d Q q ls (aI (h g k j) :: rest) h L) : V M d Q pc ls (aR g k :: rest) h L := by
  subst hp
  intro ω p l e R s m args below meth c H locs a C hP hS hl
  obtain ⟨pp, hpp⟩ := List.getElem?_of_mem (idx_mem hin)
  obtain ⟨Cn, T, N, f1, f2, f3, f4⟩ := hf
  have hw := ws_at (ω := ω) (h := h) (L := L) hpp
  rw [cell_obj hc] at hw
  have hv := fv_int (ω := ω) (u := h g k) (j := 0) ht
  rw [show (0 : Nat) + j = j by omega] at hv
  exact va_get C.1 C.2.1 C.2.2.2.2.2.2.1 f4 C.2.2.2.2.2.1 C.2.2.2.2.2.2.2.1.1 hP pp hw f1 j f2 (C.2.2.2.2.2.2.1 _ f3) (fun _ z => z) hv hdg (kk ω p l e R s m args below meth c H locs a C hP hS hl)
theorem v_getR {ix ci g k j g' k' : Nat} (q : Nat) (hdg : decode M.2.1 pc = .ok (.getfield ix, 3)) (hp : pc + 3 = q) (hf : FL M.1.cls ix ci j) (hin : inW g k = true) (hc : ck k = some ci) (ht : (ft g k)[j]? = some (some (g', k'))) (kk : V M d Q q ls (aR g' k' :: rest) h L) : V M d Q pc ls (aR g k :: rest) h L := by
  subst hp
  intro ω p l e R s m args below meth c H locs a C hP hS hl
  obtain ⟨pp, hpp⟩ := List.getElem?_of_mem (idx_mem hin)
  obtain ⟨Cn, T, N, f1, f2, f3, f4⟩ := hf
  have hw := ws_at (ω := ω) (h := h) (L := L) hpp
  rw [cell_obj hc] at hw
  exact va_get C.1 C.2.1 C.2.2.2.2.2.2.1 f4 C.2.2.2.2.2.1 C.2.2.2.2.2.2.2.1.1 hP pp hw f1 j f2 (C.2.2.2.2.2.2.1 _ f3) (fun _ z => z) (fv_ref ht) hdg (kk ω p l e R s m args below meth c H locs a C hP hS hl)
theorem cell_put {ω : WC} {g k j ci : Nat} {x : Int32} (hc : ck k = some ci) (ht : (ft g k)[j]? = some none) : cellE ω (hP1 h g k j x) L (g, k) = .inr (ci, (fv ω (h g k) 0 (ft g k)).set j (.int x)) := by
  rw [cell_obj hc, fv_set ht, show (0 : Nat) + j = j by omega]
  show _ = _
  rw [show hP1 h g k j x g k = upd (h g k) j x from hPF_s]
theorem cell_oth {ω : WC} {g k : Nat} {f : Nat → Int32} {q' : Nat × Nat} (hn : q' ≠ (g, k)) : cellE ω (hPF h g k f) L q' = cellE ω h L q' := cell_keep (hPF_n (fun z => hn (Prod.ext z.1 z.2))) rfl
theorem cell_othL {ω : WC} {g k : Nat} {f : Nat → Int64} {q' : Nat × Nat} (hn : q' ≠ (g, k)) : cellE ω h (lPF L g k f) q' = cellE ω h L q' := cell_keep rfl (lPF_n (fun z => hn (Prod.ext z.1 z.2)))
theorem v_put {ix ci g k j : Nat} {x : Int32} {ty : FieldType} (q : Nat) (hdg : decode M.2.1 pc = .ok (.putfield ix, 3)) (hp : pc + 3 = q) (hf : PL M.1.cls ix ci j ty) (hin : inW g k = true) (hc : ck k = some ci) (ht : (ft g k)[j]? = some none) (hnr : narrow ty (.int x) = .int x) (hfi : fits ty (.int x) = true) (kk : V M d Q q ls rest (hP1 h g k j x) L) : V M d Q pc ls (aI x :: aR g k :: rest) h L := by
  subst hp
  intro ω p l e R s m args below meth c H locs a C hP hS hl
  obtain ⟨pp, hpp⟩ := List.getElem?_of_mem (idx_mem hin)
  obtain ⟨Cn, T, N, ty0, f1, f2, f3, f4, f5, f6, f7, f8⟩ := hf
  have hw := ws_at (ω := ω) (h := h) (L := L) hpp
  rw [cell_obj hc] at hw
  have hlt : j < (fv ω (h g k) 0 (ft g k)).length := by rw [fv_len]; exact (List.getElem?_eq_some_iff.mp ht).1
  refine va_put C.1 C.2.1 C.2.2.2.2.2.2.1 f4 ty0 f5 f6 C.2.2.2.2.2.1 C.2.2.2.2.2.2.2.1.1 hP (C.2.2.2.2.2.2.2.1.D h L) hS pp hw f1 j f2 (C.2.2.2.2.2.2.1 _ f3) (fun _ z => z) f7 f8 hnr hfi hlt hdg (fun H1 locs1 hP1' _ hS1 => ?_)
  have e1 := ws_set (ω := ω) (h := h) (h' := hP1 h g k j x) (L := L) (L' := L) hpp (cell_put hc ht) (fun q' _ hn => cell_oth hn)
  have hP2 : va_P ω.1 vwCl (wsW ω (hP1 h g k j x) L) H1 := by rw [← e1]; exact hP1'
  exact kk ω p l e R s m args below meth c H1 locs1 a C hP2 hS1 hl
theorem v_iald {g k j : Nat} {i : Int32} (q : Nat) (hdg : decode M.2.1 pc = .ok (.iaload, 1)) (hp : pc + 1 = q) (hin : inW g k = true) (hc : ck k = none) (hl0 : isL k = false) (hi : i = nI j) (hj : j < alen k) (kk : V M d Q q ls (aI (h g k j) :: rest) h L) : V M d Q pc ls (aI i :: aR g k :: rest) h L := by
  subst hp
  subst hi
  intro ω p l e R s m args below meth c H locs a C hP hS hl
  obtain ⟨pp, hpp⟩ := List.getElem?_of_mem (idx_mem hin)
  have hw := ws_at (ω := ω) (h := h) (L := L) hpp
  rw [cell_int hc hl0] at hw
  have hb : alen k < 2 ^ 31 := alen_lt k
  have hK := C.2.2.2.2.2.2.2.1.K hc hin
  rw [show aty k = FieldType.int by unfold aty; rw [if_neg (by rw [hl0]; decide)]] at hK
  have kq := kk ω p l e R s m args below meth c H locs a C hP hS hl
  rw [← nI_clamp (n := j) (by omega)] at kq
  exact va_iald C.1 C.2.1 hK hP pp 0 hw rfl (vp_in_nI hj hb) hdg kq
theorem v_iast {g k j : Nat} {i x : Int32} (q : Nat) (hdg : decode M.2.1 pc = .ok (.iastore, 1)) (hp : pc + 1 = q) (hin : inW g k = true) (hc : ck k = none) (hl0 : isL k = false) (hi : i = nI j) (hj : j < alen k) (kk : V M d Q q ls rest (hP1 h g k j x) L) : V M d Q pc ls (aI x :: aI i :: aR g k :: rest) h L := by
  subst hp
  subst hi
  intro ω p l e R s m args below meth c H locs a C hP hS hl
  obtain ⟨pp, hpp⟩ := List.getElem?_of_mem (idx_mem hin)
  have hw := ws_at (ω := ω) (h := h) (L := L) hpp
  rw [cell_int hc hl0] at hw
  have hb : alen k < 2 ^ 31 := alen_lt k
  have hK := C.2.2.2.2.2.2.2.1.K hc hin
  rw [show aty k = FieldType.int by unfold aty; rw [if_neg (by rw [hl0]; decide)]] at hK
  refine va_iast C.1 C.2.1 hK hP (C.2.2.2.2.2.2.2.1.D h L) hS pp 0 hw rfl (vp_in_nI hj hb) hdg (fun H1 locs1 hP1' _ hS1 => ?_)
  rw [nI_clamp (n := j) (by omega), ws_set (h' := hP1 h g k j x) (L' := L) hpp (by rw [cell_int hc hl0, show hP1 h g k j x g k = upd (h g k) j x from hPF_s]) (fun q' _ hn => cell_oth hn)] at hP1'
  exact kk ω p l e R s m args below meth c H1 locs1 a C hP1' hS1 hl
theorem v_lald {g k j : Nat} {i : Int32} (q : Nat) (hdg : decode M.2.1 pc = .ok (.laload, 1)) (hp : pc + 1 = q) (hin : inW g k = true) (hc : ck k = none) (hl0 : isL k = true) (hi : i = nI j) (hj : j < alen k) (kk : V M d Q q ls (aL (L g k j) :: rest) h L) : V M d Q pc ls (aI i :: aR g k :: rest) h L := by
  subst hp
  subst hi
  intro ω p l e R s m args below meth c H locs a C hP hS hl
  obtain ⟨pp, hpp⟩ := List.getElem?_of_mem (idx_mem hin)
  have hw := ws_at (ω := ω) (h := h) (L := L) hpp
  rw [cell_long hc hl0] at hw
  have hb : alen k < 2 ^ 31 := alen_lt k
  have hK := C.2.2.2.2.2.2.2.1.K hc hin
  rw [show aty k = FieldType.long by unfold aty; rw [if_pos hl0]] at hK
  have kq := kk ω p l e R s m args below meth c H locs a C hP hS hl
  rw [← nI_clamp (n := j) (by omega)] at kq
  exact va_lald C.1 C.2.1 hK hP pp 0 hw rfl (vp_in_nI hj hb) hdg kq
theorem v_last {g k j : Nat} {i : Int32} {x : Int64} (q : Nat) (hdg : decode M.2.1 pc = .ok (.lastore, 1)) (hp : pc + 1 = q) (hin : inW g k = true) (hc : ck k = none) (hl0 : isL k = true) (hi : i = nI j) (hj : j < alen k) (kk : V M d Q q ls rest h (lP1 L g k j x)) : V M d Q pc ls (aL x :: aI i :: aR g k :: rest) h L := by
  subst hp
  subst hi
  intro ω p l e R s m args below meth c H locs a C hP hS hl
  obtain ⟨pp, hpp⟩ := List.getElem?_of_mem (idx_mem hin)
  have hw := ws_at (ω := ω) (h := h) (L := L) hpp
  rw [cell_long hc hl0] at hw
  have hb : alen k < 2 ^ 31 := alen_lt k
  have hK := C.2.2.2.2.2.2.2.1.K hc hin
  rw [show aty k = FieldType.long by unfold aty; rw [if_pos hl0]] at hK
  refine va_last C.1 C.2.1 hK hP (C.2.2.2.2.2.2.2.1.D h L) hS pp 0 hw rfl (vp_in_nI hj hb) hdg (fun H1 locs1 hP1' _ hS1 => ?_)
  rw [nI_clamp (n := j) (by omega), ws_set (h' := h) (L' := lP1 L g k j x) hpp (by rw [cell_long hc hl0, show lP1 L g k j x g k = vp_updL (L g k) j x from lPF_s]) (fun q' _ hn => cell_othL hn)] at hP1'
  exact kk ω p l e R s m args below meth c H1 locs1 a C hP1' hS1 hl
theorem v_alen {g k : Nat} (q : Nat) (hdg : decode M.2.1 pc = .ok (.arraylength, 1)) (hp : pc + 1 = q) (hin : inW g k = true) (hc : ck k = none) (hl0 : isL k = false) (kk : V M d Q q ls (aI (nI (alen k)) :: rest) h L) : V M d Q pc ls (aR g k :: rest) h L := by
  subst hp
  intro ω p l e R s m args below meth c H locs a C hP hS hl
  obtain ⟨pp, hpp⟩ := List.getElem?_of_mem (idx_mem hin)
  have hw := ws_at (ω := ω) (h := h) (L := L) hpp
  rw [cell_int hc hl0] at hw
  exact va_alen C.1 C.2.1 (C.2.2.2.2.2.2.2.1.K hc hin) hP pp 0 hw rfl rfl hdg (kk ω p l e R s m args below meth c H locs a C hP hS hl)
-- static arrays
theorem v_gets {ix j : Nat} {Cn n : String} {xs : List Int32} (q : Nat) (hdg : decode M.2.1 pc = .ok (.getstatic ix, 3)) (hp : pc + 3 = q) (hf : Cond.fieldLink M.1.cls ix Cn n "[I" ∈ gw) (hs : statL[j]? = some (Cn, n, xs)) (k : V M d Q q ls (aR 9 j :: rest) h L) : V M d Q pc ls rest h L := by
  subst hp
  intro ω p l e R s m args below meth c H locs a C hP hS hl
  exact va_gets C.1 C.2.1 (C.2.2.2.2.2.2.2.1.2.2.2.2.1 j _ hs).1 hS C.2.2.2.2.2.1 (C.2.2.2.2.2.2.1 _ hf) (fun _ z => z) hdg (k ω p l e R s m args below meth c H locs a C hP hS hl)
theorem v_sald {j jj : Nat} {i : Int32} {Cn n : String} {xs : List Int32} (q : Nat) (hdg : decode M.2.1 pc = .ok (.iaload, 1)) (hp : pc + 1 = q) (hs : statL[j]? = some (Cn, n, xs)) (hi : i = nI jj) (hj : jj < xs.length) (hj2 : jj < 2 ^ 31) (k : V M d Q q ls (aI (xs.getD jj 0) :: rest) h L) : V M d Q pc ls (aI i :: aR 9 j :: rest) h L := by
  subst hp
  subst hi
  intro ω p l e R s m args below meth c H locs a C hP hS hl
  obtain ⟨cell, h1, h2, h3, h4, h5, h6, h7⟩ := (C.2.2.2.2.2.2.2.1.2.2.2.2.1 j _ hs).2.kept hS.2.1
  refine W.iald (v := .int (xs.getD jj 0)) C.1 C.2.1 h1 h2 h3 ?_ ?_ rfl rfl hdg (k ω p l e R s m args below meth c H locs a C hP hS hl)
  · rw [nI_clamp hj2]
    intro z
    rcases z with z | z
    · exact nI_pos hj2 z
    · have h4' : xs.length ≤ cell.slots.size := h4
      omega
  · rw [nI_clamp hj2]
    exact h6 jj hj
theorem v_slen {j : Nat} {Cn n : String} {xs : List Int32} (q : Nat) (hdg : decode M.2.1 pc = .ok (.arraylength, 1)) (hp : pc + 1 = q) (hs : statL[j]? = some (Cn, n, xs)) (k : V M d Q q ls (aI (nI xs.length) :: rest) h L) : V M d Q pc ls (aR 9 j :: rest) h L := by
  subst hp
  intro ω p l e R s m args below meth c H locs a C hP hS hl
  obtain ⟨cell, h1, h2, h3, h4, h5, h6, h7⟩ := (C.2.2.2.2.2.2.2.1.2.2.2.2.1 j _ hs).2.kept hS.2.1
  exact W.alen (n := nI xs.length) C.1 C.2.1 h1 h2 h5 rfl rfl hdg (k ω p l e R s m args below meth c H locs a C hP hS hl)
end VRows
