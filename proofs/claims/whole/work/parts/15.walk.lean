-- short forms for the walks
section VShort
variable {M : MD} {d : Nat} {Q : ZT} {pc : Nat} {ls : List (Option AV)} {rest : List AV} {h : HI} {L : HL}
/-- a call of a method of a world's object whose contract is a relation -/
theorem w_callV {M' : MD} {d' ix n g k ci : Nat} {av : List AV} {Q' : Option AV → HI → HL → Prop} {st : List AV} {T : u_T} {N : Nat} (q : Nat) (hdg : decode M.2.1 pc = .ok (.invokevirtual ix, 3)) (hp : pc + 3 = q) (hlk : Cond.methodLink M.1.cls ix M'.1 ∈ gw) (ok : OKV M' n) (hC : Con M' d' (aR g k :: av) h L Q') (hin : inW g k = true)
    (hst : av.reverse ++ aR g k :: rest = st) (hck : ck k = some ci) (hcl : vwCl[ci]? = some (M'.1.cls, T, N)) (hn : av.length = n) (hd : Nat.ble (d' + 1) d = true) (hcat : Nat.ble (rest.map catA).sum 8 = true)
    (kk : ∀ r h' L', Q' r h' L' → V M d Q q ls (r.toList ++ rest) h' L') : V M d Q pc ls st h L := v_callV q hdg hp hlk ok hC (Nat.le_of_ble_eq_true hd) hin hck hcl hn hst (Nat.le_of_ble_eq_true hcat) kk
theorem w_callVv {M' : MD} {d' ix n g k ci : Nat} {av : List AV} {r : AV} {h1 : HI} {L1 : HL} {st : List AV} {T : u_T} {N : Nat} (q : Nat) (hdg : decode M.2.1 pc = .ok (.invokevirtual ix, 3)) (hp : pc + 3 = q) (hlk : Cond.methodLink M.1.cls ix M'.1 ∈ gw) (ok : OKV M' n) (hC : Con M' d' (aR g k :: av) h L (Rt (some r) h1 L1)) (hin : inW g k = true)
    (hst : av.reverse ++ aR g k :: rest = st) (hck : ck k = some ci) (hcl : vwCl[ci]? = some (M'.1.cls, T, N)) (hn : av.length = n) (hd : Nat.ble (d' + 1) d = true) (hcat : Nat.ble (rest.map catA).sum 8 = true)
    (kk : V M d Q q ls (r :: rest) h1 L1) : V M d Q pc ls st h L := v_callV q hdg hp hlk ok hC (Nat.le_of_ble_eq_true hd) hin hck hcl hn hst (Nat.le_of_ble_eq_true hcat) (fun r' h' L' z => by obtain ⟨rfl, rfl, rfl⟩ := z; exact kk)
theorem w_callVn {M' : MD} {d' ix n g k ci : Nat} {av : List AV} {h1 : HI} {L1 : HL} {st : List AV} {T : u_T} {N : Nat} (q : Nat) (hdg : decode M.2.1 pc = .ok (.invokevirtual ix, 3)) (hp : pc + 3 = q) (hlk : Cond.methodLink M.1.cls ix M'.1 ∈ gw) (ok : OKV M' n) (hC : Con M' d' (aR g k :: av) h L (Rt none h1 L1)) (hin : inW g k = true)
    (hst : av.reverse ++ aR g k :: rest = st) (hck : ck k = some ci) (hcl : vwCl[ci]? = some (M'.1.cls, T, N)) (hn : av.length = n) (hd : Nat.ble (d' + 1) d = true) (hcat : Nat.ble (rest.map catA).sum 8 = true)
    (kk : V M d Q q ls rest h1 L1) : V M d Q pc ls st h L := v_callV q hdg hp hlk ok hC (Nat.le_of_ble_eq_true hd) hin hck hcl hn hst (Nat.le_of_ble_eq_true hcat) (fun r' h' L' z => by obtain ⟨rfl, rfl, rfl⟩ := z; exact kk)
theorem w_callS {M' : MD} {d' ix n : Nat} {av : List AV} {Q' : Option AV → HI → HL → Prop} {st : List AV} (q : Nat) (hdg : decode M.2.1 pc = .ok (.invokestatic ix, 3)) (hp : pc + 3 = q) (hlk : Cond.methodLink M.1.cls ix M'.1 ∈ gw) (ok : OKS M' n) (hC : Con M' d' av h L Q')
    (hst : av.reverse ++ rest = st) (hn : av.length = n) (hd : Nat.ble (d' + 1) d = true) (hcat : Nat.ble (rest.map catA).sum 8 = true)
    (kk : ∀ r h' L', Q' r h' L' → V M d Q q ls (r.toList ++ rest) h' L') : V M d Q pc ls st h L := v_callS q hdg hp hlk ok hC (Nat.le_of_ble_eq_true hd) hn hst (Nat.le_of_ble_eq_true hcat) kk
theorem w_callSv {M' : MD} {d' ix n : Nat} {av : List AV} {r : AV} {h1 : HI} {L1 : HL} {st : List AV} (q : Nat) (hdg : decode M.2.1 pc = .ok (.invokestatic ix, 3)) (hp : pc + 3 = q) (hlk : Cond.methodLink M.1.cls ix M'.1 ∈ gw) (ok : OKS M' n) (hC : Con M' d' av h L (Rt (some r) h1 L1))
    (hst : av.reverse ++ rest = st) (hn : av.length = n) (hd : Nat.ble (d' + 1) d = true) (hcat : Nat.ble (rest.map catA).sum 8 = true)
    (kk : V M d Q q ls (r :: rest) h1 L1) : V M d Q pc ls st h L := v_callS q hdg hp hlk ok hC (Nat.le_of_ble_eq_true hd) hn hst (Nat.le_of_ble_eq_true hcat) (fun r' h' L' z => by obtain ⟨rfl, rfl, rfl⟩ := z; exact kk)
theorem w_callNv {M' : MD} {d' ix n : Nat} {host : String} {av : List AV} {r : AV} {h1 : HI} {L1 : HL} {st : List AV} (q : Nat) (hdg : decode M.2.1 pc = .ok (.invokestatic ix, 3)) (hp : pc + 3 = q) (hlk : (M.1.cls, ix, M'.1, host) ∈ nestL) (ok : OKS M' n) (hC : Con M' d' av h L (Rt (some r) h1 L1))
    (hst : av.reverse ++ rest = st) (hn : av.length = n) (hd : Nat.ble (d' + 1) d = true) (hcat : Nat.ble (rest.map catA).sum 8 = true)
    (kk : V M d Q q ls (r :: rest) h1 L1) : V M d Q pc ls st h L := v_callN q hdg hp hlk ok hC (Nat.le_of_ble_eq_true hd) hn hst (Nat.le_of_ble_eq_true hcat) (fun r' h' L' z => by obtain ⟨rfl, rfl, rfl⟩ := z; exact kk)
theorem w_max {ix : Nat} {x y : Int32} (q : Nat) (hdg : decode M.2.1 pc = .ok (.invokestatic ix, 3)) (hp : pc + 3 = q) (hlk : Cond.methodLink M.1.cls ix Lib.Math.max.name ∈ gw) (hd : Nat.ble 1 d = true) (hcat : Nat.ble (rest.map catA).sum 8 = true)
    (k : V M d Q q ls (aI (if x < y then y else x) :: rest) h L) : V M d Q pc ls (aI y :: aI x :: rest) h L := v_max q hdg hp hlk st_max in_math cd_max (Nat.le_of_ble_eq_true hd) (Nat.le_of_ble_eq_true hcat) k
theorem w_min {ix : Nat} {x y : Int32} (q : Nat) (hdg : decode M.2.1 pc = .ok (.invokestatic ix, 3)) (hp : pc + 3 = q) (hlk : Cond.methodLink M.1.cls ix Lib.Math.min.name ∈ gw) (hd : Nat.ble 1 d = true) (hcat : Nat.ble (rest.map catA).sum 8 = true)
    (k : V M d Q q ls (aI (if y < x then y else x) :: rest) h L) : V M d Q pc ls (aI y :: aI x :: rest) h L := v_min q hdg hp hlk st_min in_math cd_min (Nat.le_of_ble_eq_true hd) (Nat.le_of_ble_eq_true hcat) k
theorem w_acpy {ix g0 k0 g1 k1 sp dp n : Nat} {i0 i1 i2 : Int32} (q : Nat) (hdg : decode M.2.1 pc = .ok (.invokestatic ix, 3)) (hp : pc + 3 = q) (hlk : Cond.methodLink M.1.cls ix arraycopyName ∈ gw) (hin0 : inW g0 k0 = true) (hin1 : inW g1 k1 = true) (h0 : i0 = nI sp) (h1 : i1 = nI dp) (h2 : i2 = nI n) (hb0 : sp + n ≤ alen k0) (hb1 : dp + n ≤ alen k1)
    (hc0 : ck k0 = none) (hl0 : isL k0 = false) (hc1 : ck k1 = none) (hl1 : isL k1 = false) (hd : Nat.ble 1 d = true) (hcat : Nat.ble (rest.map catA).sum 8 = true)
    (kk : V M d Q q ls rest (hPF h g1 k1 (va_cpy (h g0 k0) (h g1 k1) sp dp n)) L) : V M d Q pc ls (aI i2 :: aI i1 :: aR g1 k1 :: aI i0 :: aR g0 k0 :: rest) h L := v_acpy q hdg hp hlk nt_acp st_acp in_sys hin0 hc0 hl0 hin1 hc1 hl1 h0 h1 h2 hb0 hb1 (Nat.le_of_ble_eq_true hd) (Nat.le_of_ble_eq_true hcat) kk
theorem w_acpyL {ix g0 k0 g1 k1 sp dp n : Nat} {i0 i1 i2 : Int32} (q : Nat) (hdg : decode M.2.1 pc = .ok (.invokestatic ix, 3)) (hp : pc + 3 = q) (hlk : Cond.methodLink M.1.cls ix arraycopyName ∈ gw) (hin0 : inW g0 k0 = true) (hin1 : inW g1 k1 = true) (h0 : i0 = nI sp) (h1 : i1 = nI dp) (h2 : i2 = nI n) (hb0 : sp + n ≤ alen k0) (hb1 : dp + n ≤ alen k1)
    (hc0 : ck k0 = none) (hl0 : isL k0 = true) (hc1 : ck k1 = none) (hl1 : isL k1 = true) (hd : Nat.ble 1 d = true) (hcat : Nat.ble (rest.map catA).sum 8 = true)
    (kk : V M d Q q ls rest h (lPF L g1 k1 (va_cpy (L g0 k0) (L g1 k1) sp dp n))) : V M d Q pc ls (aI i2 :: aI i1 :: aR g1 k1 :: aI i0 :: aR g0 k0 :: rest) h L := v_acpyL q hdg hp hlk nt_acp st_acp in_sys hin0 hc0 hl0 hin1 hc1 hl1 h0 h1 h2 hb0 hb1 (Nat.le_of_ble_eq_true hd) (Nat.le_of_ble_eq_true hcat) kk
/-- one case of a table -/
theorem v_tsc {dflt lo hi : Int} {offs : Array Int} {len : Nat} {x : Int32} {off : Int} (tgt : Nat) (hdg : decode M.2.1 pc = .ok (.tableswitch dflt lo hi offs, len)) (v : Int32) (h1 : ¬ v.toInt < lo) (h2 : ¬ hi < v.toInt) (ho : offs[(v.toInt - lo).toNat]? = some off) (ht : (pc : Int) + off = (tgt : Int)) (kt : x = v → V M d Q tgt ls rest h L) (kf : ¬ x = v → V M d Q pc ls (aI x :: rest) h L) : V M d Q pc ls (aI x :: rest) h L := by
  by_cases z : x = v
  · exact v_tsIn tgt hdg v z h1 h2 ho ht (kt z)
  · exact kf z
/-- the value on the stack by another name -/
theorem v_eqI {x y : Int32} (e : x = y) (k : V M d Q pc ls (aI y :: rest) h L) : V M d Q pc ls (aI x :: rest) h L := e ▸ k
theorem v_nmI {x : Int32} (k : ∀ y : Int32, y = x → V M d Q pc ls (aI y :: rest) h L) : V M d Q pc ls (aI x :: rest) h L := k x rfl
theorem v_nmH (k : ∀ h' : HI, h' = h → V M d Q pc ls rest h' L) : V M d Q pc ls rest h L := k h rfl
theorem v_eqH {h' : HI} (e : h = h') (k : V M d Q pc ls rest h' L) : V M d Q pc ls rest h L := e ▸ k
end VShort
theorem Con.post {M : MD} {d : Nat} {av : List AV} {h : HI} {L : HL} {Q Q' : Option AV → HI → HL → Prop} (hC : Con M d av h L Q') (hQ : ∀ r h' L', Q' r h' L' → Q r h' L') : Con M d av h L Q := by
  intro ω l R h1 h2 h3 h4 p e ha hc hk s m args below hf hap hPc hKK
  obtain ⟨k, o, g1, g2, g3, ⟨⟨r, h', L', g4, g5, g6⟩, g7⟩, g8⟩ := hC ω l R h1 h2 h3 h4 p e ha hc hk s m args below hf hap hPc hKK
  exact ⟨k, o, g1, g2, g3, ⟨⟨r, h', L', g4, hQ _ _ _ g5, g6⟩, g7⟩, g8⟩
/-- truth values as numbers -/
def bI (b : Bool) : Int32 := if b = true then 1 else 0
theorem bI_t : bI true = 1 := rfl
theorem bI_f : bI false = 0 := rfl
theorem bI_0 (b : Bool) : bI b = 0 ↔ b = false := by cases b <;> decide
theorem bI_n (b : Bool) : ¬ bI b = 0 ↔ b = true := by cases b <;> decide
theorem bI_nar (b : Bool) : narrow .boolean (.int (bI b)) = .int (bI b) := by cases b <;> decide
theorem bI_fit (b : Bool) : fits .boolean (.int (bI b)) = true := by cases b <;> decide
