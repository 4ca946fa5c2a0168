-- CALLS
theorem run_go {M : MD} {d : Nat} {Q : ZT} {Q' : Option AV → HI → HL → Prop} {pc : Nat} {ls : List (Option AV)} {rest : List AV} {ω : WC} {p : Program} {l : Launch} {e : Env} {R : Room} {s : State} {m : MethodId} {args : Array Value} {below : List Frame} {meth : Method} {c : Code} {H : Heap} {locs : List Loc} {a : Array Slot} {st0 : List Value} {av : Array Value}
    (C : Cx ω M d Q p R s m args meth c) (hS : va_S (Aω ω) s.heap H locs) (hl : lv_has a M.2.2.1 (lvl ω 0 ls))
    (run : va_Run p l e R s m args below meth c H locs Q.1.1 Q.1.2 0 0 (F0 m pc a st0) (rest.map (cv ω)) (QC ω Q' av) (Aω ω))
    (kk : ∀ r h' L', Q' r h' L' → V M d Q (pc + 3) ls (r.toList ++ rest) h' L') : W p l e R s m args below meth c H locs Q.1.1 Q.1.2 (Q.2.2 ω below args s) (F0 m pc a st0) := by
  intro T hT X
  obtain ⟨v, st₀, t, T', Lc, h0, X', hL, e1, e2, ⟨⟨r, h', L', hv, hq, hP'⟩, hz, hk⟩, go⟩ := run T hT X
  have hv2 : v = r.map (cv ω) := by cases hv; rfl
  subst hv2
  rw [h0] at hz hk
  have hS' : va_S (Aω ω) s.heap T'.heap (locs ++ Lc) := ⟨Nat.le_trans hS.1 (by rw [e1]; exact hz), fun q h1 h2 => by rw [e1, hk q (Nat.lt_of_lt_of_le h1 hS.1) h2]; exact hS.2.1 q h1 h2, fun q hq => by
    rcases List.mem_append.mp hq with z | z
    · exact hS.2.2 q z
    · exact hL q z⟩
  obtain ⟨t2, a1, b1⟩ := kk r h' L' hq ω p l e R s m args below meth c T'.heap (locs ++ Lc) a C (by rw [e1]; exact hP') hS' hl T' rfl X'
  refine ⟨t2, go t2 ?_, b1⟩
  cases r <;> exact a1
theorem con_blind {ω : WC} {h : HI} {L : HL} {av : List Value} : FrameBlind (va_Pc av (fun U => St ω U U.heap ∧ va_P ω.1 vwCl (wsW ω h L) U.heap)) := by
  intro a U g mk q
  obtain ⟨q0, q1, q2⟩ := q
  exact ⟨q0, St.same (U := U.calling g mk a) q1 rfl, q2⟩
theorem gw_cons {M : MD} (h : Cond.code M.1 M.2.1 M.2.2.1 M.2.2.2 ∈ gw) : GoodIn gw (wsM M) := fun w hw => by
  rcases List.mem_cons.mp hw with z | z
  · rw [z]; exact gw_good _ h
  · exact gw_good w z
section VCalls
variable {M : MD} {d : Nat} {Q : ZT} {pc : Nat} {ls : List (Option AV)} {rest : List AV} {h : HI} {L : HL}
theorem v_callVG {M' : MD} {d' ix n : Nat} {av : List AV} {v0 : AV} {b : WC → Nat} {Q' : Option AV → HI → HL → Prop} {st : List AV} (q : Nat) (hdg : decode M.2.1 pc = .ok (.invokevirtual ix, 3)) (hp : pc + 3 = q)
    (hlk : Cond.methodLink M.1.cls ix M'.1 ∈ gw) (ok : OKV M' n) (hC : Con M' d' (v0 :: av) h L Q') (hd : d' + 1 ≤ d) (hb0 : ∀ ω, cv ω v0 = .ref (b ω))
    (hrec : ∀ (ω : WC) (s : State) (H : Heap) (locs : List Loc), St ω s s.heap → va_P ω.1 vwCl (wsW ω h L) H → va_S (Aω ω) s.heap H locs → ∃ cell : Cell, H[b ω]? = some cell ∧ cell.vm.isStatics = false ∧ s.vm.findClass M'.1.cls = some cell.cls)
    (hn : av.length = n) (hst : av.reverse ++ v0 :: rest = st) (hcat : (rest.map catA).sum ≤ 8)
    (kk : ∀ r h' L', Q' r h' L' → V M d Q q ls (r.toList ++ rest) h' L') : V M d Q pc ls st h L := by
  subst hp
  subst hst
  intro ω p l e R s m args below meth c H locs a C hP hS hl
  obtain ⟨⟨o1, o2, o3, o4⟩, o5, o6⟩ := ok
  have hM := hC ω l { frames := d', cells := 0, slots := 0, locals := 40 * d' } (Nat.le_refl _) (Nat.le_refl _) rfl rfl
  have hfr : d ≤ R.frames := C.2.2.2.2.2.2.2.2.1
  have hlo : 40 * d ≤ R.locals := C.2.2.2.2.2.2.2.2.2.1
  have hG : GoodIn gw (wsV M.1.cls ix M'.1.cls M'.1 (wsM M')) := by
    intro w hw
    unfold wsV at hw
    rcases List.mem_append.mp hw with z | z
    · refine gw_good w ?_
      simp only [List.mem_cons, List.not_mem_nil, or_false] at z
      rcases z with z | z | z | z <;> rw [z]
      · exact hlk
      · exact o5
      · exact o6
      · exact o2
    · exact gw_cons o1 w z
  rw [List.map_append, List.map_cons, List.map_reverse, hb0 ω]
  refine run_go C hS hl (va_runV (C := M'.1.cls) (As := av.map (cv ω)) (rest := rest.map (cv ω)) ⟨C.1, C.2.1, C.2.2.2.2.1, C.2.2.2.2.2.1, C.2.2.2.2.2.2.1⟩ hM (cwV (ws' := gw) n C.2.2.2.2.2.2.1 hG rfl rfl rfl ⟨rfl, o3⟩ ⟨by show d' + 1 ≤ R.frames; omega, by show 8 + (M'.2.2.1 + 11) + 40 * d' ≤ R.locals; omega⟩) ⟨con_blind, hrec ω s H locs C.2.2.2.2.2.2.2.1 hP hS, fun U hU hW => ?_⟩ rfl (by rw [List.length_map]; exact hn) hl.1 rfl (lv_room (by rw [cat_sum]; exact hcat)) hdg ⟨C.2.2.2.2.2.2.2.2.2.2.1, C.2.2.2.2.2.2.2.2.2.2.2.1⟩) kk
  refine ⟨by rw [List.map_cons, hb0 ω], C.2.2.2.2.2.2.2.1.warm hW (by rw [hU]; exact hS.2.1), by rw [hU]; exact hP⟩
theorem v_callV {M' : MD} {d' ix n g k ci : Nat} {av : List AV} {Q' : Option AV → HI → HL → Prop} {st : List AV} {T : u_T} {N : Nat} (q : Nat) (hdg : decode M.2.1 pc = .ok (.invokevirtual ix, 3)) (hp : pc + 3 = q)
    (hlk : Cond.methodLink M.1.cls ix M'.1 ∈ gw) (ok : OKV M' n) (hC : Con M' d' (aR g k :: av) h L Q') (hd : d' + 1 ≤ d) (hin : inW g k = true) (hck : ck k = some ci) (hcl : vwCl[ci]? = some (M'.1.cls, T, N))
    (hn : av.length = n) (hst : av.reverse ++ aR g k :: rest = st) (hcat : (rest.map catA).sum ≤ 8)
    (kk : ∀ r h' L', Q' r h' L' → V M d Q q ls (r.toList ++ rest) h' L') : V M d Q pc ls st h L := by
  refine v_callVG (b := fun ω => ω.2.1 g k) q hdg hp hlk ok hC hd (fun _ => rfl) (fun ω s H locs hSt hP hS => ?_) hn hst hcat kk
  obtain ⟨pp, hpp⟩ := List.getElem?_of_mem (idx_mem hin)
  have hw := ws_at (ω := ω) (h := h) (L := L) hpp
  rw [cell_obj hck] at hw
  exact va_recv hSt.1 hP hcl hw
theorem v_callT {M' : MD} {d' ix n i : Nat} {av : List AV} {Q' : Option AV → HI → HL → Prop} {st : List AV} (q : Nat) (hdg : decode M.2.1 pc = .ok (.invokevirtual ix, 3)) (hp : pc + 3 = q)
    (hlk : Cond.methodLink M.1.cls ix M'.1 ∈ gw) (ok : OKV M' n) (hC : Con M' d' (aR 10 i :: av) h L Q') (hd : d' + 1 ≤ d) (hi : i < 15) (hcl : M'.1.cls = "java/lang/String")
    (hn : av.length = n) (hst : av.reverse ++ aR 10 i :: rest = st) (hcat : (rest.map catA).sum ≤ 8)
    (kk : ∀ r h' L', Q' r h' L' → V M d Q q ls (r.toList ++ rest) h' L') : V M d Q pc ls st h L := by
  refine v_callVG (b := fun ω => ω.2.1 10 i) q hdg hp hlk ok hC hd (fun _ => rfl) (fun ω s H locs hSt hP hS => ?_) hn hst hcat kk
  rw [hcl]
  exact vk_recv hSt.2.2.2.2.2.2.1 hi hS
theorem v_callS {M' : MD} {d' ix n : Nat} {av : List AV} {Q' : Option AV → HI → HL → Prop} {st : List AV} (q : Nat) (hdg : decode M.2.1 pc = .ok (.invokestatic ix, 3)) (hp : pc + 3 = q)
    (hlk : Cond.methodLink M.1.cls ix M'.1 ∈ gw) (ok : OKS M' n) (hC : Con M' d' av h L Q') (hd : d' + 1 ≤ d)
    (hn : av.length = n) (hst : av.reverse ++ rest = st) (hcat : (rest.map catA).sum ≤ 8)
    (kk : ∀ r h' L', Q' r h' L' → V M d Q q ls (r.toList ++ rest) h' L') : V M d Q pc ls st h L := by
  subst hp
  subst hst
  intro ω p l e R s m args below meth c H locs a C hP hS hl
  obtain ⟨⟨o1, o2, o3, o4⟩, o5⟩ := ok
  have hM := hC ω l { frames := d', cells := 0, slots := 0, locals := 40 * d' } (Nat.le_refl _) (Nat.le_refl _) rfl rfl
  have hfr : d ≤ R.frames := C.2.2.2.2.2.2.2.2.1
  have hlo : 40 * d ≤ R.locals := C.2.2.2.2.2.2.2.2.2.1
  have hG : GoodIn gw (va_wsS M.1.cls ix M'.1 (wsM M')) := by
    intro w hw
    unfold va_wsS at hw
    rcases List.mem_append.mp hw with z | z
    · refine gw_good w ?_
      simp only [List.mem_cons, List.not_mem_nil, or_false] at z
      rcases z with z | z | z <;> rw [z]
      · exact hlk
      · exact o5
      · exact o2
    · exact gw_cons o1 w z
  rw [List.map_append, List.map_reverse]
  refine run_go C hS hl (va_runS (As := av.map (cv ω)) (rest := rest.map (cv ω)) ⟨C.1, C.2.1, C.2.2.2.2.1, C.2.2.2.2.2.1, C.2.2.2.2.2.2.1⟩ hM (va_cwS (ws' := gw) n C.2.2.2.2.2.2.1 hG rfl rfl rfl o3 ⟨by show d' + 1 ≤ R.frames; omega, by show 8 + (M'.2.2.1 + 11) + 40 * d' ≤ R.locals; omega⟩) ⟨con_blind, fun U hU hW => ?_⟩ rfl (by rw [List.length_map]; exact hn) hl.1 rfl (lv_room (by rw [cat_sum]; exact hcat)) hdg ⟨C.2.2.2.2.2.2.2.2.2.2.1, C.2.2.2.2.2.2.2.2.2.2.2.1⟩) kk
  exact ⟨rfl, C.2.2.2.2.2.2.2.1.warm hW (by rw [hU]; exact hS.2.1), by rw [hU]; exact hP⟩
theorem v_callN {M' : MD} {d' ix n : Nat} {host : String} {av : List AV} {Q' : Option AV → HI → HL → Prop} {st : List AV} (q : Nat) (hdg : decode M.2.1 pc = .ok (.invokestatic ix, 3)) (hp : pc + 3 = q)
    (hlk : (M.1.cls, ix, M'.1, host) ∈ nestL) (ok : OKS M' n) (hC : Con M' d' av h L Q') (hd : d' + 1 ≤ d)
    (hn : av.length = n) (hst : av.reverse ++ rest = st) (hcat : (rest.map catA).sum ≤ 8)
    (kk : ∀ r h' L', Q' r h' L' → V M d Q q ls (r.toList ++ rest) h' L') : V M d Q pc ls st h L := by
  subst hp
  subst hst
  intro ω p l e R s m args below meth c H locs a C hP hS hl
  obtain ⟨⟨o1, o2, o3, o4⟩, o5⟩ := ok
  have hM := hC ω l { frames := d', cells := 0, slots := 0, locals := 40 * d' } (Nat.le_refl _) (Nat.le_refl _) rfl rfl
  have hfr : d ≤ R.frames := C.2.2.2.2.2.2.2.2.1
  have hlo : 40 * d ≤ R.locals := C.2.2.2.2.2.2.2.2.2.1
  have hnl := C.2.2.2.2.2.2.2.1.2.2.2.1 _ hlk
  rw [List.map_append, List.map_reverse]
  refine run_go C hS hl (va_runSN (As := av.map (cv ω)) (rest := rest.map (cv ω)) ⟨C.1, C.2.1, C.2.2.2.2.1, C.2.2.2.2.2.1, C.2.2.2.2.2.2.1⟩ hM ⟨va_cnB (ws' := gw) n C.2.2.2.2.2.2.1 (gw_cons o1) rfl rfl rfl hnl (C.2.2.2.2.2.2.1 _ o2) o3 ⟨by show d' + 1 ≤ R.frames; omega, by show 8 + (M'.2.2.1 + 11) + 40 * d' ≤ R.locals; omega⟩, C.2.2.2.2.2.2.1 _ o5, trivial⟩ ⟨con_blind, fun U hU hW => ?_⟩ rfl (by rw [List.length_map]; exact hn) hl.1 rfl (lv_room (by rw [cat_sum]; exact hcat)) hdg ⟨C.2.2.2.2.2.2.2.2.2.2.1, C.2.2.2.2.2.2.2.2.2.2.2.1⟩) kk
  exact ⟨rfl, C.2.2.2.2.2.2.2.1.warm hW (by rw [hU]; exact hS.2.1), by rw [hU]; exact hP⟩
theorem v_max {ix : Nat} {x y : Int32} (q : Nat) (hdg : decode M.2.1 pc = .ok (.invokestatic ix, 3)) (hp : pc + 3 = q) (hlk : Cond.methodLink M.1.cls ix Lib.Math.max.name ∈ gw) (hs : Cond.static Lib.Math.max.name ∈ gw) (hi : Cond.initialized "java/lang/Math" ∈ gw) (hc : Cond.code Lib.Math.max.name Lib.Math.max.code 2 (some .int) ∈ gw) (hd : 1 ≤ d) (hcat : (rest.map catA).sum ≤ 8)
    (k : V M d Q q ls (aI (if x < y then y else x) :: rest) h L) : V M d Q pc ls (aI y :: aI x :: rest) h L := by
  subst hp
  intro ω p l e R s m args below meth c H locs a C hP hS hl
  have hfr : d ≤ R.frames := C.2.2.2.2.2.2.2.2.1
  have hlo : 40 * d ≤ R.locals := C.2.2.2.2.2.2.2.2.2.1
  have ht := C.2.2.2.2.2.2.1
  exact va_mmax C.1 C.2.1 (C.2.2.2.2.1.trans hl.1.symm) C.2.2.2.2.2.1 (ht _ hlk) (ht _ hs) (ht _ hi) (ht _ hc) (by omega) (by rw [cat_sum]; omega) C.2.2.2.2.2.2.2.2.2.2.1 C.2.2.2.2.2.2.2.2.2.2.2.1 hdg (k ω p l e R s m args below meth c H locs a C hP hS hl)
theorem v_min {ix : Nat} {x y : Int32} (q : Nat) (hdg : decode M.2.1 pc = .ok (.invokestatic ix, 3)) (hp : pc + 3 = q) (hlk : Cond.methodLink M.1.cls ix Lib.Math.min.name ∈ gw) (hs : Cond.static Lib.Math.min.name ∈ gw) (hi : Cond.initialized "java/lang/Math" ∈ gw) (hc : Cond.code Lib.Math.min.name Lib.Math.min.code 2 (some .int) ∈ gw) (hd : 1 ≤ d) (hcat : (rest.map catA).sum ≤ 8)
    (k : V M d Q q ls (aI (if y < x then y else x) :: rest) h L) : V M d Q pc ls (aI y :: aI x :: rest) h L := by
  subst hp
  intro ω p l e R s m args below meth c H locs a C hP hS hl
  have hfr : d ≤ R.frames := C.2.2.2.2.2.2.2.2.1
  have hlo : 40 * d ≤ R.locals := C.2.2.2.2.2.2.2.2.2.1
  have ht := C.2.2.2.2.2.2.1
  exact va_mmin C.1 C.2.1 (C.2.2.2.2.1.trans hl.1.symm) C.2.2.2.2.2.1 (ht _ hlk) (ht _ hs) (ht _ hi) (ht _ hc) (by omega) (by rw [cat_sum]; omega) C.2.2.2.2.2.2.2.2.2.2.1 C.2.2.2.2.2.2.2.2.2.2.2.1 hdg (k ω p l e R s m args below meth c H locs a C hP hS hl)
theorem acp_words : nativeFrameWords "java/lang/System" "arraycopy" 5 + 11 ≤ 30 := by decide +kernel
theorem nI_nn {n : Nat} (h : n < 2 ^ 31) : ¬ nI n < 0 := nI_pos h
theorem v_acpy {ix g0 k0 g1 k1 sp dp n : Nat} {i0 i1 i2 : Int32} (q : Nat) (hdg : decode M.2.1 pc = .ok (.invokestatic ix, 3)) (hp : pc + 3 = q) (hlk : Cond.methodLink M.1.cls ix arraycopyName ∈ gw) (hnat : Cond.native arraycopyName ∈ gw) (hs : Cond.static arraycopyName ∈ gw) (hi : Cond.initialized "java/lang/System" ∈ gw)
    (hin0 : inW g0 k0 = true) (hc0 : ck k0 = none) (hl0 : isL k0 = false) (hin1 : inW g1 k1 = true) (hc1 : ck k1 = none) (hl1 : isL k1 = false) (h0 : i0 = nI sp) (h1 : i1 = nI dp) (h2 : i2 = nI n) (hb0 : sp + n ≤ alen k0) (hb1 : dp + n ≤ alen k1) (hd : 1 ≤ d) (hcat : (rest.map catA).sum ≤ 8)
    (kk : V M d Q q ls rest (hPF h g1 k1 (va_cpy (h g0 k0) (h g1 k1) sp dp n)) L) : V M d Q pc ls (aI i2 :: aI i1 :: aR g1 k1 :: aI i0 :: aR g0 k0 :: rest) h L := by
  subst hp
  subst h0
  subst h1
  subst h2
  intro ω p l e R s m args below meth c H locs a C hP hS hl
  have hfr : d ≤ R.frames := C.2.2.2.2.2.2.2.2.1
  have hlo : 40 * d ≤ R.locals := C.2.2.2.2.2.2.2.2.2.1
  have ht := C.2.2.2.2.2.2.1
  have hSt := C.2.2.2.2.2.2.2.1
  have l0 := alen_lt k0
  have l1 := alen_lt k1
  obtain ⟨p0, hp0⟩ := List.getElem?_of_mem (idx_mem hin0)
  have hw0 := ws_at (ω := ω) (h := h) (L := L) hp0
  rw [cell_int hc0 hl0] at hw0
  obtain ⟨p1, hp1⟩ := List.getElem?_of_mem (idx_mem hin1)
  have hw1 := ws_at (ω := ω) (h := h) (L := L) hp1
  rw [cell_int hc1 hl1] at hw1
  have e0 : aty k0 = FieldType.int := by unfold aty; rw [if_neg (by rw [hl0]; decide)]
  have e1 : aty k1 = FieldType.int := by unfold aty; rw [if_neg (by rw [hl1]; decide)]
  have hK0 := hSt.K hc0 hin0
  have hK1 := hSt.K hc1 hin1
  rw [e0] at hK0
  rw [e1] at hK1
  have aw := acp_words
  refine va_copyi C.1 C.2.1 (C.2.2.2.2.1.trans hl.1.symm) C.2.2.2.2.2.1 (ht _ hlk) (ht _ hnat) (ht _ hs) (ht _ hi) (hK0.app hK1) hP (hSt.D h L) hS p0 p1 0 1 hw0 hw1 rfl rfl rfl (nI_nn (by omega)) (nI_nn (by omega)) (nI_nn (by omega)) (by rw [nI_clamp (by omega), nI_clamp (by omega)]; exact hb0) (by rw [nI_clamp (by omega), nI_clamp (by omega)]; exact hb1) (fun _ _ => rfl) (by omega) (by rw [cat_sum]; omega) hdg (fun H1 locs1 hPn _ hSn => ?_)
  rw [nI_clamp (n := sp) (by omega), nI_clamp (n := dp) (by omega), nI_clamp (n := n) (by omega)] at hPn
  have e2 := ws_set (ω := ω) (h := h) (h' := hPF h g1 k1 (va_cpy (h g0 k0) (h g1 k1) sp dp n)) (L := L) (L' := L) hp1 (by rw [cell_int hc1 hl1, hPF_s]) (fun q' _ hn => cell_oth hn)
  have hP2 : va_P ω.1 vwCl (wsW ω (hPF h g1 k1 (va_cpy (h g0 k0) (h g1 k1) sp dp n)) L) H1 := by rw [← e2]; exact hPn
  exact kk ω p l e R s m args below meth c H1 locs1 a C hP2 hSn hl
theorem v_acpyL {ix g0 k0 g1 k1 sp dp n : Nat} {i0 i1 i2 : Int32} (q : Nat) (hdg : decode M.2.1 pc = .ok (.invokestatic ix, 3)) (hp : pc + 3 = q) (hlk : Cond.methodLink M.1.cls ix arraycopyName ∈ gw) (hnat : Cond.native arraycopyName ∈ gw) (hs : Cond.static arraycopyName ∈ gw) (hi : Cond.initialized "java/lang/System" ∈ gw)
    (hin0 : inW g0 k0 = true) (hc0 : ck k0 = none) (hl0 : isL k0 = true) (hin1 : inW g1 k1 = true) (hc1 : ck k1 = none) (hl1 : isL k1 = true) (h0 : i0 = nI sp) (h1 : i1 = nI dp) (h2 : i2 = nI n) (hb0 : sp + n ≤ alen k0) (hb1 : dp + n ≤ alen k1) (hd : 1 ≤ d) (hcat : (rest.map catA).sum ≤ 8)
    (kk : V M d Q q ls rest h (lPF L g1 k1 (va_cpy (L g0 k0) (L g1 k1) sp dp n))) : V M d Q pc ls (aI i2 :: aI i1 :: aR g1 k1 :: aI i0 :: aR g0 k0 :: rest) h L := by
  subst hp
  subst h0
  subst h1
  subst h2
  intro ω p l e R s m args below meth c H locs a C hP hS hl
  have hfr : d ≤ R.frames := C.2.2.2.2.2.2.2.2.1
  have hlo : 40 * d ≤ R.locals := C.2.2.2.2.2.2.2.2.2.1
  have ht := C.2.2.2.2.2.2.1
  have hSt := C.2.2.2.2.2.2.2.1
  have l0 := alen_lt k0
  have l1 := alen_lt k1
  obtain ⟨p0, hp0⟩ := List.getElem?_of_mem (idx_mem hin0)
  have hw0 := ws_at (ω := ω) (h := h) (L := L) hp0
  rw [cell_long hc0 hl0] at hw0
  obtain ⟨p1, hp1⟩ := List.getElem?_of_mem (idx_mem hin1)
  have hw1 := ws_at (ω := ω) (h := h) (L := L) hp1
  rw [cell_long hc1 hl1] at hw1
  have e0 : aty k0 = FieldType.long := by unfold aty; rw [if_pos hl0]
  have e1 : aty k1 = FieldType.long := by unfold aty; rw [if_pos hl1]
  have hK0 := hSt.K hc0 hin0
  have hK1 := hSt.K hc1 hin1
  rw [e0] at hK0
  rw [e1] at hK1
  have aw := acp_words
  refine va_copyl C.1 C.2.1 (C.2.2.2.2.1.trans hl.1.symm) C.2.2.2.2.2.1 (ht _ hlk) (ht _ hnat) (ht _ hs) (ht _ hi) (hK0.app hK1) hP (hSt.D h L) hS p0 p1 0 1 hw0 hw1 rfl rfl rfl (nI_nn (by omega)) (nI_nn (by omega)) (nI_nn (by omega)) (by rw [nI_clamp (by omega), nI_clamp (by omega)]; exact hb0) (by rw [nI_clamp (by omega), nI_clamp (by omega)]; exact hb1) (fun _ _ => rfl) (by omega) (by rw [cat_sum]; omega) hdg (fun H1 locs1 hPn _ hSn => ?_)
  rw [nI_clamp (n := sp) (by omega), nI_clamp (n := dp) (by omega), nI_clamp (n := n) (by omega)] at hPn
  have e2 := ws_set (ω := ω) (h := h) (h' := h) (L := L) (L' := lPF L g1 k1 (va_cpy (L g0 k0) (L g1 k1) sp dp n)) hp1 (by rw [cell_long hc1 hl1, lPF_s]) (fun q' _ hn => cell_othL hn)
  have hP2 : va_P ω.1 vwCl (wsW ω h (lPF L g1 k1 (va_cpy (L g0 k0) (L g1 k1) sp dp n))) H1 := by rw [← e2]; exact hPn
  exact kk ω p l e R s m args below meth c H1 locs1 a C hP2 hSn hl
-- String constants: String's own fields, its bytes
theorem v_strV {ix i : Nat} (q : Nat) (hdg : decode M.2.1 pc = .ok (.getfield ix, 3)) (hp : pc + 3 = q) (hf : Cond.fieldLink M.1.cls ix "java/lang/String" "value" "[B" ∈ gw) (hi : i < 15) (k : V M d Q q ls (aR 11 i :: rest) h L) : V M d Q pc ls (aR 10 i :: rest) h L := by
  subst hp
  intro ω p l e R s m args below meth c H locs a C hP hS hl
  exact vk_getf C.1 C.2.1 (C.2.2.2.2.2.2.2.1.2.2.2.2.2.2.1.1 i hi).2.2.1 hS C.2.2.2.2.2.1 (C.2.2.2.2.2.2.1 _ hf) (fun _ z => z) hdg (k ω p l e R s m args below meth c H locs a C hP hS hl)
theorem v_strC {ix i : Nat} (q : Nat) (hdg : decode M.2.1 pc = .ok (.getfield ix, 3)) (hp : pc + 3 = q) (hf : Cond.fieldLink M.1.cls ix "java/lang/String" "coder" "B" ∈ gw) (hi : i < 15) (k : V M d Q q ls (aI 0 :: rest) h L) : V M d Q pc ls (aR 10 i :: rest) h L := by
  subst hp
  intro ω p l e R s m args below meth c H locs a C hP hS hl
  exact vk_getf C.1 C.2.1 (C.2.2.2.2.2.2.2.1.2.2.2.2.2.2.1.1 i hi).2.1 hS C.2.2.2.2.2.1 (C.2.2.2.2.2.2.1 _ hf) (fun _ z => z) hdg (k ω p l e R s m args below meth c H locs a C hP hS hl)
theorem v_blen {i : Nat} (q : Nat) (hdg : decode M.2.1 pc = .ok (.arraylength, 1)) (hp : pc + 1 = q) (hi : i < 15) (k : V M d Q q ls (aI (nI (lenS.getD i 0)) :: rest) h L) : V M d Q pc ls (aR 11 i :: rest) h L := by
  subst hp
  intro ω p l e R s m args below meth c H locs a C hP hS hl
  obtain ⟨cell, h1, h2, h3, h4, h5, h6, h7⟩ := (C.2.2.2.2.2.2.2.1.2.2.2.2.2.2.1.1 i hi).2.2.2.kept hS.2.1
  exact W.alen (n := nI (lenS.getD i 0)) C.1 C.2.1 h1 h2 h5 rfl rfl hdg (k ω p l e R s m args below meth c H locs a C hP hS hl)
theorem v_bald {i j : Nat} {ii : Int32} (q : Nat) (hdg : decode M.2.1 pc = .ok (.baload, 1)) (hp : pc + 1 = q) (hi : i < 15) (hj : ii = nI j) (hjl : j < lenS.getD i 0) (hj2 : j < 2 ^ 31) (k : V M d Q q ls (aI ((bytS.getD i []).getD j 0) :: rest) h L) : V M d Q pc ls (aI ii :: aR 11 i :: rest) h L := by
  subst hp
  subst hj
  intro ω p l e R s m args below meth c H locs a C hP hS hl
  obtain ⟨cell, h1, h2, h3, h4, h5, h6, h7⟩ := (C.2.2.2.2.2.2.2.1.2.2.2.2.2.2.1.1 i hi).2.2.2.kept hS.2.1
  refine W.bald (v := .int ((bytS.getD i []).getD j 0)) C.1 C.2.1 h1 h2 h3 ?_ ?_ rfl rfl hdg (k ω p l e R s m args below meth c H locs a C hP hS hl)
  · rw [nI_clamp hj2]
    intro z
    rcases z with z | z
    · exact nI_pos hj2 z
    · exact absurd (Nat.le_trans h4 z) (by omega)
  · rw [nI_clamp hj2]
    exact h6 j hjl
theorem v_cmpS {ix : Nat} (q : Nat) (hdg : decode M.2.1 pc = .ok (.getstatic ix, 3)) (hp : pc + 3 = q) (hf : Cond.fieldLink M.1.cls ix "java/lang/String" "COMPACT_STRINGS" "Z" ∈ gw) (k : V M d Q q ls (aI 1 :: rest) h L) : V M d Q pc ls rest h L := by
  subst hp
  intro ω p l e R s m args below meth c H locs a C hP hS hl
  exact va_gets C.1 C.2.1 C.2.2.2.2.2.2.2.1.2.2.2.2.2.2.2.1 hS C.2.2.2.2.2.1 (C.2.2.2.2.2.2.1 _ hf) (fun _ z => z) hdg (k ω p l e R s m args below meth c H locs a C hP hS hl)
theorem v_siob {ix : Nat} (q : Nat) (hdg : decode M.2.1 pc = .ok (.getstatic ix, 3)) (hp : pc + 3 = q) (hf : Cond.fieldLink M.1.cls ix "jdk/internal/util/Preconditions" "SIOOBE_FORMATTER" "Ljava/util/function/BiFunction;" ∈ gw) (k : ∀ v : Value, v.category = 1 → V M d Q q ls (aV v :: rest) h L) : V M d Q pc ls rest h L := by
  subst hp
  intro ω p l e R s m args below meth c H locs a C hP hS hl
  rcases C.2.2.2.2.2.2.2.1.2.2.2.2.2.2.2.2 with z | ⟨t, z⟩
  · exact va_gets C.1 C.2.1 z hS C.2.2.2.2.2.1 (C.2.2.2.2.2.2.1 _ hf) (fun _ z => z) hdg (k .null rfl ω p l e R s m args below meth c H locs a C hP hS hl)
  · exact va_gets C.1 C.2.1 z hS C.2.2.2.2.2.1 (C.2.2.2.2.2.2.1 _ hf) (fun _ z => z) hdg (k (.ref t) rfl ω p l e R s m args below meth c H locs a C hP hS hl)
end VCalls
