-- THE LAW: its end, its script, its loop (the first rows are the skeleton's)
abbrev mL_law : MD := (yL_law, cL_law, 4, some .boolean)
def R_law : String := "TwentyPhrasesLaw"
def lw_P (b : Addr) (xs : List Int32) (args : Array Value) (s : State) : Prop := args = #[.ref b] ∧ s.IntsAt b xs ∧ xs.length ≤ 3072 ∧ (Jvm.Cond.and given_1 narrow_1).before args s = true
def lw_Q (_ : Array Value) (s : State) (o : Outcome) (t : State) : Prop := o = .returned (some (.int 1)) ∧ Framed s o t [] 76 1958
def lw_Z (below : List Frame) (a : Array Value) (s : State) : State → Prop := fun t => ∃ o, t.status = .running ∧ Ended t below o ∧ lw_Q a s o t
theorem lw_ret {p : Program} {l : Launch} {e : Env} {R : Room} {s : State} {m : MethodId} {args : Array Value} {below : List Frame} {meth : Method} {c : Code} (hx : p.tables.exec = Jvm.exec) (hb : c.code = code) (hr : meth.sig.returnType = ret) (hlocks : meth.locks = false) {pc : Nat} {H : Heap} {ls : Array Slot} (hdg : decode code pc = .ok (.ireturn, 1)) : W p l e R s m args below meth c H [] 76 1958 (lw_Z below args s) (F0 m pc ls [.int 1]) := by
  intro T hT X
  obtain ⟨fs, hret, hrun, hended, hW, hframe⟩ := X.leave (v := some (.int 1)) (hlocks := hlocks) (fun h => by rw [hr] at h; cases h)
  have hmeth' : T.vm.method? m = some meth := X.method'
  refine ⟨T.setFrames fs, ?_, .returned (some (.int 1)), hrun, hended, rfl, ⟨_, rfl⟩, hW, hframe⟩
  jvm_step X.here [X.here.top, hx, hb, hdg, hmeth', hr, ret, narrow_b1]
  (try refine ⟨rfl, ?_⟩); (try refine ⟨rfl, ?_⟩)
  first | (intro acts; rw [hret _ acts rfl rfl rfl]) | rw [hret _ _ rfl rfl rfl]
  exact Steps.refl _
/-- the law's end: its cells are made, its script of n ints xs lies at b, apart from the world's cells, which are all new -/
def ZL (b n : Nat) (xs : Nat → Int32) : ZT := ((76, 1958), (fun ω s _ => ω.2.1 12 0 = b ∧ va_X b n xs s s.heap ∧ b < s.heap.size ∧ ∀ a, Aω ω a → s.heap.size ≤ a), fun _ below args s => lw_Z below args s)
theorem ZL_apart {b n : Nat} {xs : Nat → Int32} {ω : WC} {s : State} {args : Array Value} (h : (ZL b n xs).2.1 ω s args) : ¬ Aω ω b := fun z => by
  have h1 := h.2.2.2 b z
  have h2 := h.2.2.1
  omega
section VXLaw
variable {β : Type} {M : MD} {d : Nat} {G : β → Prop} {pc : Nat} {ls : List (Option AV)} {rest : List AV} {h : HI} {L : HL} {o : Option β} {b n : Nat} {xs : Nat → Int32}
theorem g_scld {i : Int32} (q : Nat) (hdg : decode M.2.1 pc = .ok (.iaload, 1)) (hp : pc + 1 = q) (kk : VX M d (ZL b n xs) G q ls (aI (xs (nC i)) :: rest) h L o) : VX M d (ZL b n xs) G pc ls (aI i :: aR 12 0 :: rest) h L (gd (ixb i n) o) := fun y e z => by
  obtain ⟨h1, h2⟩ := gd_some e
  obtain ⟨h3, h4⟩ := ixb_iff.mp h1
  subst hp
  intro ω p l e R s m args below meth c H locs a C hP hS hl
  have hZ := C.2.2.2.2.2.2.2.2.2.2.2.2
  have hin : vp_in i n := fun z => by
    rcases z with z | z
    · exact h3 z
    · exact absurd h4 (Nat.not_lt.mpr z)
  have K := kk y h2 z ω p l e R s m args below meth c H locs a C hP hS hl
  show W p l e R s m args below meth c H locs _ _ _ (F0 m pc a (.int i :: .ref (ω.2.1 12 0) :: rest.map (cv ω)))
  rw [hZ.1]
  exact va_sld C.1 C.2.1 hZ.2.1 hZ.2.2.1 (ZL_apart hZ) hS hin hdg K
theorem g_sclen (q : Nat) (hdg : decode M.2.1 pc = .ok (.arraylength, 1)) (hp : pc + 1 = q) (kk : VX M d (ZL b n xs) G q ls (aI (nI n) :: rest) h L o) : VX M d (ZL b n xs) G pc ls (aR 12 0 :: rest) h L o := fun y e z => by
  subst hp
  intro ω p l e R s m args below meth c H locs a C hP hS hl
  have hZ := C.2.2.2.2.2.2.2.2.2.2.2.2
  have K := kk y ‹_› z ω p l e R s m args below meth c H locs a C hP hS hl
  show W p l e R s m args below meth c H locs _ _ _ (F0 m pc a (.ref (ω.2.1 12 0) :: rest.map (cv ω)))
  rw [hZ.1]
  exact va_slen C.1 C.2.1 hZ.2.1 hZ.2.2.1 (ZL_apart hZ) hS hdg K
theorem g_lawret {x : Int32} {y : β} {dd : Nat} {G : β → Prop} (hdg : decode mL_law.2.1 pc = .ok (.ireturn, 1)) (hG : G y → x = 1) : VX mL_law dd (ZL b n xs) G pc ls [aI x] h L (some y) := fun y' e z => by
  cases e
  have h1 := hG z
  subst h1
  intro ω p l e R s m args below meth c H locs a C hP hS hl
  have hZ := C.2.2.2.2.2.2.2.2.2.2.2.2
  exact va_forget (fun q hq => hZ.2.2.2 _ (hS.2.2 q hq)) (lw_ret C.1 C.2.1 C.2.2.1 C.2.2.2.1 hdg)
end VXLaw
theorem ic6 : Int32.ofInt 6 = 6 := by decide
