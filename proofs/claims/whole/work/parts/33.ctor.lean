-- THE CONSTRUCTORS
section CTrows
variable {p : Program} {l : Launch} {e : Env} {R : Room} {s : State} {m : MethodId} {args : Array Value} {below : List Frame} {meth : Method} {c : Code} {H : Heap} {locs : List Loc} {cells slots : Nat} {Q : State → Prop} {pc : Nat} {ls : Array Slot} {rest : List Value} {cc : ByteArray} {D : va_G} {A : Nat → Prop} {H0 : Heap} {ws : va_W} {cI cL : ClassId}
theorem ct_newI (hexec : p.tables.exec = Jvm.exec) (hb : c.code = cc) (harr : (Cond.arrayClass FieldType.int).before args s = true) (hK : va_K D vwCl [(cI, .int), (cL, .long)] s) (hP : va_P D vwCl ws H) (hD : va_D A ws) (hS : va_S A H0 H locs) (hA : ∀ q, H0.size ≤ q → A q) {n : Int32} (N' : Nat) (hn : ¬ n < 0) (hN : n.toNatClampNeg = N') (hbytes : N' * componentBytes FieldType.int ≤ 536870912) (hcells : cells + 1 ≤ R.cells) (hslots : slots + N' ≤ R.slots) (hdg : decode cc pc = .ok (.newarray .int, 2))
    (kk : ∀ (q : Nat) (H1 : Heap), va_P D vwCl (ws ++ [(q, .inl (cI, N', .inl (fun _ => 0)))]) H1 → va_D A (ws ++ [(q, .inl (cI, N', .inl (fun _ => 0)))]) → va_S A H0 H1 locs → W p l e R s m args below meth c H1 locs (cells + 1) (slots + N') Q (F0 m (pc + 2) ls (.ref q :: rest))) : W p l e R s m args below meth c H locs cells slots Q (F0 m pc ls (.int n :: rest)) := by
  refine va_newa (atype := .int) (ty := .int) hexec hb harr rfl hK hP hD hS hA (a0 := (N', .inl (fun _ => 0))) (fun _ => rfl) hn hN hbytes hcells hslots hdg (fun q cA H1 hK1 hP1 hD1 hS1 => ?_)
  have e1 := (hK1.2 2 (cA, .int) rfl).2
  have e2 := (hK.2 0 (cI, .int) rfl).2
  have e3 : cA = cI := Option.some.inj (e1.symm.trans e2)
  subst e3
  exact kk q H1 hP1 hD1 hS1
theorem ct_newL (hexec : p.tables.exec = Jvm.exec) (hb : c.code = cc) (harr : (Cond.arrayClass FieldType.long).before args s = true) (hK : va_K D vwCl [(cI, .int), (cL, .long)] s) (hP : va_P D vwCl ws H) (hD : va_D A ws) (hS : va_S A H0 H locs) (hA : ∀ q, H0.size ≤ q → A q) {n : Int32} (N' : Nat) (hn : ¬ n < 0) (hN : n.toNatClampNeg = N') (hbytes : N' * componentBytes FieldType.long ≤ 536870912) (hcells : cells + 1 ≤ R.cells) (hslots : slots + N' ≤ R.slots) (hdg : decode cc pc = .ok (.newarray .long, 2))
    (kk : ∀ (q : Nat) (H1 : Heap), va_P D vwCl (ws ++ [(q, .inl (cL, N', .inr (.inl (fun _ => 0))))]) H1 → va_D A (ws ++ [(q, .inl (cL, N', .inr (.inl (fun _ => 0))))]) → va_S A H0 H1 locs → W p l e R s m args below meth c H1 locs (cells + 1) (slots + N') Q (F0 m (pc + 2) ls (.ref q :: rest))) : W p l e R s m args below meth c H locs cells slots Q (F0 m pc ls (.int n :: rest)) := by
  refine va_newa (atype := .long) (ty := .long) hexec hb harr rfl hK hP hD hS hA (a0 := (N', .inr (.inl (fun _ => 0)))) (fun _ => rfl) hn hN hbytes hcells hslots hdg (fun q cA H1 hK1 hP1 hD1 hS1 => ?_)
  have e1 := (hK1.2 2 (cA, .long) rfl).2
  have e2 := (hK.2 1 (cL, .long) rfl).2
  have e3 : cA = cL := Option.some.inj (e1.symm.trans e2)
  subst e3
  exact kk q H1 hP1 hD1 hS1
/-- what a constructor may take of the tables -/
def ctK (D : va_G) (cI cL : ClassId) (U : State) : Prop := va_K D vwCl [(cI, .int), (cL, .long)] U ∧ ∀ q ∈ nestL, va_Nw (.methodLinkNest q.1 q.2.1 q.2.2.1 q.2.2.2) U
/-- a constructor's contract: h0 is an object of class ci with its fields as new; then the cells are those of cX -/
def CT {S : Type} (M : MD) (d mc ms ci : Nat) (df : List Value) (cX : ClassId → ClassId → Nat → S → va_W) : Prop := ∀ (l : Launch) (D : va_G) (cI cL : ClassId) (h0 sz : Nat), Met l M.1 (wsM M) { frames := d, cells := mc, slots := ms, locals := 40 * d } (va_Pc [.ref h0] (fun U => U.heap.size = sz ∧ va_P D vwCl [(h0, .inr (ci, df))] U.heap ∧ ctK D cI cL U)) (va_Qv (fun _ : S => True) (fun u t => va_P D vwCl (cX cI cL h0 u) t.heap ∧ va_D (va_A [(h0, .inr (ci, df))] sz) (cX cI cL h0 u)) (va_A [(h0, .inr (ci, df))] sz)) mc ms (va_A [(h0, .inr (ci, df))] sz)
theorem ct_blind {D : va_G} {cI cL : ClassId} {av : List Value} {sz : Nat} {ws : va_W} : FrameBlind (va_Pc av (fun U => U.heap.size = sz ∧ va_P D vwCl ws U.heap ∧ ctK D cI cL U)) := by
  intro a U g mk q
  obtain ⟨q0, q1, q2, q3, q4⟩ := q
  exact ⟨q0, q1, q2, va_K.moved (u := U) (U := U.calling g mk a) (Vm.Alike.refl U.vm) q3, fun q hq => va_Nw.same (U := U.calling g mk a) rfl rfl (q4 q hq)⟩
theorem rng_map {α : Type} (wr : List α) (x : α) : (List.range wr.length).map (fun i => (wr ++ [x])[i]?) = wr.map some := by
  apply List.ext_getElem?
  intro i
  rw [List.getElem?_map, List.getElem?_map]
  by_cases h : i < wr.length
  · simp only [List.getElem?_range h, Option.map_some, List.getElem?_append_left h, List.getElem?_eq_getElem h]
  · simp [h, Nat.not_lt.mp h]
theorem nd_of : ∀ (l : List Nat), l.Nodup → va_nd l = true
  | [], _ => rfl
  | a :: l, h => by
    rw [List.nodup_cons] at h
    simp only [va_nd, Bool.and_eq_true, decide_eq_true_eq]
    exact ⟨h.1, nd_of l h.2⟩
/-- the join behind a constructor's call: its object was the last cell -/
theorem ct_join {q ci : Nat} {df : List Value} {wr w1 : va_W} {H1 : Heap} (hP : va_P D vwCl (wr ++ [(q, .inr (ci, df))]) H) (hD : va_D A (wr ++ [(q, .inr (ci, df))])) (hS : va_S A H0 H locs) (hA : ∀ q, H0.size ≤ q → A q)
    (hk : ∀ a : Nat, a < H.size → ¬ va_A [(q, .inr (ci, df))] H.size a → H1[a]? = H[a]?) (hP1 : va_P D vwCl w1 H1) (hD1 : va_D (va_A [(q, .inr (ci, df))] H.size) w1) : va_P D vwCl (wr ++ w1) H1 ∧ va_D A (wr ++ w1) := by
  have hC : [wr.length].map (fun i => (wr ++ [(q, (.inr (ci, df) : va_E))])[i]?) = [(q, (.inr (ci, df) : va_E))].map some := by simp
  exact va_join hP hD [wr.length] (List.range wr.length) hC (rng_map wr _) (nd_of _ List.nodup_range) (fun i hi => by simp only [List.mem_range] at hi; simp only [List.mem_cons, List.not_mem_nil, or_false]; omega) hk (va_free hD hS hA [wr.length] hC) hP1 hD1
theorem ct_call {S : Type} {M M' : MD} {d mc ms ci ix q : Nat} {df : List Value} {cX : ClassId → ClassId → Nat → S → va_W} {wr : va_W} {host : String} (hC : CT M' d mc ms ci df cX) (hexec : p.tables.exec = Jvm.exec) (hb : c.code = M.2.1) (hml : c.maxLocals = M.2.2.1) (hlz : ls.size = M.2.2.1) (hown : s.vm.findClass M.1.cls = some m.cls) (hts : ∀ w ∈ gw, w.before args s = true) (hK : ctK D cI cL s) (hP : va_P D vwCl (wr ++ [(q, .inr (ci, df))]) H) (hD : va_D A (wr ++ [(q, .inr (ci, df))])) (hS : va_S A H0 H locs) (hA : ∀ q, H0.size ≤ q → A q)
    (hlk : (M.1.cls, ix, M'.1, host) ∈ nestL) (hcd : Cond.code M'.1 M'.2.1 M'.2.2.1 M'.2.2.2 ∈ gw) (hret : M'.2.2.2 = none) (hini : Cond.initialized M'.1.cls ∈ gw) (hins : Cond.instanceMethod M'.1 ∈ gw) (hnm : M'.1.name = "<init>") (hpd : M'.1.cls ≠ "java/lang/invoke/MethodHandle" ∧ M'.1.cls ≠ "java/lang/invoke/VarHandle" ∧ (parseMethodDescriptor M'.1.desc).map (fun d => d.parameters.length) = some 0) (hroom : d + 1 ≤ R.frames ∧ 8 + (M'.2.2.1 + 11) + 40 * d ≤ R.locals) (hf : cells + mc ≤ R.cells ∧ slots + ms ≤ R.slots) (hcat : (rest.map fun v => v.category).sum ≤ 8) (hdg : decode M.2.1 pc = .ok (.invokespecial ix, 3))
    (kk : ∀ (u : S) (H1 : Heap) (locs1 : List Loc), va_P D vwCl (wr ++ cX cI cL q u) H1 → va_D A (wr ++ cX cI cL q u) → va_S A H0 H1 locs1 → W p l e R s m args below meth c H1 locs1 (cells + mc) (slots + ms) Q (F0 m (pc + 3) ls rest)) : W p l e R s m args below meth c H locs cells slots Q (F0 m pc ls (.ref q :: rest)) := by
  have hcq : [wr.length].map (fun i => (wr ++ [(q, (.inr (ci, df) : va_E))])[i]?) = [(q, (.inr (ci, df) : va_E))].map some := by simp
  have hF := va_free hD hS hA [wr.length] hcq
  have hPc : va_P D vwCl [(q, .inr (ci, df))] H := hP.sub [wr.length] (by simp)
  refine va_callv (va_runIN (As := []) (rest := rest) ⟨hexec, hb, hml, hown, hts⟩ (hC l D cI cL q H.size) ⟨va_cnB (ws' := gw) 0 hts (gw_cons hcd) (by unfold wsM; rw [hret]) rfl rfl (hK.2 _ hlk) (hts _ hini) hpd hroom, hnm, hts _ hins⟩ ⟨ct_blind, fun U hU hW => ⟨rfl, by rw [hU], by rw [hU]; exact hPc, va_K.moved hW.alike hK.1, fun z hz => va_Nw.warmM hW (hK.2 z hz)⟩⟩ rfl rfl hlz rfl (lv_room hcat) hdg hf) hS (fun a _ h => hF a h) hF (fun u t H1 locs1 ht hvm hw hB hz1 hk1 hS1 => ?_)
  obtain ⟨hP1, hD1⟩ := hB
  rw [ht] at hP1
  obtain ⟨hP2, hD2⟩ := ct_join hP hD hS hA hk1 hP1 hD1
  exact kk u H1 locs1 hP2 hD2 hS1
end CTrows
theorem D1 (h0 : Nat) (x : va_E) : va_D (fun _ => True) [(h0, x)] := ⟨fun i j p q hp hq e => by
  cases i with
  | zero =>
    cases j with
    | zero => rfl
    | succ j => simp at hq
  | succ i => simp at hp, fun _ _ _ => trivial⟩
theorem df0 (j : Nat) (hj : j < 6) : defaultValue (tyX0 j) = vp_V [.null, .null, .null, .int 0, .int 0, .int 0] j := by
  match j, hj with
  | 0, _ => rfl
  | 1, _ => rfl
  | 2, _ => rfl
  | 3, _ => rfl
  | 4, _ => rfl
  | 5, _ => rfl
theorem df1 (j : Nat) (hj : j < 9) : defaultValue (tyX1 j) = vp_V [.null, .null, .null, .null, .null, .int 0, .int 0, .int 0, .int 0] j := by
  match j, hj with
  | 0, _ => rfl
  | 1, _ => rfl
  | 2, _ => rfl
  | 3, _ => rfl
  | 4, _ => rfl
  | 5, _ => rfl
  | 6, _ => rfl
  | 7, _ => rfl
  | 8, _ => rfl
theorem df2 (j : Nat) (hj : j < 1) : defaultValue (tyX2 j) = vp_V [.null] j := by
  match j, hj with
  | 0, _ => rfl
theorem df3 (j : Nat) (hj : j < 2) : defaultValue (tyX3 j) = vp_V [.null, .int 0] j := by
  match j, hj with
  | 0, _ => rfl
  | 1, _ => rfl
theorem df4 (j : Nat) (hj : j < 1) : defaultValue (tyX4 j) = vp_V [.null] j := by
  match j, hj with
  | 0, _ => rfl
theorem df5 (j : Nat) (hj : j < 7) : defaultValue (tyX5 j) = vp_V [.null, .null, .null, .null, .null, .null, .int 0] j := by
  match j, hj with
  | 0, _ => rfl
  | 1, _ => rfl
  | 2, _ => rfl
  | 3, _ => rfl
  | 4, _ => rfl
  | 5, _ => rfl
  | 6, _ => rfl
theorem df6 (j : Nat) (hj : j < 3) : defaultValue (tyX6 j) = vp_V [.null, .null, .null] j := by
  match j, hj with
  | 0, _ => rfl
  | 1, _ => rfl
  | 2, _ => rfl
theorem df7 (j : Nat) (hj : j < 6) : defaultValue (tyX7 j) = vp_V [.null, .int 0, .int 0, .int 0, .int 0, .int 0] j := by
  match j, hj with
  | 0, _ => rfl
  | 1, _ => rfl
  | 2, _ => rfl
  | 3, _ => rfl
  | 4, _ => rfl
  | 5, _ => rfl
theorem df8 (j : Nat) (hj : j < 6) : defaultValue (tyX8 j) = vp_V [.null, .null, .null, .null, .null, .int 0] j := by
  match j, hj with
  | 0, _ => rfl
  | 1, _ => rfl
  | 2, _ => rfl
  | 3, _ => rfl
  | 4, _ => rfl
  | 5, _ => rfl
theorem df9 (j : Nat) (hj : j < 8) : defaultValue (tyX9 j) = vp_V [.null, .null, .null, .int 0, .null, .null, .null, .null] j := by
  match j, hj with
  | 0, _ => rfl
  | 1, _ => rfl
  | 2, _ => rfl
  | 3, _ => rfl
  | 4, _ => rfl
  | 5, _ => rfl
  | 6, _ => rfl
  | 7, _ => rfl
theorem df10 (j : Nat) (hj : j < 21) : defaultValue (tyX10 j) = vp_V [.null, .null, .null, .null, .int 0, .int 0, .int 0, .int 0, .null, .null, .int 0, .null, .int 0, .int 0, .int 0, .int 0, .int 0, .null, .null, .null, .null] j := by
  match j, hj with
  | 0, _ => rfl
  | 1, _ => rfl
  | 2, _ => rfl
  | 3, _ => rfl
  | 4, _ => rfl
  | 5, _ => rfl
  | 6, _ => rfl
  | 7, _ => rfl
  | 8, _ => rfl
  | 9, _ => rfl
  | 10, _ => rfl
  | 11, _ => rfl
  | 12, _ => rfl
  | 13, _ => rfl
  | 14, _ => rfl
  | 15, _ => rfl
  | 16, _ => rfl
  | 17, _ => rfl
  | 18, _ => rfl
  | 19, _ => rfl
  | 20, _ => rfl
  | k + 21, h => exact absurd h (by omega)
abbrev cX3 (cI cL : ClassId) (h0 : Nat) (u : Nat) : va_W := (h0, .inr (3, [.ref u, .int 0])) :: ([] ++ [(u, .inl (cI, 12, .inl (fun _ => 0)))])
set_option maxRecDepth 100000 in
set_option maxHeartbeats 4000000 in
theorem k_X3 : CT mX3_init 1 1 12 3 [.null, .int 0] cX3 := by
  intro l D cI cL h0 sz
  refine Met.ofW (cc := cX3_init) (maxL := 1) (ret := none) (by decide) rfl ?_
  intro p e s m args below meth c s₁ B hml hv
  obtain ⟨rfl, hsz, hP, hK⟩ := hv
  have hx := B.exec
  have hb := B.bytes
  have hr := B.returns
  have hts0 := atoms_spec (ws := wsM mX3_init) B.pre
  have hts : ∀ w ∈ gw, w.before ([Value.ref h0] : List Value).toArray s = true := fun w hw => hts0 w (List.mem_cons_of_mem _ hw)
  have hown : s.vm.findClass RX3 = some m.cls := findClass_of_methodNamed B.named
  have hlocks := B.notSynchronized
  have hin : meth.name = "<init>" := (name_of_methodNamed B.named B.method).1
  subst hsz
  have hD : va_D (va_A [(h0, .inr (3, [.null, .int 0]))] s.heap.size) [(h0, .inr (3, [.null, .int 0]))] := va_D.self (A := fun _ => True) (D1 h0 _)
  generalize hAe : va_A [(h0, .inr (3, [.null, .int 0]))] s.heap.size = A at hD ⊢
  have hA : ∀ q : Nat, s.heap.size ≤ q → A q := fun q h => by rw [← hAe]; exact Or.inr h
  have hS : va_S A s.heap s.heap [] := va_S.rf
  have hl := lv_entry ([.ref h0]) (n := 1) (Nat.le_of_ble_eq_true rfl)
  rw [lg_entry_eq]
  generalize (lg_sl ([.ref h0]) ++ List.replicate (1 - (lg_sl ([.ref h0])).length) Slot.unset).toArray = ls at hl ⊢
  have hl : lv_has ls 1 [(0, .ref h0)] := hl
  refine lv_aload_n hx hb dX3_init_0 rfl (lv_at hl 0 rfl) ?_
  refine W.objInit hx hb hown (hts _ wkX3_3) (hts _ w_oin) (hts _ w_ocd) rfl (by rw [hml]; exact hl.1) rfl dX3_init_1 (Nat.le_of_ble_eq_true rfl) (Nat.le_of_ble_eq_true rfl) ?_
  refine W.eq (g2 := F0 m 4 ls []) rfl ?_
  refine lv_aload_n hx hb dX3_init_4 rfl (lv_at hl 0 rfl) ?_
  refine lv_bipush (v := 12) hx hb dX3_init_5 (by decide) ?_
  refine ct_newI hx hb (hts _ w_arrI) hK.1 hP hD hS hA 12 (by decide) (by decide) (by decide) (Nat.le_of_ble_eq_true rfl) (Nat.le_of_ble_eq_true rfl) dX3_init_7 (fun q7 H hP hD hS => ?_)
  have hP : va_P D vwCl ((h0, .inr (3, [.null, .int 0])) :: ([] ++ [(q7, .inl (cI, 12, .inl (fun _ => 0)))])) H := hP
  have hD : va_D A ((h0, .inr (3, [.null, .int 0])) :: ([] ++ [(q7, .inl (cI, 12, .inl (fun _ => 0)))])) := hD
  refine va_putF (D := D) (ci := 3) (v := .ref q7) (ty := .array .int) (C := RX3) (T := TX3) (N := 2) hx hb hts inX3 tyX3 tyX3_ok nmX3 hown hK.1 hP hD hS 0 rfl rfl 0 (by decide) (hts _ wfX3_9) (fun _ h9 => h9) rfl hin rfl (by decide +kernel) rfl rfl (Nat.le_of_ble_eq_true rfl) dX3_init_9 (fun H locs hP hD hS => ?_)
  have hP : va_P D vwCl ((h0, .inr (3, [.ref q7, .int 0])) :: ([] ++ [(q7, .inl (cI, 12, .inl (fun _ => 0)))])) H := hP
  have hD : va_D A ((h0, .inr (3, [.ref q7, .int 0])) :: ([] ++ [(q7, .inl (cI, 12, .inl (fun _ => 0)))])) := hD
  refine lv_aload_n hx hb dX3_init_12 rfl (lv_at hl 0 rfl) ?_
  refine lv_iconst (v := 0) hx hb dX3_init_13 (by decide) ?_
  refine va_put (D := D) (ci := 3) (v := .int 0) (ty := .int) (C := RX3) (T := TX3) (N := 2) hx hb hts inX3 tyX3 tyX3_ok nmX3 hown hK.1 hP hD hS 0 rfl rfl 1 (by decide) (hts _ wfX3_15) (fun _ h9 => h9) rfl (by decide +kernel) rfl rfl (Nat.le_of_ble_eq_true rfl) dX3_init_14 (fun H locs hP hD hS => ?_)
  have hP : va_P D vwCl ((h0, .inr (3, [.ref q7, .int 0])) :: ([] ++ [(q7, .inl (cI, 12, .inl (fun _ => 0)))])) H := hP
  have hD : va_D A ((h0, .inr (3, [.ref q7, .int 0])) :: ([] ++ [(q7, .inl (cI, 12, .inl (fun _ => 0)))])) := hD
  refine W.widen (k := 1) (n := 12) (Nat.le_refl _) (Nat.le_refl _) ?_
  exact W.vret hx hb hr (fun t ht hW => ⟨⟨q7, rfl, trivial, by rw [ht]; exact hP, hD⟩, hS.F ht⟩) hS.2.2 dX3_init_17
abbrev cX5 (cI cL : ClassId) (h0 : Nat) (u : (Nat × Nat × Nat × Nat × Nat × Nat)) : va_W := (h0, .inr (5, [.ref (u.1), .ref (u.2.1), .ref (u.2.2.1), .ref (u.2.2.2.1), .ref (u.2.2.2.2.1), .ref (u.2.2.2.2.2), .int 0])) :: (((((([] ++ [((u.1), .inl (cI, 12, .inl (fun _ => 0)))]) ++ [((u.2.1), .inl (cI, 12, .inl (fun _ => 0)))]) ++ [((u.2.2.1), .inl (cI, 12, .inl (fun _ => 0)))]) ++ [((u.2.2.2.1), .inl (cI, 12, .inl (fun _ => 0)))]) ++ [((u.2.2.2.2.1), .inl (cI, 12, .inl (fun _ => 0)))]) ++ [((u.2.2.2.2.2), .inl (cI, 12, .inl (fun _ => 0)))])
set_option maxRecDepth 100000 in
set_option maxHeartbeats 4000000 in
theorem k_X5 : CT mX5_init 1 6 72 5 [.null, .null, .null, .null, .null, .null, .int 0] cX5 := by
  intro l D cI cL h0 sz
  refine Met.ofW (cc := cX5_init) (maxL := 1) (ret := none) (by decide) rfl ?_
  intro p e s m args below meth c s₁ B hml hv
  obtain ⟨rfl, hsz, hP, hK⟩ := hv
  have hx := B.exec
  have hb := B.bytes
  have hr := B.returns
  have hts0 := atoms_spec (ws := wsM mX5_init) B.pre
  have hts : ∀ w ∈ gw, w.before ([Value.ref h0] : List Value).toArray s = true := fun w hw => hts0 w (List.mem_cons_of_mem _ hw)
  have hown : s.vm.findClass RX5 = some m.cls := findClass_of_methodNamed B.named
  have hlocks := B.notSynchronized
  have hin : meth.name = "<init>" := (name_of_methodNamed B.named B.method).1
  subst hsz
  have hD : va_D (va_A [(h0, .inr (5, [.null, .null, .null, .null, .null, .null, .int 0]))] s.heap.size) [(h0, .inr (5, [.null, .null, .null, .null, .null, .null, .int 0]))] := va_D.self (A := fun _ => True) (D1 h0 _)
  generalize hAe : va_A [(h0, .inr (5, [.null, .null, .null, .null, .null, .null, .int 0]))] s.heap.size = A at hD ⊢
  have hA : ∀ q : Nat, s.heap.size ≤ q → A q := fun q h => by rw [← hAe]; exact Or.inr h
  have hS : va_S A s.heap s.heap [] := va_S.rf
  have hl := lv_entry ([.ref h0]) (n := 1) (Nat.le_of_ble_eq_true rfl)
  rw [lg_entry_eq]
  generalize (lg_sl ([.ref h0]) ++ List.replicate (1 - (lg_sl ([.ref h0])).length) Slot.unset).toArray = ls at hl ⊢
  have hl : lv_has ls 1 [(0, .ref h0)] := hl
  refine lv_aload_n hx hb dX5_init_0 rfl (lv_at hl 0 rfl) ?_
  refine W.objInit hx hb hown (hts _ wkX5_3) (hts _ w_oin) (hts _ w_ocd) rfl (by rw [hml]; exact hl.1) rfl dX5_init_1 (Nat.le_of_ble_eq_true rfl) (Nat.le_of_ble_eq_true rfl) ?_
  refine W.eq (g2 := F0 m 4 ls []) rfl ?_
  refine lv_aload_n hx hb dX5_init_4 rfl (lv_at hl 0 rfl) ?_
  refine lv_bipush (v := 12) hx hb dX5_init_5 (by decide) ?_
  refine ct_newI hx hb (hts _ w_arrI) hK.1 hP hD hS hA 12 (by decide) (by decide) (by decide) (Nat.le_of_ble_eq_true rfl) (Nat.le_of_ble_eq_true rfl) dX5_init_7 (fun q7 H hP hD hS => ?_)
  have hP : va_P D vwCl ((h0, .inr (5, [.null, .null, .null, .null, .null, .null, .int 0])) :: ([] ++ [(q7, .inl (cI, 12, .inl (fun _ => 0)))])) H := hP
  have hD : va_D A ((h0, .inr (5, [.null, .null, .null, .null, .null, .null, .int 0])) :: ([] ++ [(q7, .inl (cI, 12, .inl (fun _ => 0)))])) := hD
  refine va_putF (D := D) (ci := 5) (v := .ref q7) (ty := .array .int) (C := RX5) (T := TX5) (N := 7) hx hb hts inX5 tyX5 tyX5_ok nmX5 hown hK.1 hP hD hS 0 rfl rfl 0 (by decide) (hts _ wfX5_9) (fun _ h9 => h9) rfl hin rfl (by decide +kernel) rfl rfl (Nat.le_of_ble_eq_true rfl) dX5_init_9 (fun H locs hP hD hS => ?_)
  have hP : va_P D vwCl ((h0, .inr (5, [.ref q7, .null, .null, .null, .null, .null, .int 0])) :: ([] ++ [(q7, .inl (cI, 12, .inl (fun _ => 0)))])) H := hP
  have hD : va_D A ((h0, .inr (5, [.ref q7, .null, .null, .null, .null, .null, .int 0])) :: ([] ++ [(q7, .inl (cI, 12, .inl (fun _ => 0)))])) := hD
  refine lv_aload_n hx hb dX5_init_12 rfl (lv_at hl 0 rfl) ?_
  refine lv_bipush (v := 12) hx hb dX5_init_13 (by decide) ?_
  refine ct_newI hx hb (hts _ w_arrI) hK.1 hP hD hS hA 12 (by decide) (by decide) (by decide) (Nat.le_of_ble_eq_true rfl) (Nat.le_of_ble_eq_true rfl) dX5_init_15 (fun q15 H hP hD hS => ?_)
  have hP : va_P D vwCl ((h0, .inr (5, [.ref q7, .null, .null, .null, .null, .null, .int 0])) :: (([] ++ [(q7, .inl (cI, 12, .inl (fun _ => 0)))]) ++ [(q15, .inl (cI, 12, .inl (fun _ => 0)))])) H := hP
  have hD : va_D A ((h0, .inr (5, [.ref q7, .null, .null, .null, .null, .null, .int 0])) :: (([] ++ [(q7, .inl (cI, 12, .inl (fun _ => 0)))]) ++ [(q15, .inl (cI, 12, .inl (fun _ => 0)))])) := hD
  refine va_putF (D := D) (ci := 5) (v := .ref q15) (ty := .array .int) (C := RX5) (T := TX5) (N := 7) hx hb hts inX5 tyX5 tyX5_ok nmX5 hown hK.1 hP hD hS 0 rfl rfl 1 (by decide) (hts _ wfX5_15) (fun _ h9 => h9) rfl hin rfl (by decide +kernel) rfl rfl (Nat.le_of_ble_eq_true rfl) dX5_init_17 (fun H locs hP hD hS => ?_)
  have hP : va_P D vwCl ((h0, .inr (5, [.ref q7, .ref q15, .null, .null, .null, .null, .int 0])) :: (([] ++ [(q7, .inl (cI, 12, .inl (fun _ => 0)))]) ++ [(q15, .inl (cI, 12, .inl (fun _ => 0)))])) H := hP
  have hD : va_D A ((h0, .inr (5, [.ref q7, .ref q15, .null, .null, .null, .null, .int 0])) :: (([] ++ [(q7, .inl (cI, 12, .inl (fun _ => 0)))]) ++ [(q15, .inl (cI, 12, .inl (fun _ => 0)))])) := hD
  refine lv_aload_n hx hb dX5_init_20 rfl (lv_at hl 0 rfl) ?_
  refine lv_bipush (v := 12) hx hb dX5_init_21 (by decide) ?_
  refine ct_newI hx hb (hts _ w_arrI) hK.1 hP hD hS hA 12 (by decide) (by decide) (by decide) (Nat.le_of_ble_eq_true rfl) (Nat.le_of_ble_eq_true rfl) dX5_init_23 (fun q23 H hP hD hS => ?_)
  have hP : va_P D vwCl ((h0, .inr (5, [.ref q7, .ref q15, .null, .null, .null, .null, .int 0])) :: ((([] ++ [(q7, .inl (cI, 12, .inl (fun _ => 0)))]) ++ [(q15, .inl (cI, 12, .inl (fun _ => 0)))]) ++ [(q23, .inl (cI, 12, .inl (fun _ => 0)))])) H := hP
  have hD : va_D A ((h0, .inr (5, [.ref q7, .ref q15, .null, .null, .null, .null, .int 0])) :: ((([] ++ [(q7, .inl (cI, 12, .inl (fun _ => 0)))]) ++ [(q15, .inl (cI, 12, .inl (fun _ => 0)))]) ++ [(q23, .inl (cI, 12, .inl (fun _ => 0)))])) := hD
  refine va_putF (D := D) (ci := 5) (v := .ref q23) (ty := .array .int) (C := RX5) (T := TX5) (N := 7) hx hb hts inX5 tyX5 tyX5_ok nmX5 hown hK.1 hP hD hS 0 rfl rfl 2 (by decide) (hts _ wfX5_18) (fun _ h9 => h9) rfl hin rfl (by decide +kernel) rfl rfl (Nat.le_of_ble_eq_true rfl) dX5_init_25 (fun H locs hP hD hS => ?_)
  have hP : va_P D vwCl ((h0, .inr (5, [.ref q7, .ref q15, .ref q23, .null, .null, .null, .int 0])) :: ((([] ++ [(q7, .inl (cI, 12, .inl (fun _ => 0)))]) ++ [(q15, .inl (cI, 12, .inl (fun _ => 0)))]) ++ [(q23, .inl (cI, 12, .inl (fun _ => 0)))])) H := hP
  have hD : va_D A ((h0, .inr (5, [.ref q7, .ref q15, .ref q23, .null, .null, .null, .int 0])) :: ((([] ++ [(q7, .inl (cI, 12, .inl (fun _ => 0)))]) ++ [(q15, .inl (cI, 12, .inl (fun _ => 0)))]) ++ [(q23, .inl (cI, 12, .inl (fun _ => 0)))])) := hD
  refine lv_aload_n hx hb dX5_init_28 rfl (lv_at hl 0 rfl) ?_
  refine lv_bipush (v := 12) hx hb dX5_init_29 (by decide) ?_
  refine ct_newI hx hb (hts _ w_arrI) hK.1 hP hD hS hA 12 (by decide) (by decide) (by decide) (Nat.le_of_ble_eq_true rfl) (Nat.le_of_ble_eq_true rfl) dX5_init_31 (fun q31 H hP hD hS => ?_)
  have hP : va_P D vwCl ((h0, .inr (5, [.ref q7, .ref q15, .ref q23, .null, .null, .null, .int 0])) :: (((([] ++ [(q7, .inl (cI, 12, .inl (fun _ => 0)))]) ++ [(q15, .inl (cI, 12, .inl (fun _ => 0)))]) ++ [(q23, .inl (cI, 12, .inl (fun _ => 0)))]) ++ [(q31, .inl (cI, 12, .inl (fun _ => 0)))])) H := hP
  have hD : va_D A ((h0, .inr (5, [.ref q7, .ref q15, .ref q23, .null, .null, .null, .int 0])) :: (((([] ++ [(q7, .inl (cI, 12, .inl (fun _ => 0)))]) ++ [(q15, .inl (cI, 12, .inl (fun _ => 0)))]) ++ [(q23, .inl (cI, 12, .inl (fun _ => 0)))]) ++ [(q31, .inl (cI, 12, .inl (fun _ => 0)))])) := hD
  refine va_putF (D := D) (ci := 5) (v := .ref q31) (ty := .array .int) (C := RX5) (T := TX5) (N := 7) hx hb hts inX5 tyX5 tyX5_ok nmX5 hown hK.1 hP hD hS 0 rfl rfl 3 (by decide) (hts _ wfX5_21) (fun _ h9 => h9) rfl hin rfl (by decide +kernel) rfl rfl (Nat.le_of_ble_eq_true rfl) dX5_init_33 (fun H locs hP hD hS => ?_)
  have hP : va_P D vwCl ((h0, .inr (5, [.ref q7, .ref q15, .ref q23, .ref q31, .null, .null, .int 0])) :: (((([] ++ [(q7, .inl (cI, 12, .inl (fun _ => 0)))]) ++ [(q15, .inl (cI, 12, .inl (fun _ => 0)))]) ++ [(q23, .inl (cI, 12, .inl (fun _ => 0)))]) ++ [(q31, .inl (cI, 12, .inl (fun _ => 0)))])) H := hP
  have hD : va_D A ((h0, .inr (5, [.ref q7, .ref q15, .ref q23, .ref q31, .null, .null, .int 0])) :: (((([] ++ [(q7, .inl (cI, 12, .inl (fun _ => 0)))]) ++ [(q15, .inl (cI, 12, .inl (fun _ => 0)))]) ++ [(q23, .inl (cI, 12, .inl (fun _ => 0)))]) ++ [(q31, .inl (cI, 12, .inl (fun _ => 0)))])) := hD
  refine lv_aload_n hx hb dX5_init_36 rfl (lv_at hl 0 rfl) ?_
  refine lv_bipush (v := 12) hx hb dX5_init_37 (by decide) ?_
  refine ct_newI hx hb (hts _ w_arrI) hK.1 hP hD hS hA 12 (by decide) (by decide) (by decide) (Nat.le_of_ble_eq_true rfl) (Nat.le_of_ble_eq_true rfl) dX5_init_39 (fun q39 H hP hD hS => ?_)
  have hP : va_P D vwCl ((h0, .inr (5, [.ref q7, .ref q15, .ref q23, .ref q31, .null, .null, .int 0])) :: ((((([] ++ [(q7, .inl (cI, 12, .inl (fun _ => 0)))]) ++ [(q15, .inl (cI, 12, .inl (fun _ => 0)))]) ++ [(q23, .inl (cI, 12, .inl (fun _ => 0)))]) ++ [(q31, .inl (cI, 12, .inl (fun _ => 0)))]) ++ [(q39, .inl (cI, 12, .inl (fun _ => 0)))])) H := hP
  have hD : va_D A ((h0, .inr (5, [.ref q7, .ref q15, .ref q23, .ref q31, .null, .null, .int 0])) :: ((((([] ++ [(q7, .inl (cI, 12, .inl (fun _ => 0)))]) ++ [(q15, .inl (cI, 12, .inl (fun _ => 0)))]) ++ [(q23, .inl (cI, 12, .inl (fun _ => 0)))]) ++ [(q31, .inl (cI, 12, .inl (fun _ => 0)))]) ++ [(q39, .inl (cI, 12, .inl (fun _ => 0)))])) := hD
  refine va_putF (D := D) (ci := 5) (v := .ref q39) (ty := .array .int) (C := RX5) (T := TX5) (N := 7) hx hb hts inX5 tyX5 tyX5_ok nmX5 hown hK.1 hP hD hS 0 rfl rfl 4 (by decide) (hts _ wfX5_24) (fun _ h9 => h9) rfl hin rfl (by decide +kernel) rfl rfl (Nat.le_of_ble_eq_true rfl) dX5_init_41 (fun H locs hP hD hS => ?_)
  have hP : va_P D vwCl ((h0, .inr (5, [.ref q7, .ref q15, .ref q23, .ref q31, .ref q39, .null, .int 0])) :: ((((([] ++ [(q7, .inl (cI, 12, .inl (fun _ => 0)))]) ++ [(q15, .inl (cI, 12, .inl (fun _ => 0)))]) ++ [(q23, .inl (cI, 12, .inl (fun _ => 0)))]) ++ [(q31, .inl (cI, 12, .inl (fun _ => 0)))]) ++ [(q39, .inl (cI, 12, .inl (fun _ => 0)))])) H := hP
  have hD : va_D A ((h0, .inr (5, [.ref q7, .ref q15, .ref q23, .ref q31, .ref q39, .null, .int 0])) :: ((((([] ++ [(q7, .inl (cI, 12, .inl (fun _ => 0)))]) ++ [(q15, .inl (cI, 12, .inl (fun _ => 0)))]) ++ [(q23, .inl (cI, 12, .inl (fun _ => 0)))]) ++ [(q31, .inl (cI, 12, .inl (fun _ => 0)))]) ++ [(q39, .inl (cI, 12, .inl (fun _ => 0)))])) := hD
  refine lv_aload_n hx hb dX5_init_44 rfl (lv_at hl 0 rfl) ?_
  refine lv_bipush (v := 12) hx hb dX5_init_45 (by decide) ?_
  refine ct_newI hx hb (hts _ w_arrI) hK.1 hP hD hS hA 12 (by decide) (by decide) (by decide) (Nat.le_of_ble_eq_true rfl) (Nat.le_of_ble_eq_true rfl) dX5_init_47 (fun q47 H hP hD hS => ?_)
  have hP : va_P D vwCl ((h0, .inr (5, [.ref q7, .ref q15, .ref q23, .ref q31, .ref q39, .null, .int 0])) :: (((((([] ++ [(q7, .inl (cI, 12, .inl (fun _ => 0)))]) ++ [(q15, .inl (cI, 12, .inl (fun _ => 0)))]) ++ [(q23, .inl (cI, 12, .inl (fun _ => 0)))]) ++ [(q31, .inl (cI, 12, .inl (fun _ => 0)))]) ++ [(q39, .inl (cI, 12, .inl (fun _ => 0)))]) ++ [(q47, .inl (cI, 12, .inl (fun _ => 0)))])) H := hP
  have hD : va_D A ((h0, .inr (5, [.ref q7, .ref q15, .ref q23, .ref q31, .ref q39, .null, .int 0])) :: (((((([] ++ [(q7, .inl (cI, 12, .inl (fun _ => 0)))]) ++ [(q15, .inl (cI, 12, .inl (fun _ => 0)))]) ++ [(q23, .inl (cI, 12, .inl (fun _ => 0)))]) ++ [(q31, .inl (cI, 12, .inl (fun _ => 0)))]) ++ [(q39, .inl (cI, 12, .inl (fun _ => 0)))]) ++ [(q47, .inl (cI, 12, .inl (fun _ => 0)))])) := hD
  refine va_putF (D := D) (ci := 5) (v := .ref q47) (ty := .array .int) (C := RX5) (T := TX5) (N := 7) hx hb hts inX5 tyX5 tyX5_ok nmX5 hown hK.1 hP hD hS 0 rfl rfl 5 (by decide) (hts _ wfX5_27) (fun _ h9 => h9) rfl hin rfl (by decide +kernel) rfl rfl (Nat.le_of_ble_eq_true rfl) dX5_init_49 (fun H locs hP hD hS => ?_)
  have hP : va_P D vwCl ((h0, .inr (5, [.ref q7, .ref q15, .ref q23, .ref q31, .ref q39, .ref q47, .int 0])) :: (((((([] ++ [(q7, .inl (cI, 12, .inl (fun _ => 0)))]) ++ [(q15, .inl (cI, 12, .inl (fun _ => 0)))]) ++ [(q23, .inl (cI, 12, .inl (fun _ => 0)))]) ++ [(q31, .inl (cI, 12, .inl (fun _ => 0)))]) ++ [(q39, .inl (cI, 12, .inl (fun _ => 0)))]) ++ [(q47, .inl (cI, 12, .inl (fun _ => 0)))])) H := hP
  have hD : va_D A ((h0, .inr (5, [.ref q7, .ref q15, .ref q23, .ref q31, .ref q39, .ref q47, .int 0])) :: (((((([] ++ [(q7, .inl (cI, 12, .inl (fun _ => 0)))]) ++ [(q15, .inl (cI, 12, .inl (fun _ => 0)))]) ++ [(q23, .inl (cI, 12, .inl (fun _ => 0)))]) ++ [(q31, .inl (cI, 12, .inl (fun _ => 0)))]) ++ [(q39, .inl (cI, 12, .inl (fun _ => 0)))]) ++ [(q47, .inl (cI, 12, .inl (fun _ => 0)))])) := hD
  refine lv_aload_n hx hb dX5_init_52 rfl (lv_at hl 0 rfl) ?_
  refine lv_iconst (v := 0) hx hb dX5_init_53 (by decide) ?_
  refine va_put (D := D) (ci := 5) (v := .int 0) (ty := .int) (C := RX5) (T := TX5) (N := 7) hx hb hts inX5 tyX5 tyX5_ok nmX5 hown hK.1 hP hD hS 0 rfl rfl 6 (by decide) (hts _ wfX5_30) (fun _ h9 => h9) rfl (by decide +kernel) rfl rfl (Nat.le_of_ble_eq_true rfl) dX5_init_54 (fun H locs hP hD hS => ?_)
  have hP : va_P D vwCl ((h0, .inr (5, [.ref q7, .ref q15, .ref q23, .ref q31, .ref q39, .ref q47, .int 0])) :: (((((([] ++ [(q7, .inl (cI, 12, .inl (fun _ => 0)))]) ++ [(q15, .inl (cI, 12, .inl (fun _ => 0)))]) ++ [(q23, .inl (cI, 12, .inl (fun _ => 0)))]) ++ [(q31, .inl (cI, 12, .inl (fun _ => 0)))]) ++ [(q39, .inl (cI, 12, .inl (fun _ => 0)))]) ++ [(q47, .inl (cI, 12, .inl (fun _ => 0)))])) H := hP
  have hD : va_D A ((h0, .inr (5, [.ref q7, .ref q15, .ref q23, .ref q31, .ref q39, .ref q47, .int 0])) :: (((((([] ++ [(q7, .inl (cI, 12, .inl (fun _ => 0)))]) ++ [(q15, .inl (cI, 12, .inl (fun _ => 0)))]) ++ [(q23, .inl (cI, 12, .inl (fun _ => 0)))]) ++ [(q31, .inl (cI, 12, .inl (fun _ => 0)))]) ++ [(q39, .inl (cI, 12, .inl (fun _ => 0)))]) ++ [(q47, .inl (cI, 12, .inl (fun _ => 0)))])) := hD
  refine W.widen (k := 6) (n := 72) (Nat.le_refl _) (Nat.le_refl _) ?_
  exact W.vret hx hb hr (fun t ht hW => ⟨⟨(q7, q15, q23, q31, q39, q47), rfl, trivial, by rw [ht]; exact hP, hD⟩, hS.F ht⟩) hS.2.2 dX5_init_57
abbrev cX8 (cI cL : ClassId) (h0 : Nat) (u : (Nat × Nat × Nat × Nat × Nat)) : va_W := (h0, .inr (8, [.ref (u.1), .ref (u.2.1), .ref (u.2.2.1), .ref (u.2.2.2.1), .ref (u.2.2.2.2), .int 0])) :: ((((([] ++ [((u.1), .inl (cI, 12, .inl (fun _ => 0)))]) ++ [((u.2.1), .inl (cI, 12, .inl (fun _ => 0)))]) ++ [((u.2.2.1), .inl (cI, 12, .inl (fun _ => 0)))]) ++ [((u.2.2.2.1), .inl (cI, 12, .inl (fun _ => 0)))]) ++ [((u.2.2.2.2), .inl (cI, 12, .inl (fun _ => 0)))])
set_option maxRecDepth 100000 in
set_option maxHeartbeats 4000000 in
theorem k_X8 : CT mX8_init 1 5 60 8 [.null, .null, .null, .null, .null, .int 0] cX8 := by
  intro l D cI cL h0 sz
  refine Met.ofW (cc := cX8_init) (maxL := 1) (ret := none) (by decide) rfl ?_
  intro p e s m args below meth c s₁ B hml hv
  obtain ⟨rfl, hsz, hP, hK⟩ := hv
  have hx := B.exec
  have hb := B.bytes
  have hr := B.returns
  have hts0 := atoms_spec (ws := wsM mX8_init) B.pre
  have hts : ∀ w ∈ gw, w.before ([Value.ref h0] : List Value).toArray s = true := fun w hw => hts0 w (List.mem_cons_of_mem _ hw)
  have hown : s.vm.findClass RX8 = some m.cls := findClass_of_methodNamed B.named
  have hlocks := B.notSynchronized
  have hin : meth.name = "<init>" := (name_of_methodNamed B.named B.method).1
  subst hsz
  have hD : va_D (va_A [(h0, .inr (8, [.null, .null, .null, .null, .null, .int 0]))] s.heap.size) [(h0, .inr (8, [.null, .null, .null, .null, .null, .int 0]))] := va_D.self (A := fun _ => True) (D1 h0 _)
  generalize hAe : va_A [(h0, .inr (8, [.null, .null, .null, .null, .null, .int 0]))] s.heap.size = A at hD ⊢
  have hA : ∀ q : Nat, s.heap.size ≤ q → A q := fun q h => by rw [← hAe]; exact Or.inr h
  have hS : va_S A s.heap s.heap [] := va_S.rf
  have hl := lv_entry ([.ref h0]) (n := 1) (Nat.le_of_ble_eq_true rfl)
  rw [lg_entry_eq]
  generalize (lg_sl ([.ref h0]) ++ List.replicate (1 - (lg_sl ([.ref h0])).length) Slot.unset).toArray = ls at hl ⊢
  have hl : lv_has ls 1 [(0, .ref h0)] := hl
  refine lv_aload_n hx hb dX8_init_0 rfl (lv_at hl 0 rfl) ?_
  refine W.objInit hx hb hown (hts _ wkX8_3) (hts _ w_oin) (hts _ w_ocd) rfl (by rw [hml]; exact hl.1) rfl dX8_init_1 (Nat.le_of_ble_eq_true rfl) (Nat.le_of_ble_eq_true rfl) ?_
  refine W.eq (g2 := F0 m 4 ls []) rfl ?_
  refine lv_aload_n hx hb dX8_init_4 rfl (lv_at hl 0 rfl) ?_
  refine lv_bipush (v := 12) hx hb dX8_init_5 (by decide) ?_
  refine ct_newI hx hb (hts _ w_arrI) hK.1 hP hD hS hA 12 (by decide) (by decide) (by decide) (Nat.le_of_ble_eq_true rfl) (Nat.le_of_ble_eq_true rfl) dX8_init_7 (fun q7 H hP hD hS => ?_)
  have hP : va_P D vwCl ((h0, .inr (8, [.null, .null, .null, .null, .null, .int 0])) :: ([] ++ [(q7, .inl (cI, 12, .inl (fun _ => 0)))])) H := hP
  have hD : va_D A ((h0, .inr (8, [.null, .null, .null, .null, .null, .int 0])) :: ([] ++ [(q7, .inl (cI, 12, .inl (fun _ => 0)))])) := hD
  refine va_putF (D := D) (ci := 8) (v := .ref q7) (ty := .array .int) (C := RX8) (T := TX8) (N := 6) hx hb hts inX8 tyX8 tyX8_ok nmX8 hown hK.1 hP hD hS 0 rfl rfl 0 (by decide) (hts _ wfX8_9) (fun _ h9 => h9) rfl hin rfl (by decide +kernel) rfl rfl (Nat.le_of_ble_eq_true rfl) dX8_init_9 (fun H locs hP hD hS => ?_)
  have hP : va_P D vwCl ((h0, .inr (8, [.ref q7, .null, .null, .null, .null, .int 0])) :: ([] ++ [(q7, .inl (cI, 12, .inl (fun _ => 0)))])) H := hP
  have hD : va_D A ((h0, .inr (8, [.ref q7, .null, .null, .null, .null, .int 0])) :: ([] ++ [(q7, .inl (cI, 12, .inl (fun _ => 0)))])) := hD
  refine lv_aload_n hx hb dX8_init_12 rfl (lv_at hl 0 rfl) ?_
  refine lv_bipush (v := 12) hx hb dX8_init_13 (by decide) ?_
  refine ct_newI hx hb (hts _ w_arrI) hK.1 hP hD hS hA 12 (by decide) (by decide) (by decide) (Nat.le_of_ble_eq_true rfl) (Nat.le_of_ble_eq_true rfl) dX8_init_15 (fun q15 H hP hD hS => ?_)
  have hP : va_P D vwCl ((h0, .inr (8, [.ref q7, .null, .null, .null, .null, .int 0])) :: (([] ++ [(q7, .inl (cI, 12, .inl (fun _ => 0)))]) ++ [(q15, .inl (cI, 12, .inl (fun _ => 0)))])) H := hP
  have hD : va_D A ((h0, .inr (8, [.ref q7, .null, .null, .null, .null, .int 0])) :: (([] ++ [(q7, .inl (cI, 12, .inl (fun _ => 0)))]) ++ [(q15, .inl (cI, 12, .inl (fun _ => 0)))])) := hD
  refine va_putF (D := D) (ci := 8) (v := .ref q15) (ty := .array .int) (C := RX8) (T := TX8) (N := 6) hx hb hts inX8 tyX8 tyX8_ok nmX8 hown hK.1 hP hD hS 0 rfl rfl 1 (by decide) (hts _ wfX8_15) (fun _ h9 => h9) rfl hin rfl (by decide +kernel) rfl rfl (Nat.le_of_ble_eq_true rfl) dX8_init_17 (fun H locs hP hD hS => ?_)
  have hP : va_P D vwCl ((h0, .inr (8, [.ref q7, .ref q15, .null, .null, .null, .int 0])) :: (([] ++ [(q7, .inl (cI, 12, .inl (fun _ => 0)))]) ++ [(q15, .inl (cI, 12, .inl (fun _ => 0)))])) H := hP
  have hD : va_D A ((h0, .inr (8, [.ref q7, .ref q15, .null, .null, .null, .int 0])) :: (([] ++ [(q7, .inl (cI, 12, .inl (fun _ => 0)))]) ++ [(q15, .inl (cI, 12, .inl (fun _ => 0)))])) := hD
  refine lv_aload_n hx hb dX8_init_20 rfl (lv_at hl 0 rfl) ?_
  refine lv_bipush (v := 12) hx hb dX8_init_21 (by decide) ?_
  refine ct_newI hx hb (hts _ w_arrI) hK.1 hP hD hS hA 12 (by decide) (by decide) (by decide) (Nat.le_of_ble_eq_true rfl) (Nat.le_of_ble_eq_true rfl) dX8_init_23 (fun q23 H hP hD hS => ?_)
  have hP : va_P D vwCl ((h0, .inr (8, [.ref q7, .ref q15, .null, .null, .null, .int 0])) :: ((([] ++ [(q7, .inl (cI, 12, .inl (fun _ => 0)))]) ++ [(q15, .inl (cI, 12, .inl (fun _ => 0)))]) ++ [(q23, .inl (cI, 12, .inl (fun _ => 0)))])) H := hP
  have hD : va_D A ((h0, .inr (8, [.ref q7, .ref q15, .null, .null, .null, .int 0])) :: ((([] ++ [(q7, .inl (cI, 12, .inl (fun _ => 0)))]) ++ [(q15, .inl (cI, 12, .inl (fun _ => 0)))]) ++ [(q23, .inl (cI, 12, .inl (fun _ => 0)))])) := hD
  refine va_putF (D := D) (ci := 8) (v := .ref q23) (ty := .array .int) (C := RX8) (T := TX8) (N := 6) hx hb hts inX8 tyX8 tyX8_ok nmX8 hown hK.1 hP hD hS 0 rfl rfl 2 (by decide) (hts _ wfX8_18) (fun _ h9 => h9) rfl hin rfl (by decide +kernel) rfl rfl (Nat.le_of_ble_eq_true rfl) dX8_init_25 (fun H locs hP hD hS => ?_)
  have hP : va_P D vwCl ((h0, .inr (8, [.ref q7, .ref q15, .ref q23, .null, .null, .int 0])) :: ((([] ++ [(q7, .inl (cI, 12, .inl (fun _ => 0)))]) ++ [(q15, .inl (cI, 12, .inl (fun _ => 0)))]) ++ [(q23, .inl (cI, 12, .inl (fun _ => 0)))])) H := hP
  have hD : va_D A ((h0, .inr (8, [.ref q7, .ref q15, .ref q23, .null, .null, .int 0])) :: ((([] ++ [(q7, .inl (cI, 12, .inl (fun _ => 0)))]) ++ [(q15, .inl (cI, 12, .inl (fun _ => 0)))]) ++ [(q23, .inl (cI, 12, .inl (fun _ => 0)))])) := hD
  refine lv_aload_n hx hb dX8_init_28 rfl (lv_at hl 0 rfl) ?_
  refine lv_bipush (v := 12) hx hb dX8_init_29 (by decide) ?_
  refine ct_newI hx hb (hts _ w_arrI) hK.1 hP hD hS hA 12 (by decide) (by decide) (by decide) (Nat.le_of_ble_eq_true rfl) (Nat.le_of_ble_eq_true rfl) dX8_init_31 (fun q31 H hP hD hS => ?_)
  have hP : va_P D vwCl ((h0, .inr (8, [.ref q7, .ref q15, .ref q23, .null, .null, .int 0])) :: (((([] ++ [(q7, .inl (cI, 12, .inl (fun _ => 0)))]) ++ [(q15, .inl (cI, 12, .inl (fun _ => 0)))]) ++ [(q23, .inl (cI, 12, .inl (fun _ => 0)))]) ++ [(q31, .inl (cI, 12, .inl (fun _ => 0)))])) H := hP
  have hD : va_D A ((h0, .inr (8, [.ref q7, .ref q15, .ref q23, .null, .null, .int 0])) :: (((([] ++ [(q7, .inl (cI, 12, .inl (fun _ => 0)))]) ++ [(q15, .inl (cI, 12, .inl (fun _ => 0)))]) ++ [(q23, .inl (cI, 12, .inl (fun _ => 0)))]) ++ [(q31, .inl (cI, 12, .inl (fun _ => 0)))])) := hD
  refine va_putF (D := D) (ci := 8) (v := .ref q31) (ty := .array .int) (C := RX8) (T := TX8) (N := 6) hx hb hts inX8 tyX8 tyX8_ok nmX8 hown hK.1 hP hD hS 0 rfl rfl 3 (by decide) (hts _ wfX8_21) (fun _ h9 => h9) rfl hin rfl (by decide +kernel) rfl rfl (Nat.le_of_ble_eq_true rfl) dX8_init_33 (fun H locs hP hD hS => ?_)
  have hP : va_P D vwCl ((h0, .inr (8, [.ref q7, .ref q15, .ref q23, .ref q31, .null, .int 0])) :: (((([] ++ [(q7, .inl (cI, 12, .inl (fun _ => 0)))]) ++ [(q15, .inl (cI, 12, .inl (fun _ => 0)))]) ++ [(q23, .inl (cI, 12, .inl (fun _ => 0)))]) ++ [(q31, .inl (cI, 12, .inl (fun _ => 0)))])) H := hP
  have hD : va_D A ((h0, .inr (8, [.ref q7, .ref q15, .ref q23, .ref q31, .null, .int 0])) :: (((([] ++ [(q7, .inl (cI, 12, .inl (fun _ => 0)))]) ++ [(q15, .inl (cI, 12, .inl (fun _ => 0)))]) ++ [(q23, .inl (cI, 12, .inl (fun _ => 0)))]) ++ [(q31, .inl (cI, 12, .inl (fun _ => 0)))])) := hD
  refine lv_aload_n hx hb dX8_init_36 rfl (lv_at hl 0 rfl) ?_
  refine lv_bipush (v := 12) hx hb dX8_init_37 (by decide) ?_
  refine ct_newI hx hb (hts _ w_arrI) hK.1 hP hD hS hA 12 (by decide) (by decide) (by decide) (Nat.le_of_ble_eq_true rfl) (Nat.le_of_ble_eq_true rfl) dX8_init_39 (fun q39 H hP hD hS => ?_)
  have hP : va_P D vwCl ((h0, .inr (8, [.ref q7, .ref q15, .ref q23, .ref q31, .null, .int 0])) :: ((((([] ++ [(q7, .inl (cI, 12, .inl (fun _ => 0)))]) ++ [(q15, .inl (cI, 12, .inl (fun _ => 0)))]) ++ [(q23, .inl (cI, 12, .inl (fun _ => 0)))]) ++ [(q31, .inl (cI, 12, .inl (fun _ => 0)))]) ++ [(q39, .inl (cI, 12, .inl (fun _ => 0)))])) H := hP
  have hD : va_D A ((h0, .inr (8, [.ref q7, .ref q15, .ref q23, .ref q31, .null, .int 0])) :: ((((([] ++ [(q7, .inl (cI, 12, .inl (fun _ => 0)))]) ++ [(q15, .inl (cI, 12, .inl (fun _ => 0)))]) ++ [(q23, .inl (cI, 12, .inl (fun _ => 0)))]) ++ [(q31, .inl (cI, 12, .inl (fun _ => 0)))]) ++ [(q39, .inl (cI, 12, .inl (fun _ => 0)))])) := hD
  refine va_putF (D := D) (ci := 8) (v := .ref q39) (ty := .array .int) (C := RX8) (T := TX8) (N := 6) hx hb hts inX8 tyX8 tyX8_ok nmX8 hown hK.1 hP hD hS 0 rfl rfl 4 (by decide) (hts _ wfX8_24) (fun _ h9 => h9) rfl hin rfl (by decide +kernel) rfl rfl (Nat.le_of_ble_eq_true rfl) dX8_init_41 (fun H locs hP hD hS => ?_)
  have hP : va_P D vwCl ((h0, .inr (8, [.ref q7, .ref q15, .ref q23, .ref q31, .ref q39, .int 0])) :: ((((([] ++ [(q7, .inl (cI, 12, .inl (fun _ => 0)))]) ++ [(q15, .inl (cI, 12, .inl (fun _ => 0)))]) ++ [(q23, .inl (cI, 12, .inl (fun _ => 0)))]) ++ [(q31, .inl (cI, 12, .inl (fun _ => 0)))]) ++ [(q39, .inl (cI, 12, .inl (fun _ => 0)))])) H := hP
  have hD : va_D A ((h0, .inr (8, [.ref q7, .ref q15, .ref q23, .ref q31, .ref q39, .int 0])) :: ((((([] ++ [(q7, .inl (cI, 12, .inl (fun _ => 0)))]) ++ [(q15, .inl (cI, 12, .inl (fun _ => 0)))]) ++ [(q23, .inl (cI, 12, .inl (fun _ => 0)))]) ++ [(q31, .inl (cI, 12, .inl (fun _ => 0)))]) ++ [(q39, .inl (cI, 12, .inl (fun _ => 0)))])) := hD
  refine lv_aload_n hx hb dX8_init_44 rfl (lv_at hl 0 rfl) ?_
  refine lv_iconst (v := 0) hx hb dX8_init_45 (by decide) ?_
  refine va_put (D := D) (ci := 8) (v := .int 0) (ty := .int) (C := RX8) (T := TX8) (N := 6) hx hb hts inX8 tyX8 tyX8_ok nmX8 hown hK.1 hP hD hS 0 rfl rfl 5 (by decide) (hts _ wfX8_27) (fun _ h9 => h9) rfl (by decide +kernel) rfl rfl (Nat.le_of_ble_eq_true rfl) dX8_init_46 (fun H locs hP hD hS => ?_)
  have hP : va_P D vwCl ((h0, .inr (8, [.ref q7, .ref q15, .ref q23, .ref q31, .ref q39, .int 0])) :: ((((([] ++ [(q7, .inl (cI, 12, .inl (fun _ => 0)))]) ++ [(q15, .inl (cI, 12, .inl (fun _ => 0)))]) ++ [(q23, .inl (cI, 12, .inl (fun _ => 0)))]) ++ [(q31, .inl (cI, 12, .inl (fun _ => 0)))]) ++ [(q39, .inl (cI, 12, .inl (fun _ => 0)))])) H := hP
  have hD : va_D A ((h0, .inr (8, [.ref q7, .ref q15, .ref q23, .ref q31, .ref q39, .int 0])) :: ((((([] ++ [(q7, .inl (cI, 12, .inl (fun _ => 0)))]) ++ [(q15, .inl (cI, 12, .inl (fun _ => 0)))]) ++ [(q23, .inl (cI, 12, .inl (fun _ => 0)))]) ++ [(q31, .inl (cI, 12, .inl (fun _ => 0)))]) ++ [(q39, .inl (cI, 12, .inl (fun _ => 0)))])) := hD
  refine W.widen (k := 5) (n := 60) (Nat.le_refl _) (Nat.le_refl _) ?_
  exact W.vret hx hb hr (fun t ht hW => ⟨⟨(q7, q15, q23, q31, q39), rfl, trivial, by rw [ht]; exact hP, hD⟩, hS.F ht⟩) hS.2.2 dX8_init_49
abbrev cX0 (cI cL : ClassId) (h0 : Nat) (u : ((Nat × (Nat × Nat × Nat × Nat × Nat × Nat)) × (Nat × (Nat × Nat × Nat × Nat × Nat)) × (Nat × Nat))) : va_W := (h0, .inr (0, [.ref (u.1.1), .ref (u.2.1.1), .ref (u.2.2.1), .int 60, .int 0, .int 0])) :: ((([] ++ cX5 cI cL (u.1.1) (u.1.2)) ++ cX8 cI cL (u.2.1.1) (u.2.1.2)) ++ cX3 cI cL (u.2.2.1) (u.2.2.2))
set_option maxRecDepth 100000 in
set_option maxHeartbeats 4000000 in
theorem k_X0 : CT mX0_init 2 15 159 0 [.null, .null, .null, .int 0, .int 0, .int 0] cX0 := by
  intro l D cI cL h0 sz
  refine Met.ofW (cc := cX0_init) (maxL := 1) (ret := none) (by decide) rfl ?_
  intro p e s m args below meth c s₁ B hml hv
  obtain ⟨rfl, hsz, hP, hK⟩ := hv
  have hx := B.exec
  have hb := B.bytes
  have hr := B.returns
  have hts0 := atoms_spec (ws := wsM mX0_init) B.pre
  have hts : ∀ w ∈ gw, w.before ([Value.ref h0] : List Value).toArray s = true := fun w hw => hts0 w (List.mem_cons_of_mem _ hw)
  have hown : s.vm.findClass RX0 = some m.cls := findClass_of_methodNamed B.named
  have hlocks := B.notSynchronized
  have hin : meth.name = "<init>" := (name_of_methodNamed B.named B.method).1
  subst hsz
  have hD : va_D (va_A [(h0, .inr (0, [.null, .null, .null, .int 0, .int 0, .int 0]))] s.heap.size) [(h0, .inr (0, [.null, .null, .null, .int 0, .int 0, .int 0]))] := va_D.self (A := fun _ => True) (D1 h0 _)
  generalize hAe : va_A [(h0, .inr (0, [.null, .null, .null, .int 0, .int 0, .int 0]))] s.heap.size = A at hD ⊢
  have hA : ∀ q : Nat, s.heap.size ≤ q → A q := fun q h => by rw [← hAe]; exact Or.inr h
  have hS : va_S A s.heap s.heap [] := va_S.rf
  have hl := lv_entry ([.ref h0]) (n := 1) (Nat.le_of_ble_eq_true rfl)
  rw [lg_entry_eq]
  generalize (lg_sl ([.ref h0]) ++ List.replicate (1 - (lg_sl ([.ref h0])).length) Slot.unset).toArray = ls at hl ⊢
  have hl : lv_has ls 1 [(0, .ref h0)] := hl
  refine lv_aload_n hx hb dX0_init_0 rfl (lv_at hl 0 rfl) ?_
  refine W.objInit hx hb hown (hts _ wkX0_3) (hts _ w_oin) (hts _ w_ocd) rfl (by rw [hml]; exact hl.1) rfl dX0_init_1 (Nat.le_of_ble_eq_true rfl) (Nat.le_of_ble_eq_true rfl) ?_
  refine W.eq (g2 := F0 m 4 ls []) rfl ?_
  refine lv_aload_n hx hb dX0_init_4 rfl (lv_at hl 0 rfl) ?_
  refine va_new (ci := 5) (fs := [.null, .null, .null, .null, .null, .null, .int 0]) (C := RX5) (T := TX5) (N := 7) hx hb hts inX5 tyX5 tyX5_ok hown (hts _ wcX0_9) (hts _ wi5) (hts _ wn5) hK.1 hP hD hS hA rfl df5 (Nat.le_of_ble_eq_true rfl) (Nat.le_of_ble_eq_true rfl) dX0_init_5 (fun q5 H hP hD hS => ?_)
  have hP : va_P D vwCl (((h0, .inr (0, [.null, .null, .null, .int 0, .int 0, .int 0])) :: []) ++ [(q5, .inr (5, [.null, .null, .null, .null, .null, .null, .int 0]))]) H := hP
  have hD : va_D A (((h0, .inr (0, [.null, .null, .null, .int 0, .int 0, .int 0])) :: []) ++ [(q5, .inr (5, [.null, .null, .null, .null, .null, .null, .int 0]))]) := hD
  refine lv_dup hx hb dX0_init_8 rfl ?_
  refine ct_call (M := mX0_init) (M' := mX5_init) (wr := (h0, .inr (0, [.null, .null, .null, .int 0, .int 0, .int 0])) :: []) (rest := [.ref q5, .ref h0]) (host := RX9) k_X5 hx hb hml hl.1 hown hts hK hP hD hS hA (List.mem_of_getElem? (i := 1) rfl) wd5 rfl wn5 wm5 rfl (by decide +kernel) ⟨Nat.le_of_ble_eq_true rfl, Nat.le_of_ble_eq_true rfl⟩ ⟨Nat.le_of_ble_eq_true rfl, Nat.le_of_ble_eq_true rfl⟩ (Nat.le_of_ble_eq_true rfl) dX0_init_9 (fun u9 H locs hP hD hS => ?_)
  have hP : va_P D vwCl ((h0, .inr (0, [.null, .null, .null, .int 0, .int 0, .int 0])) :: ([] ++ cX5 cI cL q5 u9)) H := hP
  have hD : va_D A ((h0, .inr (0, [.null, .null, .null, .int 0, .int 0, .int 0])) :: ([] ++ cX5 cI cL q5 u9)) := hD
  refine va_putF (D := D) (ci := 0) (v := .ref q5) (ty := .object "TwentyPhrases$Phrases") (C := RX0) (T := TX0) (N := 6) hx hb hts inX0 tyX0 tyX0_ok nmX0 hown hK.1 hP hD hS 0 rfl rfl 0 (by decide) (hts _ wfX0_12) (fun _ h9 => h9) rfl hin rfl (by decide +kernel) rfl rfl (Nat.le_of_ble_eq_true rfl) dX0_init_12 (fun H locs hP hD hS => ?_)
  have hP : va_P D vwCl ((h0, .inr (0, [.ref q5, .null, .null, .int 0, .int 0, .int 0])) :: ([] ++ cX5 cI cL q5 u9)) H := hP
  have hD : va_D A ((h0, .inr (0, [.ref q5, .null, .null, .int 0, .int 0, .int 0])) :: ([] ++ cX5 cI cL q5 u9)) := hD
  refine lv_aload_n hx hb dX0_init_15 rfl (lv_at hl 0 rfl) ?_
  refine va_new (ci := 8) (fs := [.null, .null, .null, .null, .null, .int 0]) (C := RX8) (T := TX8) (N := 6) hx hb hts inX8 tyX8 tyX8_ok hown (hts _ wcX0_18) (hts _ wi8) (hts _ wn8) hK.1 hP hD hS hA rfl df8 (Nat.le_of_ble_eq_true rfl) (Nat.le_of_ble_eq_true rfl) dX0_init_16 (fun q16 H hP hD hS => ?_)
  have hP : va_P D vwCl (((h0, .inr (0, [.ref q5, .null, .null, .int 0, .int 0, .int 0])) :: ([] ++ cX5 cI cL q5 u9)) ++ [(q16, .inr (8, [.null, .null, .null, .null, .null, .int 0]))]) H := hP
  have hD : va_D A (((h0, .inr (0, [.ref q5, .null, .null, .int 0, .int 0, .int 0])) :: ([] ++ cX5 cI cL q5 u9)) ++ [(q16, .inr (8, [.null, .null, .null, .null, .null, .int 0]))]) := hD
  refine lv_dup hx hb dX0_init_19 rfl ?_
  refine ct_call (M := mX0_init) (M' := mX8_init) (wr := (h0, .inr (0, [.ref q5, .null, .null, .int 0, .int 0, .int 0])) :: ([] ++ cX5 cI cL q5 u9)) (rest := [.ref q16, .ref h0]) (host := RX9) k_X8 hx hb hml hl.1 hown hts hK hP hD hS hA (List.mem_of_getElem? (i := 2) rfl) wd8 rfl wn8 wm8 rfl (by decide +kernel) ⟨Nat.le_of_ble_eq_true rfl, Nat.le_of_ble_eq_true rfl⟩ ⟨Nat.le_of_ble_eq_true rfl, Nat.le_of_ble_eq_true rfl⟩ (Nat.le_of_ble_eq_true rfl) dX0_init_20 (fun u20 H locs hP hD hS => ?_)
  have hP : va_P D vwCl ((h0, .inr (0, [.ref q5, .null, .null, .int 0, .int 0, .int 0])) :: (([] ++ cX5 cI cL q5 u9) ++ cX8 cI cL q16 u20)) H := hP
  have hD : va_D A ((h0, .inr (0, [.ref q5, .null, .null, .int 0, .int 0, .int 0])) :: (([] ++ cX5 cI cL q5 u9) ++ cX8 cI cL q16 u20)) := hD
  refine va_putF (D := D) (ci := 0) (v := .ref q16) (ty := .object "TwentyPhrases$Wants") (C := RX0) (T := TX0) (N := 6) hx hb hts inX0 tyX0 tyX0_ok nmX0 hown hK.1 hP hD hS 0 rfl rfl 1 (by decide) (hts _ wfX0_21) (fun _ h9 => h9) rfl hin rfl (by decide +kernel) rfl rfl (Nat.le_of_ble_eq_true rfl) dX0_init_23 (fun H locs hP hD hS => ?_)
  have hP : va_P D vwCl ((h0, .inr (0, [.ref q5, .ref q16, .null, .int 0, .int 0, .int 0])) :: (([] ++ cX5 cI cL q5 u9) ++ cX8 cI cL q16 u20)) H := hP
  have hD : va_D A ((h0, .inr (0, [.ref q5, .ref q16, .null, .int 0, .int 0, .int 0])) :: (([] ++ cX5 cI cL q5 u9) ++ cX8 cI cL q16 u20)) := hD
  refine lv_aload_n hx hb dX0_init_26 rfl (lv_at hl 0 rfl) ?_
  refine va_new (ci := 3) (fs := [.null, .int 0]) (C := RX3) (T := TX3) (N := 2) hx hb hts inX3 tyX3 tyX3_ok hown (hts _ wcX0_25) (hts _ wi3) (hts _ wn3) hK.1 hP hD hS hA rfl df3 (Nat.le_of_ble_eq_true rfl) (Nat.le_of_ble_eq_true rfl) dX0_init_27 (fun q27 H hP hD hS => ?_)
  have hP : va_P D vwCl (((h0, .inr (0, [.ref q5, .ref q16, .null, .int 0, .int 0, .int 0])) :: (([] ++ cX5 cI cL q5 u9) ++ cX8 cI cL q16 u20)) ++ [(q27, .inr (3, [.null, .int 0]))]) H := hP
  have hD : va_D A (((h0, .inr (0, [.ref q5, .ref q16, .null, .int 0, .int 0, .int 0])) :: (([] ++ cX5 cI cL q5 u9) ++ cX8 cI cL q16 u20)) ++ [(q27, .inr (3, [.null, .int 0]))]) := hD
  refine lv_dup hx hb dX0_init_30 rfl ?_
  refine ct_call (M := mX0_init) (M' := mX3_init) (wr := (h0, .inr (0, [.ref q5, .ref q16, .null, .int 0, .int 0, .int 0])) :: (([] ++ cX5 cI cL q5 u9) ++ cX8 cI cL q16 u20)) (rest := [.ref q27, .ref h0]) (host := RX9) k_X3 hx hb hml hl.1 hown hts hK hP hD hS hA (List.mem_of_getElem? (i := 3) rfl) wd3 rfl wn3 wm3 rfl (by decide +kernel) ⟨Nat.le_of_ble_eq_true rfl, Nat.le_of_ble_eq_true rfl⟩ ⟨Nat.le_of_ble_eq_true rfl, Nat.le_of_ble_eq_true rfl⟩ (Nat.le_of_ble_eq_true rfl) dX0_init_31 (fun u31 H locs hP hD hS => ?_)
  have hP : va_P D vwCl ((h0, .inr (0, [.ref q5, .ref q16, .null, .int 0, .int 0, .int 0])) :: ((([] ++ cX5 cI cL q5 u9) ++ cX8 cI cL q16 u20) ++ cX3 cI cL q27 u31)) H := hP
  have hD : va_D A ((h0, .inr (0, [.ref q5, .ref q16, .null, .int 0, .int 0, .int 0])) :: ((([] ++ cX5 cI cL q5 u9) ++ cX8 cI cL q16 u20) ++ cX3 cI cL q27 u31)) := hD
  refine va_putF (D := D) (ci := 0) (v := .ref q27) (ty := .object "TwentyPhrases$Order") (C := RX0) (T := TX0) (N := 6) hx hb hts inX0 tyX0 tyX0_ok nmX0 hown hK.1 hP hD hS 0 rfl rfl 2 (by decide) (hts _ wfX0_28) (fun _ h9 => h9) rfl hin rfl (by decide +kernel) rfl rfl (Nat.le_of_ble_eq_true rfl) dX0_init_34 (fun H locs hP hD hS => ?_)
  have hP : va_P D vwCl ((h0, .inr (0, [.ref q5, .ref q16, .ref q27, .int 0, .int 0, .int 0])) :: ((([] ++ cX5 cI cL q5 u9) ++ cX8 cI cL q16 u20) ++ cX3 cI cL q27 u31)) H := hP
  have hD : va_D A ((h0, .inr (0, [.ref q5, .ref q16, .ref q27, .int 0, .int 0, .int 0])) :: ((([] ++ cX5 cI cL q5 u9) ++ cX8 cI cL q16 u20) ++ cX3 cI cL q27 u31)) := hD
  refine lv_aload_n hx hb dX0_init_37 rfl (lv_at hl 0 rfl) ?_
  refine lv_bipush (v := 60) hx hb dX0_init_38 (by decide) ?_
  refine va_put (D := D) (ci := 0) (v := .int 60) (ty := .int) (C := RX0) (T := TX0) (N := 6) hx hb hts inX0 tyX0 tyX0_ok nmX0 hown hK.1 hP hD hS 0 rfl rfl 3 (by decide) (hts _ wfX0_32) (fun _ h9 => h9) rfl (by decide +kernel) rfl rfl (Nat.le_of_ble_eq_true rfl) dX0_init_40 (fun H locs hP hD hS => ?_)
  have hP : va_P D vwCl ((h0, .inr (0, [.ref q5, .ref q16, .ref q27, .int 60, .int 0, .int 0])) :: ((([] ++ cX5 cI cL q5 u9) ++ cX8 cI cL q16 u20) ++ cX3 cI cL q27 u31)) H := hP
  have hD : va_D A ((h0, .inr (0, [.ref q5, .ref q16, .ref q27, .int 60, .int 0, .int 0])) :: ((([] ++ cX5 cI cL q5 u9) ++ cX8 cI cL q16 u20) ++ cX3 cI cL q27 u31)) := hD
  refine lv_aload_n hx hb dX0_init_43 rfl (lv_at hl 0 rfl) ?_
  refine lv_iconst (v := 0) hx hb dX0_init_44 (by decide) ?_
  refine va_put (D := D) (ci := 0) (v := .int 0) (ty := .int) (C := RX0) (T := TX0) (N := 6) hx hb hts inX0 tyX0 tyX0_ok nmX0 hown hK.1 hP hD hS 0 rfl rfl 4 (by decide) (hts _ wfX0_36) (fun _ h9 => h9) rfl (by decide +kernel) rfl rfl (Nat.le_of_ble_eq_true rfl) dX0_init_45 (fun H locs hP hD hS => ?_)
  have hP : va_P D vwCl ((h0, .inr (0, [.ref q5, .ref q16, .ref q27, .int 60, .int 0, .int 0])) :: ((([] ++ cX5 cI cL q5 u9) ++ cX8 cI cL q16 u20) ++ cX3 cI cL q27 u31)) H := hP
  have hD : va_D A ((h0, .inr (0, [.ref q5, .ref q16, .ref q27, .int 60, .int 0, .int 0])) :: ((([] ++ cX5 cI cL q5 u9) ++ cX8 cI cL q16 u20) ++ cX3 cI cL q27 u31)) := hD
  refine lv_aload_n hx hb dX0_init_48 rfl (lv_at hl 0 rfl) ?_
  refine lv_iconst (v := 0) hx hb dX0_init_49 (by decide) ?_
  refine va_put (D := D) (ci := 0) (v := .int 0) (ty := .int) (C := RX0) (T := TX0) (N := 6) hx hb hts inX0 tyX0 tyX0_ok nmX0 hown hK.1 hP hD hS 0 rfl rfl 5 (by decide) (hts _ wfX0_39) (fun _ h9 => h9) rfl (by decide +kernel) rfl rfl (Nat.le_of_ble_eq_true rfl) dX0_init_50 (fun H locs hP hD hS => ?_)
  have hP : va_P D vwCl ((h0, .inr (0, [.ref q5, .ref q16, .ref q27, .int 60, .int 0, .int 0])) :: ((([] ++ cX5 cI cL q5 u9) ++ cX8 cI cL q16 u20) ++ cX3 cI cL q27 u31)) H := hP
  have hD : va_D A ((h0, .inr (0, [.ref q5, .ref q16, .ref q27, .int 60, .int 0, .int 0])) :: ((([] ++ cX5 cI cL q5 u9) ++ cX8 cI cL q16 u20) ++ cX3 cI cL q27 u31)) := hD
  refine W.widen (k := 15) (n := 159) (Nat.le_refl _) (Nat.le_refl _) ?_
  exact W.vret hx hb hr (fun t ht hW => ⟨⟨((q5, u9), (q16, u20), (q27, u31)), rfl, trivial, by rw [ht]; exact hP, hD⟩, hS.F ht⟩) hS.2.2 dX0_init_53
abbrev cX1 (cI cL : ClassId) (h0 : Nat) (u : (Nat × Nat × Nat × Nat × Nat)) : va_W := (h0, .inr (1, [.ref (u.1), .ref (u.2.1), .ref (u.2.2.1), .ref (u.2.2.2.1), .ref (u.2.2.2.2), .int 0, .int 0, .int 0, .int 0])) :: ((((([] ++ [((u.1), .inl (cI, 144, .inl (fun _ => 0)))]) ++ [((u.2.1), .inl (cI, 144, .inl (fun _ => 0)))]) ++ [((u.2.2.1), .inl (cI, 12, .inl (fun _ => 0)))]) ++ [((u.2.2.2.1), .inl (cI, 12, .inl (fun _ => 0)))]) ++ [((u.2.2.2.2), .inl (cI, 12, .inl (fun _ => 0)))])
set_option maxRecDepth 100000 in
set_option maxHeartbeats 4000000 in
theorem k_X1 : CT mX1_init 1 5 324 1 [.null, .null, .null, .null, .null, .int 0, .int 0, .int 0, .int 0] cX1 := by
  intro l D cI cL h0 sz
  refine Met.ofW (cc := cX1_init) (maxL := 1) (ret := none) (by decide) rfl ?_
  intro p e s m args below meth c s₁ B hml hv
  obtain ⟨rfl, hsz, hP, hK⟩ := hv
  have hx := B.exec
  have hb := B.bytes
  have hr := B.returns
  have hts0 := atoms_spec (ws := wsM mX1_init) B.pre
  have hts : ∀ w ∈ gw, w.before ([Value.ref h0] : List Value).toArray s = true := fun w hw => hts0 w (List.mem_cons_of_mem _ hw)
  have hown : s.vm.findClass RX1 = some m.cls := findClass_of_methodNamed B.named
  have hlocks := B.notSynchronized
  have hin : meth.name = "<init>" := (name_of_methodNamed B.named B.method).1
  subst hsz
  have hD : va_D (va_A [(h0, .inr (1, [.null, .null, .null, .null, .null, .int 0, .int 0, .int 0, .int 0]))] s.heap.size) [(h0, .inr (1, [.null, .null, .null, .null, .null, .int 0, .int 0, .int 0, .int 0]))] := va_D.self (A := fun _ => True) (D1 h0 _)
  generalize hAe : va_A [(h0, .inr (1, [.null, .null, .null, .null, .null, .int 0, .int 0, .int 0, .int 0]))] s.heap.size = A at hD ⊢
  have hA : ∀ q : Nat, s.heap.size ≤ q → A q := fun q h => by rw [← hAe]; exact Or.inr h
  have hS : va_S A s.heap s.heap [] := va_S.rf
  have hl := lv_entry ([.ref h0]) (n := 1) (Nat.le_of_ble_eq_true rfl)
  rw [lg_entry_eq]
  generalize (lg_sl ([.ref h0]) ++ List.replicate (1 - (lg_sl ([.ref h0])).length) Slot.unset).toArray = ls at hl ⊢
  have hl : lv_has ls 1 [(0, .ref h0)] := hl
  refine lv_aload_n hx hb dX1_init_0 rfl (lv_at hl 0 rfl) ?_
  refine W.objInit hx hb hown (hts _ wkX1_3) (hts _ w_oin) (hts _ w_ocd) rfl (by rw [hml]; exact hl.1) rfl dX1_init_1 (Nat.le_of_ble_eq_true rfl) (Nat.le_of_ble_eq_true rfl) ?_
  refine W.eq (g2 := F0 m 4 ls []) rfl ?_
  refine lv_aload_n hx hb dX1_init_4 rfl (lv_at hl 0 rfl) ?_
  refine lv_sipush (v := 144) hx hb dX1_init_5 (by decide) ?_
  refine ct_newI hx hb (hts _ w_arrI) hK.1 hP hD hS hA 144 (by decide) (by decide) (by decide) (Nat.le_of_ble_eq_true rfl) (Nat.le_of_ble_eq_true rfl) dX1_init_8 (fun q8 H hP hD hS => ?_)
  have hP : va_P D vwCl ((h0, .inr (1, [.null, .null, .null, .null, .null, .int 0, .int 0, .int 0, .int 0])) :: ([] ++ [(q8, .inl (cI, 144, .inl (fun _ => 0)))])) H := hP
  have hD : va_D A ((h0, .inr (1, [.null, .null, .null, .null, .null, .int 0, .int 0, .int 0, .int 0])) :: ([] ++ [(q8, .inl (cI, 144, .inl (fun _ => 0)))])) := hD
  refine va_putF (D := D) (ci := 1) (v := .ref q8) (ty := .array .int) (C := RX1) (T := TX1) (N := 9) hx hb hts inX1 tyX1 tyX1_ok nmX1 hown hK.1 hP hD hS 0 rfl rfl 0 (by decide) (hts _ wfX1_9) (fun _ h9 => h9) rfl hin rfl (by decide +kernel) rfl rfl (Nat.le_of_ble_eq_true rfl) dX1_init_10 (fun H locs hP hD hS => ?_)
  have hP : va_P D vwCl ((h0, .inr (1, [.ref q8, .null, .null, .null, .null, .int 0, .int 0, .int 0, .int 0])) :: ([] ++ [(q8, .inl (cI, 144, .inl (fun _ => 0)))])) H := hP
  have hD : va_D A ((h0, .inr (1, [.ref q8, .null, .null, .null, .null, .int 0, .int 0, .int 0, .int 0])) :: ([] ++ [(q8, .inl (cI, 144, .inl (fun _ => 0)))])) := hD
  refine lv_aload_n hx hb dX1_init_13 rfl (lv_at hl 0 rfl) ?_
  refine lv_sipush (v := 144) hx hb dX1_init_14 (by decide) ?_
  refine ct_newI hx hb (hts _ w_arrI) hK.1 hP hD hS hA 144 (by decide) (by decide) (by decide) (Nat.le_of_ble_eq_true rfl) (Nat.le_of_ble_eq_true rfl) dX1_init_17 (fun q17 H hP hD hS => ?_)
  have hP : va_P D vwCl ((h0, .inr (1, [.ref q8, .null, .null, .null, .null, .int 0, .int 0, .int 0, .int 0])) :: (([] ++ [(q8, .inl (cI, 144, .inl (fun _ => 0)))]) ++ [(q17, .inl (cI, 144, .inl (fun _ => 0)))])) H := hP
  have hD : va_D A ((h0, .inr (1, [.ref q8, .null, .null, .null, .null, .int 0, .int 0, .int 0, .int 0])) :: (([] ++ [(q8, .inl (cI, 144, .inl (fun _ => 0)))]) ++ [(q17, .inl (cI, 144, .inl (fun _ => 0)))])) := hD
  refine va_putF (D := D) (ci := 1) (v := .ref q17) (ty := .array .int) (C := RX1) (T := TX1) (N := 9) hx hb hts inX1 tyX1 tyX1_ok nmX1 hown hK.1 hP hD hS 0 rfl rfl 1 (by decide) (hts _ wfX1_15) (fun _ h9 => h9) rfl hin rfl (by decide +kernel) rfl rfl (Nat.le_of_ble_eq_true rfl) dX1_init_19 (fun H locs hP hD hS => ?_)
  have hP : va_P D vwCl ((h0, .inr (1, [.ref q8, .ref q17, .null, .null, .null, .int 0, .int 0, .int 0, .int 0])) :: (([] ++ [(q8, .inl (cI, 144, .inl (fun _ => 0)))]) ++ [(q17, .inl (cI, 144, .inl (fun _ => 0)))])) H := hP
  have hD : va_D A ((h0, .inr (1, [.ref q8, .ref q17, .null, .null, .null, .int 0, .int 0, .int 0, .int 0])) :: (([] ++ [(q8, .inl (cI, 144, .inl (fun _ => 0)))]) ++ [(q17, .inl (cI, 144, .inl (fun _ => 0)))])) := hD
  refine lv_aload_n hx hb dX1_init_22 rfl (lv_at hl 0 rfl) ?_
  refine lv_bipush (v := 12) hx hb dX1_init_23 (by decide) ?_
  refine ct_newI hx hb (hts _ w_arrI) hK.1 hP hD hS hA 12 (by decide) (by decide) (by decide) (Nat.le_of_ble_eq_true rfl) (Nat.le_of_ble_eq_true rfl) dX1_init_25 (fun q25 H hP hD hS => ?_)
  have hP : va_P D vwCl ((h0, .inr (1, [.ref q8, .ref q17, .null, .null, .null, .int 0, .int 0, .int 0, .int 0])) :: ((([] ++ [(q8, .inl (cI, 144, .inl (fun _ => 0)))]) ++ [(q17, .inl (cI, 144, .inl (fun _ => 0)))]) ++ [(q25, .inl (cI, 12, .inl (fun _ => 0)))])) H := hP
  have hD : va_D A ((h0, .inr (1, [.ref q8, .ref q17, .null, .null, .null, .int 0, .int 0, .int 0, .int 0])) :: ((([] ++ [(q8, .inl (cI, 144, .inl (fun _ => 0)))]) ++ [(q17, .inl (cI, 144, .inl (fun _ => 0)))]) ++ [(q25, .inl (cI, 12, .inl (fun _ => 0)))])) := hD
  refine va_putF (D := D) (ci := 1) (v := .ref q25) (ty := .array .int) (C := RX1) (T := TX1) (N := 9) hx hb hts inX1 tyX1 tyX1_ok nmX1 hown hK.1 hP hD hS 0 rfl rfl 2 (by decide) (hts _ wfX1_18) (fun _ h9 => h9) rfl hin rfl (by decide +kernel) rfl rfl (Nat.le_of_ble_eq_true rfl) dX1_init_27 (fun H locs hP hD hS => ?_)
  have hP : va_P D vwCl ((h0, .inr (1, [.ref q8, .ref q17, .ref q25, .null, .null, .int 0, .int 0, .int 0, .int 0])) :: ((([] ++ [(q8, .inl (cI, 144, .inl (fun _ => 0)))]) ++ [(q17, .inl (cI, 144, .inl (fun _ => 0)))]) ++ [(q25, .inl (cI, 12, .inl (fun _ => 0)))])) H := hP
  have hD : va_D A ((h0, .inr (1, [.ref q8, .ref q17, .ref q25, .null, .null, .int 0, .int 0, .int 0, .int 0])) :: ((([] ++ [(q8, .inl (cI, 144, .inl (fun _ => 0)))]) ++ [(q17, .inl (cI, 144, .inl (fun _ => 0)))]) ++ [(q25, .inl (cI, 12, .inl (fun _ => 0)))])) := hD
  refine lv_aload_n hx hb dX1_init_30 rfl (lv_at hl 0 rfl) ?_
  refine lv_bipush (v := 12) hx hb dX1_init_31 (by decide) ?_
  refine ct_newI hx hb (hts _ w_arrI) hK.1 hP hD hS hA 12 (by decide) (by decide) (by decide) (Nat.le_of_ble_eq_true rfl) (Nat.le_of_ble_eq_true rfl) dX1_init_33 (fun q33 H hP hD hS => ?_)
  have hP : va_P D vwCl ((h0, .inr (1, [.ref q8, .ref q17, .ref q25, .null, .null, .int 0, .int 0, .int 0, .int 0])) :: (((([] ++ [(q8, .inl (cI, 144, .inl (fun _ => 0)))]) ++ [(q17, .inl (cI, 144, .inl (fun _ => 0)))]) ++ [(q25, .inl (cI, 12, .inl (fun _ => 0)))]) ++ [(q33, .inl (cI, 12, .inl (fun _ => 0)))])) H := hP
  have hD : va_D A ((h0, .inr (1, [.ref q8, .ref q17, .ref q25, .null, .null, .int 0, .int 0, .int 0, .int 0])) :: (((([] ++ [(q8, .inl (cI, 144, .inl (fun _ => 0)))]) ++ [(q17, .inl (cI, 144, .inl (fun _ => 0)))]) ++ [(q25, .inl (cI, 12, .inl (fun _ => 0)))]) ++ [(q33, .inl (cI, 12, .inl (fun _ => 0)))])) := hD
  refine va_putF (D := D) (ci := 1) (v := .ref q33) (ty := .array .int) (C := RX1) (T := TX1) (N := 9) hx hb hts inX1 tyX1 tyX1_ok nmX1 hown hK.1 hP hD hS 0 rfl rfl 3 (by decide) (hts _ wfX1_21) (fun _ h9 => h9) rfl hin rfl (by decide +kernel) rfl rfl (Nat.le_of_ble_eq_true rfl) dX1_init_35 (fun H locs hP hD hS => ?_)
  have hP : va_P D vwCl ((h0, .inr (1, [.ref q8, .ref q17, .ref q25, .ref q33, .null, .int 0, .int 0, .int 0, .int 0])) :: (((([] ++ [(q8, .inl (cI, 144, .inl (fun _ => 0)))]) ++ [(q17, .inl (cI, 144, .inl (fun _ => 0)))]) ++ [(q25, .inl (cI, 12, .inl (fun _ => 0)))]) ++ [(q33, .inl (cI, 12, .inl (fun _ => 0)))])) H := hP
  have hD : va_D A ((h0, .inr (1, [.ref q8, .ref q17, .ref q25, .ref q33, .null, .int 0, .int 0, .int 0, .int 0])) :: (((([] ++ [(q8, .inl (cI, 144, .inl (fun _ => 0)))]) ++ [(q17, .inl (cI, 144, .inl (fun _ => 0)))]) ++ [(q25, .inl (cI, 12, .inl (fun _ => 0)))]) ++ [(q33, .inl (cI, 12, .inl (fun _ => 0)))])) := hD
  refine lv_aload_n hx hb dX1_init_38 rfl (lv_at hl 0 rfl) ?_
  refine lv_bipush (v := 12) hx hb dX1_init_39 (by decide) ?_
  refine ct_newI hx hb (hts _ w_arrI) hK.1 hP hD hS hA 12 (by decide) (by decide) (by decide) (Nat.le_of_ble_eq_true rfl) (Nat.le_of_ble_eq_true rfl) dX1_init_41 (fun q41 H hP hD hS => ?_)
  have hP : va_P D vwCl ((h0, .inr (1, [.ref q8, .ref q17, .ref q25, .ref q33, .null, .int 0, .int 0, .int 0, .int 0])) :: ((((([] ++ [(q8, .inl (cI, 144, .inl (fun _ => 0)))]) ++ [(q17, .inl (cI, 144, .inl (fun _ => 0)))]) ++ [(q25, .inl (cI, 12, .inl (fun _ => 0)))]) ++ [(q33, .inl (cI, 12, .inl (fun _ => 0)))]) ++ [(q41, .inl (cI, 12, .inl (fun _ => 0)))])) H := hP
  have hD : va_D A ((h0, .inr (1, [.ref q8, .ref q17, .ref q25, .ref q33, .null, .int 0, .int 0, .int 0, .int 0])) :: ((((([] ++ [(q8, .inl (cI, 144, .inl (fun _ => 0)))]) ++ [(q17, .inl (cI, 144, .inl (fun _ => 0)))]) ++ [(q25, .inl (cI, 12, .inl (fun _ => 0)))]) ++ [(q33, .inl (cI, 12, .inl (fun _ => 0)))]) ++ [(q41, .inl (cI, 12, .inl (fun _ => 0)))])) := hD
  refine va_putF (D := D) (ci := 1) (v := .ref q41) (ty := .array .int) (C := RX1) (T := TX1) (N := 9) hx hb hts inX1 tyX1 tyX1_ok nmX1 hown hK.1 hP hD hS 0 rfl rfl 4 (by decide) (hts _ wfX1_24) (fun _ h9 => h9) rfl hin rfl (by decide +kernel) rfl rfl (Nat.le_of_ble_eq_true rfl) dX1_init_43 (fun H locs hP hD hS => ?_)
  have hP : va_P D vwCl ((h0, .inr (1, [.ref q8, .ref q17, .ref q25, .ref q33, .ref q41, .int 0, .int 0, .int 0, .int 0])) :: ((((([] ++ [(q8, .inl (cI, 144, .inl (fun _ => 0)))]) ++ [(q17, .inl (cI, 144, .inl (fun _ => 0)))]) ++ [(q25, .inl (cI, 12, .inl (fun _ => 0)))]) ++ [(q33, .inl (cI, 12, .inl (fun _ => 0)))]) ++ [(q41, .inl (cI, 12, .inl (fun _ => 0)))])) H := hP
  have hD : va_D A ((h0, .inr (1, [.ref q8, .ref q17, .ref q25, .ref q33, .ref q41, .int 0, .int 0, .int 0, .int 0])) :: ((((([] ++ [(q8, .inl (cI, 144, .inl (fun _ => 0)))]) ++ [(q17, .inl (cI, 144, .inl (fun _ => 0)))]) ++ [(q25, .inl (cI, 12, .inl (fun _ => 0)))]) ++ [(q33, .inl (cI, 12, .inl (fun _ => 0)))]) ++ [(q41, .inl (cI, 12, .inl (fun _ => 0)))])) := hD
  refine lv_aload_n hx hb dX1_init_46 rfl (lv_at hl 0 rfl) ?_
  refine lv_iconst (v := 0) hx hb dX1_init_47 (by decide) ?_
  refine va_put (D := D) (ci := 1) (v := .int 0) (ty := .int) (C := RX1) (T := TX1) (N := 9) hx hb hts inX1 tyX1 tyX1_ok nmX1 hown hK.1 hP hD hS 0 rfl rfl 5 (by decide) (hts _ wfX1_27) (fun _ h9 => h9) rfl (by decide +kernel) rfl rfl (Nat.le_of_ble_eq_true rfl) dX1_init_48 (fun H locs hP hD hS => ?_)
  have hP : va_P D vwCl ((h0, .inr (1, [.ref q8, .ref q17, .ref q25, .ref q33, .ref q41, .int 0, .int 0, .int 0, .int 0])) :: ((((([] ++ [(q8, .inl (cI, 144, .inl (fun _ => 0)))]) ++ [(q17, .inl (cI, 144, .inl (fun _ => 0)))]) ++ [(q25, .inl (cI, 12, .inl (fun _ => 0)))]) ++ [(q33, .inl (cI, 12, .inl (fun _ => 0)))]) ++ [(q41, .inl (cI, 12, .inl (fun _ => 0)))])) H := hP
  have hD : va_D A ((h0, .inr (1, [.ref q8, .ref q17, .ref q25, .ref q33, .ref q41, .int 0, .int 0, .int 0, .int 0])) :: ((((([] ++ [(q8, .inl (cI, 144, .inl (fun _ => 0)))]) ++ [(q17, .inl (cI, 144, .inl (fun _ => 0)))]) ++ [(q25, .inl (cI, 12, .inl (fun _ => 0)))]) ++ [(q33, .inl (cI, 12, .inl (fun _ => 0)))]) ++ [(q41, .inl (cI, 12, .inl (fun _ => 0)))])) := hD
  refine lv_aload_n hx hb dX1_init_51 rfl (lv_at hl 0 rfl) ?_
  refine lv_iconst (v := 0) hx hb dX1_init_52 (by decide) ?_
  refine va_put (D := D) (ci := 1) (v := .int 0) (ty := .int) (C := RX1) (T := TX1) (N := 9) hx hb hts inX1 tyX1 tyX1_ok nmX1 hown hK.1 hP hD hS 0 rfl rfl 6 (by decide) (hts _ wfX1_31) (fun _ h9 => h9) rfl (by decide +kernel) rfl rfl (Nat.le_of_ble_eq_true rfl) dX1_init_53 (fun H locs hP hD hS => ?_)
  have hP : va_P D vwCl ((h0, .inr (1, [.ref q8, .ref q17, .ref q25, .ref q33, .ref q41, .int 0, .int 0, .int 0, .int 0])) :: ((((([] ++ [(q8, .inl (cI, 144, .inl (fun _ => 0)))]) ++ [(q17, .inl (cI, 144, .inl (fun _ => 0)))]) ++ [(q25, .inl (cI, 12, .inl (fun _ => 0)))]) ++ [(q33, .inl (cI, 12, .inl (fun _ => 0)))]) ++ [(q41, .inl (cI, 12, .inl (fun _ => 0)))])) H := hP
  have hD : va_D A ((h0, .inr (1, [.ref q8, .ref q17, .ref q25, .ref q33, .ref q41, .int 0, .int 0, .int 0, .int 0])) :: ((((([] ++ [(q8, .inl (cI, 144, .inl (fun _ => 0)))]) ++ [(q17, .inl (cI, 144, .inl (fun _ => 0)))]) ++ [(q25, .inl (cI, 12, .inl (fun _ => 0)))]) ++ [(q33, .inl (cI, 12, .inl (fun _ => 0)))]) ++ [(q41, .inl (cI, 12, .inl (fun _ => 0)))])) := hD
  refine lv_aload_n hx hb dX1_init_56 rfl (lv_at hl 0 rfl) ?_
  refine lv_iconst (v := 0) hx hb dX1_init_57 (by decide) ?_
  refine va_put (D := D) (ci := 1) (v := .int 0) (ty := .int) (C := RX1) (T := TX1) (N := 9) hx hb hts inX1 tyX1 tyX1_ok nmX1 hown hK.1 hP hD hS 0 rfl rfl 7 (by decide) (hts _ wfX1_34) (fun _ h9 => h9) rfl (by decide +kernel) rfl rfl (Nat.le_of_ble_eq_true rfl) dX1_init_58 (fun H locs hP hD hS => ?_)
  have hP : va_P D vwCl ((h0, .inr (1, [.ref q8, .ref q17, .ref q25, .ref q33, .ref q41, .int 0, .int 0, .int 0, .int 0])) :: ((((([] ++ [(q8, .inl (cI, 144, .inl (fun _ => 0)))]) ++ [(q17, .inl (cI, 144, .inl (fun _ => 0)))]) ++ [(q25, .inl (cI, 12, .inl (fun _ => 0)))]) ++ [(q33, .inl (cI, 12, .inl (fun _ => 0)))]) ++ [(q41, .inl (cI, 12, .inl (fun _ => 0)))])) H := hP
  have hD : va_D A ((h0, .inr (1, [.ref q8, .ref q17, .ref q25, .ref q33, .ref q41, .int 0, .int 0, .int 0, .int 0])) :: ((((([] ++ [(q8, .inl (cI, 144, .inl (fun _ => 0)))]) ++ [(q17, .inl (cI, 144, .inl (fun _ => 0)))]) ++ [(q25, .inl (cI, 12, .inl (fun _ => 0)))]) ++ [(q33, .inl (cI, 12, .inl (fun _ => 0)))]) ++ [(q41, .inl (cI, 12, .inl (fun _ => 0)))])) := hD
  refine lv_aload_n hx hb dX1_init_61 rfl (lv_at hl 0 rfl) ?_
  refine lv_iconst (v := 0) hx hb dX1_init_62 (by decide) ?_
  refine va_put (D := D) (ci := 1) (v := .int 0) (ty := .int) (C := RX1) (T := TX1) (N := 9) hx hb hts inX1 tyX1 tyX1_ok nmX1 hown hK.1 hP hD hS 0 rfl rfl 8 (by decide) (hts _ wfX1_37) (fun _ h9 => h9) rfl (by decide +kernel) rfl rfl (Nat.le_of_ble_eq_true rfl) dX1_init_63 (fun H locs hP hD hS => ?_)
  have hP : va_P D vwCl ((h0, .inr (1, [.ref q8, .ref q17, .ref q25, .ref q33, .ref q41, .int 0, .int 0, .int 0, .int 0])) :: ((((([] ++ [(q8, .inl (cI, 144, .inl (fun _ => 0)))]) ++ [(q17, .inl (cI, 144, .inl (fun _ => 0)))]) ++ [(q25, .inl (cI, 12, .inl (fun _ => 0)))]) ++ [(q33, .inl (cI, 12, .inl (fun _ => 0)))]) ++ [(q41, .inl (cI, 12, .inl (fun _ => 0)))])) H := hP
  have hD : va_D A ((h0, .inr (1, [.ref q8, .ref q17, .ref q25, .ref q33, .ref q41, .int 0, .int 0, .int 0, .int 0])) :: ((((([] ++ [(q8, .inl (cI, 144, .inl (fun _ => 0)))]) ++ [(q17, .inl (cI, 144, .inl (fun _ => 0)))]) ++ [(q25, .inl (cI, 12, .inl (fun _ => 0)))]) ++ [(q33, .inl (cI, 12, .inl (fun _ => 0)))]) ++ [(q41, .inl (cI, 12, .inl (fun _ => 0)))])) := hD
  refine W.widen (k := 5) (n := 324) (Nat.le_refl _) (Nat.le_refl _) ?_
  exact W.vret hx hb hr (fun t ht hW => ⟨⟨(q8, q17, q25, q33, q41), rfl, trivial, by rw [ht]; exact hP, hD⟩, hS.F ht⟩) hS.2.2 dX1_init_66
abbrev cX7 (cI cL : ClassId) (h0 : Nat) (u : Nat) : va_W := (h0, .inr (7, [.ref u, .int 0, .int 0, .int 0, .int 0, .int 0])) :: ([] ++ [(u, .inl (cI, 120, .inl (fun _ => 0)))])
set_option maxRecDepth 100000 in
set_option maxHeartbeats 4000000 in
theorem k_X7 : CT mX7_init 1 1 120 7 [.null, .int 0, .int 0, .int 0, .int 0, .int 0] cX7 := by
  intro l D cI cL h0 sz
  refine Met.ofW (cc := cX7_init) (maxL := 1) (ret := none) (by decide) rfl ?_
  intro p e s m args below meth c s₁ B hml hv
  obtain ⟨rfl, hsz, hP, hK⟩ := hv
  have hx := B.exec
  have hb := B.bytes
  have hr := B.returns
  have hts0 := atoms_spec (ws := wsM mX7_init) B.pre
  have hts : ∀ w ∈ gw, w.before ([Value.ref h0] : List Value).toArray s = true := fun w hw => hts0 w (List.mem_cons_of_mem _ hw)
  have hown : s.vm.findClass RX7 = some m.cls := findClass_of_methodNamed B.named
  have hlocks := B.notSynchronized
  have hin : meth.name = "<init>" := (name_of_methodNamed B.named B.method).1
  subst hsz
  have hD : va_D (va_A [(h0, .inr (7, [.null, .int 0, .int 0, .int 0, .int 0, .int 0]))] s.heap.size) [(h0, .inr (7, [.null, .int 0, .int 0, .int 0, .int 0, .int 0]))] := va_D.self (A := fun _ => True) (D1 h0 _)
  generalize hAe : va_A [(h0, .inr (7, [.null, .int 0, .int 0, .int 0, .int 0, .int 0]))] s.heap.size = A at hD ⊢
  have hA : ∀ q : Nat, s.heap.size ≤ q → A q := fun q h => by rw [← hAe]; exact Or.inr h
  have hS : va_S A s.heap s.heap [] := va_S.rf
  have hl := lv_entry ([.ref h0]) (n := 1) (Nat.le_of_ble_eq_true rfl)
  rw [lg_entry_eq]
  generalize (lg_sl ([.ref h0]) ++ List.replicate (1 - (lg_sl ([.ref h0])).length) Slot.unset).toArray = ls at hl ⊢
  have hl : lv_has ls 1 [(0, .ref h0)] := hl
  refine lv_aload_n hx hb dX7_init_0 rfl (lv_at hl 0 rfl) ?_
  refine W.objInit hx hb hown (hts _ wkX7_1) (hts _ w_oin) (hts _ w_ocd) rfl (by rw [hml]; exact hl.1) rfl dX7_init_1 (Nat.le_of_ble_eq_true rfl) (Nat.le_of_ble_eq_true rfl) ?_
  refine W.eq (g2 := F0 m 4 ls []) rfl ?_
  refine lv_aload_n hx hb dX7_init_4 rfl (lv_at hl 0 rfl) ?_
  refine lv_bipush (v := 120) hx hb dX7_init_5 (by decide) ?_
  refine ct_newI hx hb (hts _ w_arrI) hK.1 hP hD hS hA 120 (by decide) (by decide) (by decide) (Nat.le_of_ble_eq_true rfl) (Nat.le_of_ble_eq_true rfl) dX7_init_7 (fun q7 H hP hD hS => ?_)
  have hP : va_P D vwCl ((h0, .inr (7, [.null, .int 0, .int 0, .int 0, .int 0, .int 0])) :: ([] ++ [(q7, .inl (cI, 120, .inl (fun _ => 0)))])) H := hP
  have hD : va_D A ((h0, .inr (7, [.null, .int 0, .int 0, .int 0, .int 0, .int 0])) :: ([] ++ [(q7, .inl (cI, 120, .inl (fun _ => 0)))])) := hD
  refine va_putF (D := D) (ci := 7) (v := .ref q7) (ty := .array .int) (C := RX7) (T := TX7) (N := 6) hx hb hts inX7 tyX7 tyX7_ok nmX7 hown hK.1 hP hD hS 0 rfl rfl 0 (by decide) (hts _ wfX7_9) (fun _ h9 => h9) rfl hin rfl (by decide +kernel) rfl rfl (Nat.le_of_ble_eq_true rfl) dX7_init_9 (fun H locs hP hD hS => ?_)
  have hP : va_P D vwCl ((h0, .inr (7, [.ref q7, .int 0, .int 0, .int 0, .int 0, .int 0])) :: ([] ++ [(q7, .inl (cI, 120, .inl (fun _ => 0)))])) H := hP
  have hD : va_D A ((h0, .inr (7, [.ref q7, .int 0, .int 0, .int 0, .int 0, .int 0])) :: ([] ++ [(q7, .inl (cI, 120, .inl (fun _ => 0)))])) := hD
  refine lv_aload_n hx hb dX7_init_12 rfl (lv_at hl 0 rfl) ?_
  refine lv_iconst (v := 0) hx hb dX7_init_13 (by decide) ?_
  refine va_put (D := D) (ci := 7) (v := .int 0) (ty := .int) (C := RX7) (T := TX7) (N := 6) hx hb hts inX7 tyX7 tyX7_ok nmX7 hown hK.1 hP hD hS 0 rfl rfl 1 (by decide) (hts _ wfX7_13) (fun _ h9 => h9) rfl (by decide +kernel) rfl rfl (Nat.le_of_ble_eq_true rfl) dX7_init_14 (fun H locs hP hD hS => ?_)
  have hP : va_P D vwCl ((h0, .inr (7, [.ref q7, .int 0, .int 0, .int 0, .int 0, .int 0])) :: ([] ++ [(q7, .inl (cI, 120, .inl (fun _ => 0)))])) H := hP
  have hD : va_D A ((h0, .inr (7, [.ref q7, .int 0, .int 0, .int 0, .int 0, .int 0])) :: ([] ++ [(q7, .inl (cI, 120, .inl (fun _ => 0)))])) := hD
  refine lv_aload_n hx hb dX7_init_17 rfl (lv_at hl 0 rfl) ?_
  refine lv_iconst (v := 0) hx hb dX7_init_18 (by decide) ?_
  refine va_put (D := D) (ci := 7) (v := .int 0) (ty := .int) (C := RX7) (T := TX7) (N := 6) hx hb hts inX7 tyX7 tyX7_ok nmX7 hown hK.1 hP hD hS 0 rfl rfl 2 (by decide) (hts _ wfX7_17) (fun _ h9 => h9) rfl (by decide +kernel) rfl rfl (Nat.le_of_ble_eq_true rfl) dX7_init_19 (fun H locs hP hD hS => ?_)
  have hP : va_P D vwCl ((h0, .inr (7, [.ref q7, .int 0, .int 0, .int 0, .int 0, .int 0])) :: ([] ++ [(q7, .inl (cI, 120, .inl (fun _ => 0)))])) H := hP
  have hD : va_D A ((h0, .inr (7, [.ref q7, .int 0, .int 0, .int 0, .int 0, .int 0])) :: ([] ++ [(q7, .inl (cI, 120, .inl (fun _ => 0)))])) := hD
  refine lv_aload_n hx hb dX7_init_22 rfl (lv_at hl 0 rfl) ?_
  refine lv_iconst (v := 0) hx hb dX7_init_23 (by decide) ?_
  refine va_put (D := D) (ci := 7) (v := .int 0) (ty := .int) (C := RX7) (T := TX7) (N := 6) hx hb hts inX7 tyX7 tyX7_ok nmX7 hown hK.1 hP hD hS 0 rfl rfl 3 (by decide) (hts _ wfX7_20) (fun _ h9 => h9) rfl (by decide +kernel) rfl rfl (Nat.le_of_ble_eq_true rfl) dX7_init_24 (fun H locs hP hD hS => ?_)
  have hP : va_P D vwCl ((h0, .inr (7, [.ref q7, .int 0, .int 0, .int 0, .int 0, .int 0])) :: ([] ++ [(q7, .inl (cI, 120, .inl (fun _ => 0)))])) H := hP
  have hD : va_D A ((h0, .inr (7, [.ref q7, .int 0, .int 0, .int 0, .int 0, .int 0])) :: ([] ++ [(q7, .inl (cI, 120, .inl (fun _ => 0)))])) := hD
  refine lv_aload_n hx hb dX7_init_27 rfl (lv_at hl 0 rfl) ?_
  refine lv_iconst (v := 0) hx hb dX7_init_28 (by decide) ?_
  refine va_put (D := D) (ci := 7) (v := .int 0) (ty := .int) (C := RX7) (T := TX7) (N := 6) hx hb hts inX7 tyX7 tyX7_ok nmX7 hown hK.1 hP hD hS 0 rfl rfl 4 (by decide) (hts _ wfX7_23) (fun _ h9 => h9) rfl (by decide +kernel) rfl rfl (Nat.le_of_ble_eq_true rfl) dX7_init_29 (fun H locs hP hD hS => ?_)
  have hP : va_P D vwCl ((h0, .inr (7, [.ref q7, .int 0, .int 0, .int 0, .int 0, .int 0])) :: ([] ++ [(q7, .inl (cI, 120, .inl (fun _ => 0)))])) H := hP
  have hD : va_D A ((h0, .inr (7, [.ref q7, .int 0, .int 0, .int 0, .int 0, .int 0])) :: ([] ++ [(q7, .inl (cI, 120, .inl (fun _ => 0)))])) := hD
  refine lv_aload_n hx hb dX7_init_32 rfl (lv_at hl 0 rfl) ?_
  refine lv_iconst (v := 0) hx hb dX7_init_33 (by decide) ?_
  refine va_put (D := D) (ci := 7) (v := .int 0) (ty := .int) (C := RX7) (T := TX7) (N := 6) hx hb hts inX7 tyX7 tyX7_ok nmX7 hown hK.1 hP hD hS 0 rfl rfl 5 (by decide) (hts _ wfX7_26) (fun _ h9 => h9) rfl (by decide +kernel) rfl rfl (Nat.le_of_ble_eq_true rfl) dX7_init_34 (fun H locs hP hD hS => ?_)
  have hP : va_P D vwCl ((h0, .inr (7, [.ref q7, .int 0, .int 0, .int 0, .int 0, .int 0])) :: ([] ++ [(q7, .inl (cI, 120, .inl (fun _ => 0)))])) H := hP
  have hD : va_D A ((h0, .inr (7, [.ref q7, .int 0, .int 0, .int 0, .int 0, .int 0])) :: ([] ++ [(q7, .inl (cI, 120, .inl (fun _ => 0)))])) := hD
  refine W.widen (k := 1) (n := 120) (Nat.le_refl _) (Nat.le_refl _) ?_
  exact W.vret hx hb hr (fun t ht hW => ⟨⟨q7, rfl, trivial, by rw [ht]; exact hP, hD⟩, hS.F ht⟩) hS.2.2 dX7_init_37
abbrev cX2 (cI cL : ClassId) (h0 : Nat) (u : (Nat × Nat)) : va_W := (h0, .inr (2, [.ref (u.1)])) :: ([] ++ cX7 cI cL (u.1) (u.2))
set_option maxRecDepth 100000 in
set_option maxHeartbeats 4000000 in
theorem k_X2 : CT mX2_init 2 2 126 2 [.null] cX2 := by
  intro l D cI cL h0 sz
  refine Met.ofW (cc := cX2_init) (maxL := 1) (ret := none) (by decide) rfl ?_
  intro p e s m args below meth c s₁ B hml hv
  obtain ⟨rfl, hsz, hP, hK⟩ := hv
  have hx := B.exec
  have hb := B.bytes
  have hr := B.returns
  have hts0 := atoms_spec (ws := wsM mX2_init) B.pre
  have hts : ∀ w ∈ gw, w.before ([Value.ref h0] : List Value).toArray s = true := fun w hw => hts0 w (List.mem_cons_of_mem _ hw)
  have hown : s.vm.findClass RX2 = some m.cls := findClass_of_methodNamed B.named
  have hlocks := B.notSynchronized
  have hin : meth.name = "<init>" := (name_of_methodNamed B.named B.method).1
  subst hsz
  have hD : va_D (va_A [(h0, .inr (2, [.null]))] s.heap.size) [(h0, .inr (2, [.null]))] := va_D.self (A := fun _ => True) (D1 h0 _)
  generalize hAe : va_A [(h0, .inr (2, [.null]))] s.heap.size = A at hD ⊢
  have hA : ∀ q : Nat, s.heap.size ≤ q → A q := fun q h => by rw [← hAe]; exact Or.inr h
  have hS : va_S A s.heap s.heap [] := va_S.rf
  have hl := lv_entry ([.ref h0]) (n := 1) (Nat.le_of_ble_eq_true rfl)
  rw [lg_entry_eq]
  generalize (lg_sl ([.ref h0]) ++ List.replicate (1 - (lg_sl ([.ref h0])).length) Slot.unset).toArray = ls at hl ⊢
  have hl : lv_has ls 1 [(0, .ref h0)] := hl
  refine lv_aload_n hx hb dX2_init_0 rfl (lv_at hl 0 rfl) ?_
  refine W.objInit hx hb hown (hts _ wkX2_3) (hts _ w_oin) (hts _ w_ocd) rfl (by rw [hml]; exact hl.1) rfl dX2_init_1 (Nat.le_of_ble_eq_true rfl) (Nat.le_of_ble_eq_true rfl) ?_
  refine W.eq (g2 := F0 m 4 ls []) rfl ?_
  refine lv_aload_n hx hb dX2_init_4 rfl (lv_at hl 0 rfl) ?_
  refine va_new (ci := 7) (fs := [.null, .int 0, .int 0, .int 0, .int 0, .int 0]) (C := RX7) (T := TX7) (N := 6) hx hb hts inX7 tyX7 tyX7_ok hown (hts _ wcX2_9) (hts _ wi7) (hts _ wn7) hK.1 hP hD hS hA rfl df7 (Nat.le_of_ble_eq_true rfl) (Nat.le_of_ble_eq_true rfl) dX2_init_5 (fun q5 H hP hD hS => ?_)
  have hP : va_P D vwCl (((h0, .inr (2, [.null])) :: []) ++ [(q5, .inr (7, [.null, .int 0, .int 0, .int 0, .int 0, .int 0]))]) H := hP
  have hD : va_D A (((h0, .inr (2, [.null])) :: []) ++ [(q5, .inr (7, [.null, .int 0, .int 0, .int 0, .int 0, .int 0]))]) := hD
  refine lv_dup hx hb dX2_init_8 rfl ?_
  refine ct_call (M := mX2_init) (M' := mX7_init) (wr := (h0, .inr (2, [.null])) :: []) (rest := [.ref q5, .ref h0]) (host := RX9) k_X7 hx hb hml hl.1 hown hts hK hP hD hS hA (List.mem_of_getElem? (i := 8) rfl) wd7 rfl wn7 wm7 rfl (by decide +kernel) ⟨Nat.le_of_ble_eq_true rfl, Nat.le_of_ble_eq_true rfl⟩ ⟨Nat.le_of_ble_eq_true rfl, Nat.le_of_ble_eq_true rfl⟩ (Nat.le_of_ble_eq_true rfl) dX2_init_9 (fun u9 H locs hP hD hS => ?_)
  have hP : va_P D vwCl ((h0, .inr (2, [.null])) :: ([] ++ cX7 cI cL q5 u9)) H := hP
  have hD : va_D A ((h0, .inr (2, [.null])) :: ([] ++ cX7 cI cL q5 u9)) := hD
  refine va_putF (D := D) (ci := 2) (v := .ref q5) (ty := .object "TwentyPhrases$Tape") (C := RX2) (T := TX2) (N := 1) hx hb hts inX2 tyX2 tyX2_ok nmX2 hown hK.1 hP hD hS 0 rfl rfl 0 (by decide) (hts _ wfX2_12) (fun _ h9 => h9) rfl hin rfl (by decide +kernel) rfl rfl (Nat.le_of_ble_eq_true rfl) dX2_init_12 (fun H locs hP hD hS => ?_)
  have hP : va_P D vwCl ((h0, .inr (2, [.ref q5])) :: ([] ++ cX7 cI cL q5 u9)) H := hP
  have hD : va_D A ((h0, .inr (2, [.ref q5])) :: ([] ++ cX7 cI cL q5 u9)) := hD
  refine W.widen (k := 2) (n := 126) (Nat.le_refl _) (Nat.le_refl _) ?_
  exact W.vret hx hb hr (fun t ht hW => ⟨⟨(q5, u9), rfl, trivial, by rw [ht]; exact hP, hD⟩, hS.F ht⟩) hS.2.2 dX2_init_15
abbrev cX6 (cI cL : ClassId) (h0 : Nat) (u : (Nat × Nat × Nat)) : va_W := (h0, .inr (6, [.ref (u.1), .ref (u.2.1), .ref (u.2.2)])) :: ((([] ++ [((u.1), .inl (cI, 4, .inl (fun _ => 0)))]) ++ [((u.2.1), .inl (cI, 4, .inl (fun _ => 0)))]) ++ [((u.2.2), .inl (cL, 160, .inr (.inl (fun _ => 0))))])
set_option maxRecDepth 100000 in
set_option maxHeartbeats 4000000 in
theorem k_X6 : CT mX6_init 1 3 168 6 [.null, .null, .null] cX6 := by
  intro l D cI cL h0 sz
  refine Met.ofW (cc := cX6_init) (maxL := 1) (ret := none) (by decide) rfl ?_
  intro p e s m args below meth c s₁ B hml hv
  obtain ⟨rfl, hsz, hP, hK⟩ := hv
  have hx := B.exec
  have hb := B.bytes
  have hr := B.returns
  have hts0 := atoms_spec (ws := wsM mX6_init) B.pre
  have hts : ∀ w ∈ gw, w.before ([Value.ref h0] : List Value).toArray s = true := fun w hw => hts0 w (List.mem_cons_of_mem _ hw)
  have hown : s.vm.findClass RX6 = some m.cls := findClass_of_methodNamed B.named
  have hlocks := B.notSynchronized
  have hin : meth.name = "<init>" := (name_of_methodNamed B.named B.method).1
  subst hsz
  have hD : va_D (va_A [(h0, .inr (6, [.null, .null, .null]))] s.heap.size) [(h0, .inr (6, [.null, .null, .null]))] := va_D.self (A := fun _ => True) (D1 h0 _)
  generalize hAe : va_A [(h0, .inr (6, [.null, .null, .null]))] s.heap.size = A at hD ⊢
  have hA : ∀ q : Nat, s.heap.size ≤ q → A q := fun q h => by rw [← hAe]; exact Or.inr h
  have hS : va_S A s.heap s.heap [] := va_S.rf
  have hl := lv_entry ([.ref h0]) (n := 1) (Nat.le_of_ble_eq_true rfl)
  rw [lg_entry_eq]
  generalize (lg_sl ([.ref h0]) ++ List.replicate (1 - (lg_sl ([.ref h0])).length) Slot.unset).toArray = ls at hl ⊢
  have hl : lv_has ls 1 [(0, .ref h0)] := hl
  refine lv_aload_n hx hb dX6_init_0 rfl (lv_at hl 0 rfl) ?_
  refine W.objInit hx hb hown (hts _ wkX6_1) (hts _ w_oin) (hts _ w_ocd) rfl (by rw [hml]; exact hl.1) rfl dX6_init_1 (Nat.le_of_ble_eq_true rfl) (Nat.le_of_ble_eq_true rfl) ?_
  refine W.eq (g2 := F0 m 4 ls []) rfl ?_
  refine lv_aload_n hx hb dX6_init_4 rfl (lv_at hl 0 rfl) ?_
  refine lv_iconst (v := 4) hx hb dX6_init_5 (by decide) ?_
  refine ct_newI hx hb (hts _ w_arrI) hK.1 hP hD hS hA 4 (by decide) (by decide) (by decide) (Nat.le_of_ble_eq_true rfl) (Nat.le_of_ble_eq_true rfl) dX6_init_6 (fun q6 H hP hD hS => ?_)
  have hP : va_P D vwCl ((h0, .inr (6, [.null, .null, .null])) :: ([] ++ [(q6, .inl (cI, 4, .inl (fun _ => 0)))])) H := hP
  have hD : va_D A ((h0, .inr (6, [.null, .null, .null])) :: ([] ++ [(q6, .inl (cI, 4, .inl (fun _ => 0)))])) := hD
  refine va_putF (D := D) (ci := 6) (v := .ref q6) (ty := .array .int) (C := RX6) (T := TX6) (N := 3) hx hb hts inX6 tyX6 tyX6_ok nmX6 hown hK.1 hP hD hS 0 rfl rfl 0 (by decide) (hts _ wfX6_9) (fun _ h9 => h9) rfl hin rfl (by decide +kernel) rfl rfl (Nat.le_of_ble_eq_true rfl) dX6_init_8 (fun H locs hP hD hS => ?_)
  have hP : va_P D vwCl ((h0, .inr (6, [.ref q6, .null, .null])) :: ([] ++ [(q6, .inl (cI, 4, .inl (fun _ => 0)))])) H := hP
  have hD : va_D A ((h0, .inr (6, [.ref q6, .null, .null])) :: ([] ++ [(q6, .inl (cI, 4, .inl (fun _ => 0)))])) := hD
  refine lv_aload_n hx hb dX6_init_11 rfl (lv_at hl 0 rfl) ?_
  refine lv_iconst (v := 4) hx hb dX6_init_12 (by decide) ?_
  refine ct_newI hx hb (hts _ w_arrI) hK.1 hP hD hS hA 4 (by decide) (by decide) (by decide) (Nat.le_of_ble_eq_true rfl) (Nat.le_of_ble_eq_true rfl) dX6_init_13 (fun q13 H hP hD hS => ?_)
  have hP : va_P D vwCl ((h0, .inr (6, [.ref q6, .null, .null])) :: (([] ++ [(q6, .inl (cI, 4, .inl (fun _ => 0)))]) ++ [(q13, .inl (cI, 4, .inl (fun _ => 0)))])) H := hP
  have hD : va_D A ((h0, .inr (6, [.ref q6, .null, .null])) :: (([] ++ [(q6, .inl (cI, 4, .inl (fun _ => 0)))]) ++ [(q13, .inl (cI, 4, .inl (fun _ => 0)))])) := hD
  refine va_putF (D := D) (ci := 6) (v := .ref q13) (ty := .array .int) (C := RX6) (T := TX6) (N := 3) hx hb hts inX6 tyX6 tyX6_ok nmX6 hown hK.1 hP hD hS 0 rfl rfl 1 (by decide) (hts _ wfX6_13) (fun _ h9 => h9) rfl hin rfl (by decide +kernel) rfl rfl (Nat.le_of_ble_eq_true rfl) dX6_init_15 (fun H locs hP hD hS => ?_)
  have hP : va_P D vwCl ((h0, .inr (6, [.ref q6, .ref q13, .null])) :: (([] ++ [(q6, .inl (cI, 4, .inl (fun _ => 0)))]) ++ [(q13, .inl (cI, 4, .inl (fun _ => 0)))])) H := hP
  have hD : va_D A ((h0, .inr (6, [.ref q6, .ref q13, .null])) :: (([] ++ [(q6, .inl (cI, 4, .inl (fun _ => 0)))]) ++ [(q13, .inl (cI, 4, .inl (fun _ => 0)))])) := hD
  refine lv_aload_n hx hb dX6_init_18 rfl (lv_at hl 0 rfl) ?_
  refine lv_sipush (v := 160) hx hb dX6_init_19 (by decide) ?_
  refine ct_newL hx hb (hts _ w_arrL) hK.1 hP hD hS hA 160 (by decide) (by decide) (by decide) (Nat.le_of_ble_eq_true rfl) (Nat.le_of_ble_eq_true rfl) dX6_init_22 (fun q22 H hP hD hS => ?_)
  have hP : va_P D vwCl ((h0, .inr (6, [.ref q6, .ref q13, .null])) :: ((([] ++ [(q6, .inl (cI, 4, .inl (fun _ => 0)))]) ++ [(q13, .inl (cI, 4, .inl (fun _ => 0)))]) ++ [(q22, .inl (cL, 160, .inr (.inl (fun _ => 0))))])) H := hP
  have hD : va_D A ((h0, .inr (6, [.ref q6, .ref q13, .null])) :: ((([] ++ [(q6, .inl (cI, 4, .inl (fun _ => 0)))]) ++ [(q13, .inl (cI, 4, .inl (fun _ => 0)))]) ++ [(q22, .inl (cL, 160, .inr (.inl (fun _ => 0))))])) := hD
  refine va_putF (D := D) (ci := 6) (v := .ref q22) (ty := .array .long) (C := RX6) (T := TX6) (N := 3) hx hb hts inX6 tyX6 tyX6_ok nmX6 hown hK.1 hP hD hS 0 rfl rfl 2 (by decide) (hts _ wfX6_16) (fun _ h9 => h9) rfl hin rfl (by decide +kernel) rfl rfl (Nat.le_of_ble_eq_true rfl) dX6_init_24 (fun H locs hP hD hS => ?_)
  have hP : va_P D vwCl ((h0, .inr (6, [.ref q6, .ref q13, .ref q22])) :: ((([] ++ [(q6, .inl (cI, 4, .inl (fun _ => 0)))]) ++ [(q13, .inl (cI, 4, .inl (fun _ => 0)))]) ++ [(q22, .inl (cL, 160, .inr (.inl (fun _ => 0))))])) H := hP
  have hD : va_D A ((h0, .inr (6, [.ref q6, .ref q13, .ref q22])) :: ((([] ++ [(q6, .inl (cI, 4, .inl (fun _ => 0)))]) ++ [(q13, .inl (cI, 4, .inl (fun _ => 0)))]) ++ [(q22, .inl (cL, 160, .inr (.inl (fun _ => 0))))])) := hD
  refine W.widen (k := 3) (n := 168) (Nat.le_refl _) (Nat.le_refl _) ?_
  exact W.vret hx hb hr (fun t ht hW => ⟨⟨(q6, q13, q22), rfl, trivial, by rw [ht]; exact hP, hD⟩, hS.F ht⟩) hS.2.2 dX6_init_27
abbrev cX4 (cI cL : ClassId) (h0 : Nat) (u : (Nat × ((Nat × (Nat × Nat × Nat × Nat × Nat × Nat)) × (Nat × (Nat × Nat × Nat × Nat × Nat)) × (Nat × Nat)))) : va_W := (h0, .inr (4, [.ref (u.1)])) :: ([] ++ cX0 cI cL (u.1) (u.2))
set_option maxRecDepth 100000 in
set_option maxHeartbeats 4000000 in
theorem k_X4 : CT mX4_init 3 16 165 4 [.null] cX4 := by
  intro l D cI cL h0 sz
  refine Met.ofW (cc := cX4_init) (maxL := 1) (ret := none) (by decide) rfl ?_
  intro p e s m args below meth c s₁ B hml hv
  obtain ⟨rfl, hsz, hP, hK⟩ := hv
  have hx := B.exec
  have hb := B.bytes
  have hr := B.returns
  have hts0 := atoms_spec (ws := wsM mX4_init) B.pre
  have hts : ∀ w ∈ gw, w.before ([Value.ref h0] : List Value).toArray s = true := fun w hw => hts0 w (List.mem_cons_of_mem _ hw)
  have hown : s.vm.findClass RX4 = some m.cls := findClass_of_methodNamed B.named
  have hlocks := B.notSynchronized
  have hin : meth.name = "<init>" := (name_of_methodNamed B.named B.method).1
  subst hsz
  have hD : va_D (va_A [(h0, .inr (4, [.null]))] s.heap.size) [(h0, .inr (4, [.null]))] := va_D.self (A := fun _ => True) (D1 h0 _)
  generalize hAe : va_A [(h0, .inr (4, [.null]))] s.heap.size = A at hD ⊢
  have hA : ∀ q : Nat, s.heap.size ≤ q → A q := fun q h => by rw [← hAe]; exact Or.inr h
  have hS : va_S A s.heap s.heap [] := va_S.rf
  have hl := lv_entry ([.ref h0]) (n := 1) (Nat.le_of_ble_eq_true rfl)
  rw [lg_entry_eq]
  generalize (lg_sl ([.ref h0]) ++ List.replicate (1 - (lg_sl ([.ref h0])).length) Slot.unset).toArray = ls at hl ⊢
  have hl : lv_has ls 1 [(0, .ref h0)] := hl
  refine lv_aload_n hx hb dX4_init_0 rfl (lv_at hl 0 rfl) ?_
  refine W.objInit hx hb hown (hts _ wkX4_3) (hts _ w_oin) (hts _ w_ocd) rfl (by rw [hml]; exact hl.1) rfl dX4_init_1 (Nat.le_of_ble_eq_true rfl) (Nat.le_of_ble_eq_true rfl) ?_
  refine W.eq (g2 := F0 m 4 ls []) rfl ?_
  refine lv_aload_n hx hb dX4_init_4 rfl (lv_at hl 0 rfl) ?_
  refine va_new (ci := 0) (fs := [.null, .null, .null, .int 0, .int 0, .int 0]) (C := RX0) (T := TX0) (N := 6) hx hb hts inX0 tyX0 tyX0_ok hown (hts _ wcX4_9) (hts _ wi0) (hts _ wn0) hK.1 hP hD hS hA rfl df0 (Nat.le_of_ble_eq_true rfl) (Nat.le_of_ble_eq_true rfl) dX4_init_5 (fun q5 H hP hD hS => ?_)
  have hP : va_P D vwCl (((h0, .inr (4, [.null])) :: []) ++ [(q5, .inr (0, [.null, .null, .null, .int 0, .int 0, .int 0]))]) H := hP
  have hD : va_D A (((h0, .inr (4, [.null])) :: []) ++ [(q5, .inr (0, [.null, .null, .null, .int 0, .int 0, .int 0]))]) := hD
  refine lv_dup hx hb dX4_init_8 rfl ?_
  refine ct_call (M := mX4_init) (M' := mX0_init) (wr := (h0, .inr (4, [.null])) :: []) (rest := [.ref q5, .ref h0]) (host := RX9) k_X0 hx hb hml hl.1 hown hts hK hP hD hS hA (List.mem_of_getElem? (i := 6) rfl) wd0 rfl wn0 wm0 rfl (by decide +kernel) ⟨Nat.le_of_ble_eq_true rfl, Nat.le_of_ble_eq_true rfl⟩ ⟨Nat.le_of_ble_eq_true rfl, Nat.le_of_ble_eq_true rfl⟩ (Nat.le_of_ble_eq_true rfl) dX4_init_9 (fun u9 H locs hP hD hS => ?_)
  have hP : va_P D vwCl ((h0, .inr (4, [.null])) :: ([] ++ cX0 cI cL q5 u9)) H := hP
  have hD : va_D A ((h0, .inr (4, [.null])) :: ([] ++ cX0 cI cL q5 u9)) := hD
  refine va_putF (D := D) (ci := 4) (v := .ref q5) (ty := .object "TwentyPhrases$Book") (C := RX4) (T := TX4) (N := 1) hx hb hts inX4 tyX4 tyX4_ok nmX4 hown hK.1 hP hD hS 0 rfl rfl 0 (by decide) (hts _ wfX4_12) (fun _ h9 => h9) rfl hin rfl (by decide +kernel) rfl rfl (Nat.le_of_ble_eq_true rfl) dX4_init_12 (fun H locs hP hD hS => ?_)
  have hP : va_P D vwCl ((h0, .inr (4, [.ref q5])) :: ([] ++ cX0 cI cL q5 u9)) H := hP
  have hD : va_D A ((h0, .inr (4, [.ref q5])) :: ([] ++ cX0 cI cL q5 u9)) := hD
  refine W.widen (k := 16) (n := 165) (Nat.le_refl _) (Nat.le_refl _) ?_
  exact W.vret hx hb hr (fun t ht hW => ⟨⟨(q5, u9), rfl, trivial, by rw [ht]; exact hP, hD⟩, hS.F ht⟩) hS.2.2 dX4_init_15
