-- FROM THE LAW'S ENTRY to its loop
theorem ct_callL {p : Program} {l : Launch} {e : Env} {R : Room} {s : State} {m : MethodId} {args : Array Value} {below : List Frame} {meth : Method} {c : Code} {H : Heap} {locs : List Loc} {cells slots : Nat} {Q : State → Prop} {pc : Nat} {ls : Array Slot} {rest : List Value} {D : va_G} {A : Nat → Prop} {H0 : Heap} {cI cL : ClassId} {S : Type} {M M' : MD} {d mc ms ci ix q : Nat} {df : List Value} {cX : ClassId → ClassId → Nat → S → va_W} {wr : va_W} (hC : CT M' d mc ms ci df cX) (hexec : p.tables.exec = Jvm.exec) (hb : c.code = M.2.1) (hml : c.maxLocals = M.2.2.1) (hlz : ls.size = M.2.2.1) (hown : s.vm.findClass M.1.cls = some m.cls) (hts : ∀ w ∈ gw, w.before args s = true) (hK : ctK D cI cL s) (hP : va_P D vwCl (wr ++ [(q, .inr (ci, df))]) H) (hD : va_D A (wr ++ [(q, .inr (ci, df))])) (hS : va_S A H0 H locs) (hA : ∀ q, H0.size ≤ q → A q)
    (hlk : Cond.methodLink M.1.cls ix M'.1 ∈ gw) (hcd : Cond.code M'.1 M'.2.1 M'.2.2.1 M'.2.2.2 ∈ gw) (hret : M'.2.2.2 = none) (hini : Cond.initialized M'.1.cls ∈ gw) (hins : Cond.instanceMethod M'.1 ∈ gw) (hnm : M'.1.name = "<init>") (hpd : M'.1.cls ≠ "java/lang/invoke/MethodHandle" ∧ M'.1.cls ≠ "java/lang/invoke/VarHandle" ∧ (parseMethodDescriptor M'.1.desc).map (fun d => d.parameters.length) = some 0) (hroom : d + 1 ≤ R.frames ∧ 8 + (M'.2.2.1 + 11) + 40 * d ≤ R.locals) (hf : cells + mc ≤ R.cells ∧ slots + ms ≤ R.slots) (hcat : (rest.map fun v => v.category).sum ≤ 8) (hdg : decode M.2.1 pc = .ok (.invokespecial ix, 3))
    (kk : ∀ (u : S) (H1 : Heap) (locs1 : List Loc), va_P D vwCl (wr ++ cX cI cL q u) H1 → va_D A (wr ++ cX cI cL q u) → va_S A H0 H1 locs1 → W p l e R s m args below meth c H1 locs1 (cells + mc) (slots + ms) Q (F0 m (pc + 3) ls rest)) : W p l e R s m args below meth c H locs cells slots Q (F0 m pc ls (.ref q :: rest)) := by
  have hcq : [wr.length].map (fun i => (wr ++ [(q, (.inr (ci, df) : va_E))])[i]?) = [(q, (.inr (ci, df) : va_E))].map some := by simp
  have hF := va_free hD hS hA [wr.length] hcq
  have hPc : va_P D vwCl [(q, .inr (ci, df))] H := hP.sub [wr.length] (by simp)
  refine va_callv (va_runI (As := []) (rest := rest) ⟨hexec, hb, hml, hown, hts⟩ (hC l D cI cL q H.size) (cwI (ws' := gw) 0 hts (gw_cons hcd) (by unfold wsM; rw [hret]) rfl rfl (hts _ hini) (hts _ hlk) (hts _ hins) hnm hpd hroom) ⟨ct_blind, fun U hU hW => ⟨rfl, by rw [hU], by rw [hU]; exact hPc, va_K.moved hW.alike hK.1, fun z hz => va_Nw.warmM hW (hK.2 z hz)⟩⟩ rfl rfl hlz rfl (lv_room hcat) hdg hf) hS (fun a _ h => hF a h) hF (fun u t H1 locs1 ht hvm hw hB hz1 hk1 hS1 => ?_)
  obtain ⟨hP1, hD1⟩ := hB
  rw [ht] at hP1
  obtain ⟨hP2, hD2⟩ := ct_join hP hD hS hA hk1 hP1 hD1
  exact kk u H1 locs1 hP2 hD2 hS1
theorem wl7 : Cond.classLink RL 7 RX9 ∈ gw := gw_at 85 (by decide +kernel) (by decide +kernel)
theorem wl10 : Cond.classLink RL 10 RX10 ∈ gw := gw_at 1021 (by decide +kernel) (by decide +kernel)
theorem wi9 : Cond.instantiable RX9 8 ∈ gw := gw_at 86 (by decide +kernel) (by decide +kernel)
theorem wi10 : Cond.instantiable RX10 21 ∈ gw := gw_at 1022 (by decide +kernel) (by decide +kernel)
theorem wn9 : Cond.initialized RX9 ∈ gw := gw_at 67 (by decide +kernel) (by decide +kernel)
theorem wn10 : Cond.initialized RX10 ∈ gw := gw_at 77 (by decide +kernel) (by decide +kernel)
theorem wlk9 : Cond.methodLink RL 9 yX9_init ∈ gw := gw_at 87 (by decide +kernel) (by decide +kernel)
theorem wlk12 : Cond.methodLink RL 12 yX10_init ∈ gw := gw_at 1023 (by decide +kernel) (by decide +kernel)
theorem wd9 : Cond.code yX9_init cX9_init 1 none ∈ gw := gw_at 89 (by decide +kernel) (by decide +kernel)
theorem wd10 : Cond.code yX10_init cX10_init 1 none ∈ gw := gw_at 1025 (by decide +kernel) (by decide +kernel)
theorem wm9 : Cond.instanceMethod yX9_init ∈ gw := gw_at 88 (by decide +kernel) (by decide +kernel)
theorem wm10 : Cond.instanceMethod yX10_init ∈ gw := gw_at 1024 (by decide +kernel) (by decide +kernel)
/-- what holds at the law's entry (as the skeleton says it) -/
def lw_At (p : Program) (s : State) (m : MethodId) (meth : Method) (c : Code) (b L : Nat) (xs : Nat → Int32) : Prop :=
  p.tables.exec = Jvm.exec ∧ c.code = code ∧ meth.sig.returnType = ret ∧ c.maxLocals = 4 ∧ s.vm.findClass R_law = some m.cls ∧ (∀ w ∈ lw_tbl, w.before #[Value.ref b] s = true) ∧ va_X b L xs s s.heap ∧ b < s.heap.size ∧ meth.locks = false ∧ (Jvm.Cond.and given_1 narrow_1).before #[Value.ref b] s = true
set_option maxRecDepth 100000 in
set_option maxHeartbeats 4000000 in
theorem start_open (hlaw : ∀ (n : Nat) (xs : Nat → Int32), n ≤ 3072 → ∃ k, loopN (SL_law_18 n xs) k (0, h00, L00) = some 1) {p : Program} {e : Env} {s : State} {m : MethodId} {below : List Frame} {meth : Method} {c : Code} (l : Launch) {b L : Nat} {xs : Nat → Int32} (hL : L ≤ 3072) (C0 : lw_At p s m meth c b L xs) : W p l e room_1 s m #[Value.ref b] below meth c s.heap [] 0 0 (lw_Z below #[Value.ref b] s) (entryFrame m ([Value.ref b] : List Value).toArray 4) := by
  obtain ⟨hx, hb, hr, hml, hown, hts0, hX, hbl, hlocks, hgv⟩ := C0
  have hts : ∀ w ∈ gw, w.before #[Value.ref b] s = true := fun w hw => hts0 w (List.mem_filter.mp hw).1
  have hg := flat_of_before _ hgv
  have hA : ∀ q : Nat, s.heap.size ≤ q → (fun q : Nat => s.heap.size ≤ q) q := fun _ h => h
  obtain ⟨D, hD0⟩ := st_cls hts0
  obtain ⟨cI, cL, hcI, hcL⟩ := st_arr hts0
  obtain ⟨tS, htS⟩ := ss_all hts0 hg
  obtain ⟨aK, aV, hstr, hev⟩ := st_str hg
  have hsr := sr_all hts0 hev
  have hcm := st_cmp hts0 hg
  have hfm := st_fmt hts0 hg
  have hK : ctK D cI cL s := ⟨⟨hD0, fun k q hk => by
    match k, hk with
    | 0, hk => cases hk; exact hcI
    | 1, hk => cases hk; exact hcL
    | k + 2, hk => simp at hk⟩, sn_all hts0⟩
  have hS : va_S (fun q : Nat => s.heap.size ≤ q) s.heap s.heap [] := va_S.rf
  have hP : va_P D vwCl [] s.heap := fun k q h => by simp at h
  have hD : va_D (fun q : Nat => s.heap.size ≤ q) [] := ⟨fun i j p q h => by simp at h, fun k q h => by simp at h⟩
  have hl := lv_entry ([.ref b]) (n := 4) (Nat.le_of_ble_eq_true rfl)
  rw [lg_entry_eq]
  generalize (lg_sl ([.ref b]) ++ List.replicate (4 - (lg_sl ([.ref b])).length) Slot.unset).toArray = ls at hl ⊢
  have hl : lv_has ls 4 [(0, .ref b)] := hl
  refine va_new (ci := 9) (fs := [.null, .null, .null, .int 0, .null, .null, .null, .null]) (C := RX9) (T := TX9) (N := 8) hx hb hts inX9 tyX9 tyX9_ok hown (hts _ wl7) (hts _ wi9) (hts _ wn9) hK.1 hP hD hS hA rfl df9 (Nat.le_of_ble_eq_true rfl) (Nat.le_of_ble_eq_true rfl) dL_law_0 (fun x H hP hD hS => ?_)
  refine lv_dup hx hb dL_law_3 rfl ?_
  refine ct_callL (M := mL_law) (M' := mX9_init) (wr := []) (rest := [.ref x]) k_X9 hx hb hml hl.1 hown hts hK hP hD hS hA wlk9 wd9 rfl wn9 wm9 rfl (by decide +kernel) ⟨Nat.le_of_ble_eq_true rfl, Nat.le_of_ble_eq_true rfl⟩ ⟨Nat.le_of_ble_eq_true rfl, Nat.le_of_ble_eq_true rfl⟩ (Nat.le_of_ble_eq_true rfl) dL_law_4 (fun u H locs hP hD hS => ?_)
  have hP : va_P D vwCl (cX9 cI cL x u) H := hP
  have hD : va_D (fun q : Nat => s.heap.size ≤ q) (cX9 cI cL x u) := hD
  refine lv_astore_n (lv' := [(1, .ref x), (0, .ref b)]) hx hb dL_law_7 rfl hl (by decide) rfl (fun ls hl => ?_)
  refine va_new (ci := 10) (fs := [.null, .null, .null, .null, .int 0, .int 0, .int 0, .int 0, .null, .null, .int 0, .null, .int 0, .int 0, .int 0, .int 0, .int 0, .null, .null, .null, .null]) (C := RX10) (T := TX10) (N := 21) hx hb hts inX10 tyX10 tyX10_ok hown (hts _ wl10) (hts _ wi10) (hts _ wn10) hK.1 hP hD hS hA rfl df10 (Nat.le_of_ble_eq_true rfl) (Nat.le_of_ble_eq_true rfl) dL_law_8 (fun y H hP hD hS => ?_)
  refine lv_dup hx hb dL_law_11 rfl ?_
  refine ct_callL (M := mL_law) (M' := mX10_init) (wr := cX9 cI cL x u) (rest := [.ref y]) k_X10 hx hb hml hl.1 hown hts hK hP hD hS hA wlk12 wd10 rfl wn10 wm10 rfl (by decide +kernel) ⟨Nat.le_of_ble_eq_true rfl, Nat.le_of_ble_eq_true rfl⟩ ⟨Nat.le_of_ble_eq_true rfl, Nat.le_of_ble_eq_true rfl⟩ (Nat.le_of_ble_eq_true rfl) dL_law_12 (fun v H locs hP hD hS => ?_)
  refine lv_astore_n (lv' := [(2, .ref y), (1, .ref x), (0, .ref b)]) hx hb dL_law_15 rfl hl (by decide) rfl (fun ls hl => ?_)
  refine va_forget (fun q hq => hS.2.2 q hq) ?_
  have hE := wE D cI cL b x y u v tS aK aV
  generalize hω : (D, adW b x y u v tS aK aV, acW cI cL) = ω at hE
  have hnd : va_nd plW = true := by decide +kernel
  have hPW : va_P ω.1 vwCl (wsW ω h00 L00) H := by
    rw [← hω] at hE ⊢
    exact hP.sub plW (fm_of hE)
  have hDW : va_D (fun q : Nat => s.heap.size ≤ q) (wsW ω h00 L00) := hD.sub plW hnd hE
  have hAW : ∀ a, Aω ω a → s.heap.size ≤ a := fun a ha => by
    obtain ⟨q, hq, rfl⟩ := ha
    obtain ⟨i, hi⟩ := List.getElem?_of_mem hq
    exact hDW.2 i _ (ws_at hi)
  have hSt : St ω s s.heap := by
    refine ⟨?_, ?_, ?_, hK.2, ?_, ?_, ?_, hcm.narrow hAW, hfm.narrow hAW⟩
    · rw [← hω]
      exact ⟨hD0, fun k q h => by simp at h⟩
    · intro g k hc hi
      rw [← hω]
      show ArrOfT s (if isL k = true then cL else cI) (if isL k = true then FieldType.long else FieldType.int) ∧ va_RA s (if isL k = true then cL else cI) (if isL k = true then FieldType.long else FieldType.int)
      by_cases z : isL k = true
      · rw [if_pos z, if_pos z]; exact hcL
      · rw [if_neg z, if_neg z]; exact hcI
    · intro q hq q' hq' e
      obtain ⟨i, hi⟩ := List.getElem?_of_mem hq
      obtain ⟨j, hj⟩ := List.getElem?_of_mem hq'
      have h1 := hDW.1 i j _ _ (ws_at hi) (ws_at hj) e
      subst h1
      rw [hi] at hj
      exact Option.some.inj hj
    · intro j q hj
      have h1 := htS j q hj
      rw [← hω]
      rw [← hω] at hAW
      exact ⟨h1.1.narrow hAW, h1.2.narrow hAW⟩
    · intro i q hi
      have h1 := hsr i q hi
      rw [← hω]
      exact vk_R.of h1.1 h1.2
    · have h1 := hstr.narrow hAW
      rw [← hω] at h1 ⊢
      exact h1
  obtain ⟨k, hk⟩ := hlaw L xs hL
  have hV := law_loop (b := b) k hk
  have hV16 : V mL_law 12 (ZL b L xs) 16 [some (aR 12 0), some (aR 3 16), some (aR 8 32), none] [] h00 L00 := by
    refine v_iconst (M := mL_law) (pc := 16) (v := 0) 17 dL_law_16 rfl ic0 ?_
    refine v_istore_n (M := mL_law) (pc := 17) 18 dL_law_17 rfl rfl rfl ?_
    exact hV
  refine hV16 ω p l e room_1 s m #[Value.ref b] below meth c H [] ls ⟨hx, hb, hr, hlocks, hml, hown, hts, hSt, Nat.le_of_ble_eq_true rfl, Nat.le_of_ble_eq_true rfl, Nat.le_of_ble_eq_true rfl, Nat.le_of_ble_eq_true rfl, ?_⟩ hPW ⟨hS.1, fun q h1 _ => hS.2.1 q h1 (Nat.not_le.mpr h1), fun l hl => by simp at hl⟩ ?_
  · refine ⟨?_, hX, hbl, hAW⟩
    rw [← hω]
    rfl
  · rw [← hω]
    exact lv_sub hl [2, 1, 0] rfl
