-- String.length and String.charAt of the constants of Grammar
set_option maxRecDepth 100000 in
theorem c_coder {h : HI} {L : HL} {i : Nat} (hi : i < 15) : Con mJ0_coder_7d493 0 [aR 10 i] h L (Rt (some (aI 0)) h L) := by
  refine con_of [some (aR 10 i)] rfl (by decide) rfl rfl ?_
  refine v_cmpS (M := mJ0_coder_7d493) (pc := 0) 3 dJ0_coder_7d493_0 rfl sJ0_38 ?_
  refine v_if_eq (M := mJ0_coder_7d493) (pc := 3) 13 6 dJ0_coder_7d493_3 (by decide) rfl (fun z => absurd z (by decide)) (fun _ => ?_)
  refine v_aload_n (M := mJ0_coder_7d493) (pc := 6) 7 dJ0_coder_7d493_6 rfl rfl rfl ?_
  refine v_strC (M := mJ0_coder_7d493) (pc := 7) 10 dJ0_coder_7d493_7 rfl sJ0_15 hi ?_
  refine v_goto (M := mJ0_coder_7d493) (pc := 10) 14 dJ0_coder_7d493_10 (by decide) ?_
  exact v_iret (M := mJ0_coder_7d493) (pc := 14) dJ0_coder_7d493_14 rfl (by decide) ⟨rfl, rfl, rfl⟩
set_option maxRecDepth 100000 in
theorem c_latin {h : HI} {L : HL} {i : Nat} (hi : i < 15) : Con mJ0_isLatin1_aae02 0 [aR 10 i] h L (Rt (some (aI 1)) h L) := by
  refine con_of [some (aR 10 i)] rfl (by decide) rfl rfl ?_
  refine v_cmpS (M := mJ0_isLatin1_aae02) (pc := 0) 3 dJ0_isLatin1_aae02_0 rfl sJ0_38 ?_
  refine v_if_eq (M := mJ0_isLatin1_aae02) (pc := 3) 17 6 dJ0_isLatin1_aae02_3 (by decide) rfl (fun z => absurd z (by decide)) (fun _ => ?_)
  refine v_aload_n (M := mJ0_isLatin1_aae02) (pc := 6) 7 dJ0_isLatin1_aae02_6 rfl rfl rfl ?_
  refine v_strC (M := mJ0_isLatin1_aae02) (pc := 7) 10 dJ0_isLatin1_aae02_7 rfl sJ0_15 hi ?_
  refine v_if_ne (M := mJ0_isLatin1_aae02) (pc := 10) 17 13 dJ0_isLatin1_aae02_10 (by decide) rfl (fun z => absurd rfl z) (fun _ => ?_)
  refine v_iconst (M := mJ0_isLatin1_aae02) (pc := 13) (v := 1) 14 dJ0_isLatin1_aae02_13 rfl ic1 ?_
  refine v_goto (M := mJ0_isLatin1_aae02) (pc := 14) 18 dJ0_isLatin1_aae02_14 (by decide) ?_
  exact v_iret (M := mJ0_isLatin1_aae02) (pc := 18) dJ0_isLatin1_aae02_18 rfl nz1 ⟨rfl, rfl, rfl⟩
set_option maxRecDepth 100000 in
theorem c_slength {h : HI} {L : HL} {i : Nat} (hi : i < 15) : Con mJ0_length_8abf5 1 [aR 10 i] h L (Rt (some (aI (nI (lenS.getD i 0)))) h L) := by
  refine con_of [some (aR 10 i)] rfl (by decide) rfl rfl ?_
  refine v_aload_n (M := mJ0_length_8abf5) (pc := 0) 1 dJ0_length_8abf5_0 rfl rfl rfl ?_
  refine v_strV (M := mJ0_length_8abf5) (pc := 1) 4 dJ0_length_8abf5_1 rfl sJ0_9 hi ?_
  refine v_blen (M := mJ0_length_8abf5) (pc := 4) 5 dJ0_length_8abf5_4 rfl hi ?_
  refine v_aload_n (M := mJ0_length_8abf5) (pc := 5) 6 dJ0_length_8abf5_5 rfl rfl rfl ?_
  refine v_callT (M := mJ0_length_8abf5) (pc := 6) (M' := mJ0_coder_7d493) (rest := [aI (nI (lenS.getD i 0))]) (d' := 0) (n := 0) (av := []) 9 dJ0_length_8abf5_6 rfl kJ0_335 okJ0_coder_7d493 (c_coder hi) (Nat.le_refl _) hi rfl rfl rfl (Nat.le_of_ble_eq_true rfl) (fun r h' L' z => ?_)
  obtain ⟨rfl, rfl, rfl⟩ := z
  refine v_ishr (M := mJ0_length_8abf5) (pc := 9) (rest := []) (x := nI (lenS.getD i 0)) (y := 0) 10 dJ0_length_8abf5_9 rfl ?_
  rw [sb_shr0]
  exact v_iret (M := mJ0_length_8abf5) (pc := 10) dJ0_length_8abf5_10 rfl rfl ⟨rfl, rfl, rfl⟩
set_option maxRecDepth 100000 in
theorem c_pcheck {h : HI} {L : HL} {j n : Int32} {v : Value} (hv : v.category = 1) (h0 : ¬ j < 0) (h1 : j < n) : Con mJ3_checkIndex_8e157 0 [aI j, aI n, aV v] h L (Rt (some (aI j)) h L) := by
  refine con_ofR (fun w hw x e => ?_) (by decide) (Nat.le_of_ble_eq_true rfl) ?_
  · subst e
    simp only [List.mem_cons, List.not_mem_nil, or_false] at hw
    rcases hw with hw | hw | hw
    · cases hw
    · cases hw
    · cases hw; exact hv
  · show V mJ3_checkIndex_8e157 0 _ 0 [some (aI j), some (aI n), some (aV v)] [] h L
    refine v_iload_n (M := mJ3_checkIndex_8e157) (pc := 0) 1 dJ3_checkIndex_8e157_0 rfl rfl rfl ?_
    refine v_if_lt (M := mJ3_checkIndex_8e157) (pc := 1) 9 4 dJ3_checkIndex_8e157_1 (by decide) rfl (fun z => absurd z h0) (fun _ => ?_)
    refine v_iload_n (M := mJ3_checkIndex_8e157) (pc := 4) 5 dJ3_checkIndex_8e157_4 rfl rfl rfl ?_
    refine v_iload_n (M := mJ3_checkIndex_8e157) (pc := 5) 6 dJ3_checkIndex_8e157_5 rfl rfl rfl ?_
    refine v_icmp_lt (M := mJ3_checkIndex_8e157) (pc := 6) 16 9 dJ3_checkIndex_8e157_6 (by decide) rfl (fun _ => ?_) (fun z => absurd h1 z)
    refine v_iload_n (M := mJ3_checkIndex_8e157) (pc := 16) 17 dJ3_checkIndex_8e157_16 rfl rfl rfl ?_
    exact v_iret (M := mJ3_checkIndex_8e157) (pc := 17) dJ3_checkIndex_8e157_17 rfl rfl ⟨rfl, rfl, rfl⟩
set_option maxRecDepth 100000 in
theorem c_scheck {h : HI} {L : HL} {j n : Int32} (h0 : ¬ j < 0) (h1 : j < n) : Con mJ0_checkIndex_df160 1 [aI j, aI n] h L (Rt none h L) := by
  refine con_of [some (aI j), some (aI n)] rfl (by decide) rfl rfl ?_
  refine v_iload_n (M := mJ0_checkIndex_df160) (pc := 0) 1 dJ0_checkIndex_df160_0 rfl rfl rfl ?_
  refine v_iload_n (M := mJ0_checkIndex_df160) (pc := 1) 2 dJ0_checkIndex_df160_1 rfl rfl rfl ?_
  refine v_siob (M := mJ0_checkIndex_df160) (pc := 2) 5 dJ0_checkIndex_df160_2 rfl sJ0_1053 (fun v hv => ?_)
  refine v_callS (M := mJ0_checkIndex_df160) (pc := 5) (M' := mJ3_checkIndex_8e157) (rest := []) (n := 3) 8 dJ0_checkIndex_df160_5 rfl kJ0_1059 okJ3_checkIndex_8e157 (c_pcheck hv h0 h1) (Nat.le_refl _) rfl rfl (by decide) (fun r h' L' z => ?_)
  obtain ⟨rfl, rfl, rfl⟩ := z
  refine v_pop (M := mJ0_checkIndex_df160) (pc := 8) (v := aI j) (rest := []) 9 dJ0_checkIndex_df160_8 rfl rfl ?_
  exact v_vret (M := mJ0_checkIndex_df160) (pc := 9) dJ0_checkIndex_df160_9 rfl ⟨rfl, rfl, rfl⟩
theorem byt_ok : ∀ i, i < 15 → ∀ j, j < lenS.getD i 0 → ((bytS.getD i []).getD j 0) &&& 255 = (bytS.getD i []).getD j 0 := by
  have h : ∀ i : Fin 15, ∀ j : Fin 8, ((bytS.getD i.val []).getD j.val 0) &&& 255 = (bytS.getD i.val []).getD j.val 0 := by decide +kernel
  have hl : ∀ i : Fin 15, lenS.getD i.val 0 < 8 := by decide +kernel
  intro i hi j hj
  have := hl ⟨i, hi⟩
  exact h ⟨i, hi⟩ ⟨j, Nat.lt_trans hj this⟩
theorem len_lt (i : Nat) : lenS.getD i 0 < 2 ^ 31 := by
  have hl : ∀ i : Fin 15, lenS.getD i.val 0 < 8 := by decide +kernel
  by_cases h : i < 15
  · have := hl ⟨i, h⟩
    have e : lenS.getD i 0 < 8 := this
    omega
  · have e : lenS.getD i 0 = 0 := by
      rw [List.getD_eq_getElem?_getD, List.getElem?_eq_none (by show 15 ≤ i; omega)]
      rfl
    omega
set_option maxRecDepth 100000 in
theorem c_lchar {h : HI} {L : HL} {i j : Nat} (hi : i < 15) (hj : j < lenS.getD i 0) : Con mJ1_charAt_3b067 2 [aR 11 i, aI (nI j)] h L (Rt (some (aI ((bytS.getD i []).getD j 0))) h L) := by
  have hl := len_lt i
  refine con_of [some (aR 11 i), some (aI (nI j))] rfl (by decide) rfl rfl ?_
  refine v_iload_n (M := mJ1_charAt_3b067) (pc := 0) 1 dJ1_charAt_3b067_0 rfl rfl rfl ?_
  refine v_aload_n (M := mJ1_charAt_3b067) (pc := 1) 2 dJ1_charAt_3b067_1 rfl rfl rfl ?_
  refine v_blen (M := mJ1_charAt_3b067) (pc := 2) 3 dJ1_charAt_3b067_2 rfl hi ?_
  refine v_callS (M := mJ1_charAt_3b067) (pc := 3) (M' := mJ0_checkIndex_df160) (rest := []) (n := 2) 6 dJ1_charAt_3b067_3 rfl kJ1_9 okJ0_checkIndex_df160 (c_scheck (nI_pos (by omega)) (nI_lt hj hl)) (Nat.le_refl _) rfl rfl (by decide) (fun r h' L' z => ?_)
  obtain ⟨rfl, rfl, rfl⟩ := z
  show V _ _ _ 6 _ [] _ _
  refine v_aload_n (M := mJ1_charAt_3b067) (pc := 6) 7 dJ1_charAt_3b067_6 rfl rfl rfl ?_
  refine v_iload_n (M := mJ1_charAt_3b067) (pc := 7) 8 dJ1_charAt_3b067_7 rfl rfl rfl ?_
  refine v_bald (M := mJ1_charAt_3b067) (pc := 8) (j := j) 9 dJ1_charAt_3b067_8 rfl hi rfl hj (by omega) ?_
  refine v_sipush (M := mJ1_charAt_3b067) (pc := 9) (v := 255) 12 dJ1_charAt_3b067_9 rfl (by decide) ?_
  refine v_iand (M := mJ1_charAt_3b067) (pc := 12) 13 dJ1_charAt_3b067_12 rfl ?_
  refine v_i2c (M := mJ1_charAt_3b067) (pc := 13) 14 dJ1_charAt_3b067_13 rfl ?_
  rw [sc_c2, byt_ok i hi j hj]
  refine v_iret (M := mJ1_charAt_3b067) (pc := 14) dJ1_charAt_3b067_14 rfl ?_ ⟨rfl, rfl, rfl⟩
  rw [← byt_ok i hi j hj]
  exact sc_nar _
set_option maxRecDepth 100000 in
theorem c_schar {h : HI} {L : HL} {i j : Nat} (hi : i < 15) (hj : j < lenS.getD i 0) : Con mJ0_charAt_5068e 3 [aR 10 i, aI (nI j)] h L (Rt (some (aI ((bytS.getD i []).getD j 0))) h L) := by
  refine con_of [some (aR 10 i), some (aI (nI j))] rfl (by decide) rfl rfl ?_
  refine v_aload_n (M := mJ0_charAt_5068e) (pc := 0) 1 dJ0_charAt_5068e_0 rfl rfl rfl ?_
  refine v_callT (M := mJ0_charAt_5068e) (pc := 1) (M' := mJ0_isLatin1_aae02) (rest := []) (d' := 0) (n := 0) (av := []) 4 dJ0_charAt_5068e_1 rfl kJ0_492 okJ0_isLatin1_aae02 (c_latin hi) (by omega) hi rfl rfl rfl (by decide) (fun r h' L' z => ?_)
  obtain ⟨rfl, rfl, rfl⟩ := z
  refine v_if_eq (M := mJ0_charAt_5068e) (pc := 4) (x := 1) (rest := []) 16 7 dJ0_charAt_5068e_4 (by decide) rfl (fun z => absurd z (by decide)) (fun _ => ?_)
  refine v_aload_n (M := mJ0_charAt_5068e) (pc := 7) 8 dJ0_charAt_5068e_7 rfl rfl rfl ?_
  refine v_strV (M := mJ0_charAt_5068e) (pc := 8) 11 dJ0_charAt_5068e_8 rfl sJ0_9 hi ?_
  refine v_iload_n (M := mJ0_charAt_5068e) (pc := 11) 12 dJ0_charAt_5068e_11 rfl rfl rfl ?_
  refine v_callS (M := mJ0_charAt_5068e) (pc := 12) (M' := mJ1_charAt_3b067) (rest := []) (n := 2) 15 dJ0_charAt_5068e_12 rfl kJ0_495 okJ1_charAt_3b067 (c_lchar hi hj) (Nat.le_refl _) rfl rfl (by decide) (fun r h' L' z => ?_)
  obtain ⟨rfl, rfl, rfl⟩ := z
  show V _ _ _ 15 _ [_] _ _
  refine v_iret (M := mJ0_charAt_5068e) (pc := 15) dJ0_charAt_5068e_15 rfl ?_ ⟨rfl, rfl, rfl⟩
  rw [← byt_ok i hi j hj]
  exact sc_nar _
section VXText
variable {β : Type} {M : MD} {d : Nat} {T : ZT} {G : β → Prop} {pc : Nat} {ls : List (Option AV)} {rest : List AV} {h : HI} {L : HL} {o : Option β}
theorem g_strlen {ix i : Nat} (q : Nat) (hdg : decode M.2.1 pc = .ok (.invokevirtual ix, 3)) (hp : pc + 3 = q) (hlk : Cond.methodLink M.1.cls ix yJ0_length_8abf5 ∈ gw) (hd : Nat.ble 2 d = true) (hcat : Nat.ble (rest.map catA).sum 8 = true) (k : VX M d T G q ls (aI (nI (lenS.getD i 0)) :: rest) h L o) : VX M d T G pc ls (aR 10 i :: rest) h L (gd (decide (i < 15)) o) := fun b e z => by
  obtain ⟨h1, h2⟩ := gd_some e
  have hi : i < 15 := of_decide_eq_true h1
  refine v_callT (M' := mJ0_length_8abf5) (rest := rest) (d' := 1) (n := 0) (av := []) q hdg hp hlk okJ0_length_8abf5 (c_slength hi) (Nat.le_of_ble_eq_true hd) hi rfl rfl rfl (Nat.le_of_ble_eq_true hcat) (fun r h' L' y => ?_)
  obtain ⟨rfl, rfl, rfl⟩ := y
  exact k b h2 z
theorem g_strchr {ix i : Nat} {j : Int32} (q : Nat) (hdg : decode M.2.1 pc = .ok (.invokevirtual ix, 3)) (hp : pc + 3 = q) (hlk : Cond.methodLink M.1.cls ix yJ0_charAt_5068e ∈ gw) (hd : Nat.ble 4 d = true) (hcat : Nat.ble (rest.map catA).sum 8 = true) (k : VX M d T G q ls (aI ((bytS.getD i []).getD (nC j) 0) :: rest) h L o) : VX M d T G pc ls (aI j :: aR 10 i :: rest) h L (gd (decide (i < 15) && ixb j (lenS.getD i 0)) o) := fun b e z => by
  obtain ⟨h1, h2⟩ := gd_some e
  rw [Bool.and_eq_true] at h1
  have hi : i < 15 := of_decide_eq_true h1.1
  obtain ⟨h3, h4⟩ := ixb_iff.mp h1.2
  have hj : j = nI (nC j) := nC_nI h3
  have hC : Con mJ0_charAt_5068e 3 [aR 10 i, aI j] h L (Rt (some (aI ((bytS.getD i []).getD (nC j) 0))) h L) := by
    have y := c_schar (h := h) (L := L) hi h4
    rw [← hj] at y
    exact y
  refine v_callT (M' := mJ0_charAt_5068e) (rest := rest) (d' := 3) (n := 1) (av := [aI j]) q hdg hp hlk okJ0_charAt_5068e hC (Nat.le_of_ble_eq_true hd) hi rfl rfl rfl (Nat.le_of_ble_eq_true hcat) (fun r h' L' y => ?_)
  obtain ⟨rfl, rfl, rfl⟩ := y
  exact k b h2 z
end VXText
