-- leaves: TwentyPhrases.within, isIn, metFrom, exchange; Book.isKnown
def wi (v a b : Int32) : Bool := decide (a ≤ v) && decide (v ≤ b)
set_option maxRecDepth 100000 in
set_option maxHeartbeats 4000000 in
theorem c_within {h : HI} {L : HL} (v a b : Int32) : Con mX9_within 0 [aI v, aI a, aI b] h L (Rt (some (aI (bI (wi v a b)))) h L) := by
  refine con_of _ rfl (by decide) rfl rfl ?_
  refine v_iload_n 1 dX9_within_0 rfl rfl rfl ?_
  refine v_iload_n 2 dX9_within_1 rfl rfl rfl ?_
  refine v_icmp_lt 14 5 dX9_within_2 (by decide) rfl (fun c2 => ?_) (fun c2 => ?_)
  · refine v_iconst (v := 0) 15 dX9_within_14 rfl (by decide) ?_
    refine v_iret dX9_within_15 rfl (by first | rfl | exact bI_nar _ | decide) ?_
    refine ⟨?_, rfl, rfl⟩
    simp_all [wi, bI, Int32.not_lt, Int32.not_le]
  · refine v_iload_n 6 dX9_within_5 rfl rfl rfl ?_
    refine v_iload_n 7 dX9_within_6 rfl rfl rfl ?_
    refine v_icmp_gt 14 10 dX9_within_7 (by decide) rfl (fun c7 => ?_) (fun c7 => ?_)
    · refine v_iconst (v := 0) 15 dX9_within_14 rfl (by decide) ?_
      refine v_iret dX9_within_15 rfl (by first | rfl | exact bI_nar _ | decide) ?_
      refine ⟨?_, rfl, rfl⟩
      simp_all [wi, bI, Int32.not_lt, Int32.not_le]
    · refine v_iconst (v := 1) 11 dX9_within_10 rfl (by decide) ?_
      refine v_goto 15 dX9_within_11 (by decide) ?_
      refine v_iret dX9_within_15 rfl (by first | rfl | exact bI_nar _ | decide) ?_
      refine ⟨?_, rfl, rfl⟩
      simp_all [wi, bI, Int32.not_lt, Int32.not_le]

def hs (set p : Int32) : Bool := decide (¬ (set >>> (p &&& 31)) &&& 1 = 0)
set_option maxRecDepth 100000 in
set_option maxHeartbeats 4000000 in
theorem c_isIn {h : HI} {L : HL} (set p : Int32) : Con mX9_isIn 0 [aI set, aI p] h L (Rt (some (aI (bI (hs set p)))) h L) := by
  refine con_of _ rfl (by decide) rfl rfl ?_
  refine v_iload_n 1 dX9_isIn_0 rfl rfl rfl ?_
  refine v_iload_n 2 dX9_isIn_1 rfl rfl rfl ?_
  refine v_ishr 3 dX9_isIn_2 rfl ?_
  refine v_iconst (v := 1) 4 dX9_isIn_3 rfl (by decide) ?_
  refine v_iand 5 dX9_isIn_4 rfl ?_
  refine v_if_eq 12 8 dX9_isIn_5 (by decide) rfl (fun c5 => ?_) (fun c5 => ?_)
  · refine v_iconst (v := 0) 13 dX9_isIn_12 rfl (by decide) ?_
    refine v_iret dX9_isIn_13 rfl (by first | rfl | exact bI_nar _ | decide) ?_
    refine ⟨?_, rfl, rfl⟩
    simp_all [hs, bI]
  · refine v_iconst (v := 1) 9 dX9_isIn_8 rfl (by decide) ?_
    refine v_goto 13 dX9_isIn_9 (by decide) ?_
    refine v_iret dX9_isIn_13 rfl (by first | rfl | exact bI_nar _ | decide) ?_
    refine ⟨?_, rfl, rfl⟩
    simp_all [hs, bI]

def mF (w m : Int32) (b : Bool) : Int32 := if (if b = true then m + w / 5 else m) < w then (if b = true then m + w / 5 else m) else w
set_option maxRecDepth 100000 in
set_option maxHeartbeats 4000000 in
theorem c_metFrom {h : HI} {L : HL} (w m : Int32) (b : Bool) : Con mX9_metFrom 1 [aI w, aI m, aI (bI b)] h L (Rt (some (aI (mF w m b))) h L) := by
  refine con_of _ rfl (by decide) rfl rfl ?_
  refine v_iload_n 1 dX9_metFrom_0 rfl rfl rfl ?_
  refine v_iload_n 2 dX9_metFrom_1 rfl rfl rfl ?_
  refine v_if_eq 13 5 dX9_metFrom_2 (by decide) rfl (fun c2 => ?_) (fun c2 => ?_)
  · refine v_iload_n 14 dX9_metFrom_13 rfl rfl rfl ?_
    refine w_min 17 dX9_metFrom_14 rfl kX9_311 rfl rfl ?_
    refine v_iret dX9_metFrom_17 rfl rfl ?_
    refine ⟨?_, rfl, rfl⟩
    simp_all [mF, bI_0, bI_n]
  · refine v_iload_n 6 dX9_metFrom_5 rfl rfl rfl ?_
    refine v_iload_n 7 dX9_metFrom_6 rfl rfl rfl ?_
    refine v_iconst (v := 5) 8 dX9_metFrom_7 rfl (by decide) ?_
    refine v_idiv 9 dX9_metFrom_8 rfl (by decide) ?_
    refine v_iadd 10 dX9_metFrom_9 rfl ?_
    refine v_goto 14 dX9_metFrom_10 (by decide) ?_
    refine w_min 17 dX9_metFrom_14 rfl kX9_311 rfl rfl ?_
    refine v_iret dX9_metFrom_17 rfl rfl ?_
    refine ⟨?_, rfl, rfl⟩
    simp_all [mF, bI_0, bI_n]

set_option maxRecDepth 100000 in
set_option maxHeartbeats 4000000 in
theorem c_isKnown {h : HI} {L : HL} {g p : Nat} (hg : g < 3) (hp : p < 12) : Con mX0_isKnown 0 [aR g 0, aI (nI p)] h L (Rt (some (aI (bI (decide (h g 0 3 ≤ h g 6 p))))) h L) := by
  refine con_of _ rfl (by decide) rfl rfl ?_
  refine v_aload_n 1 dX0_isKnown_0 rfl rfl rfl ?_
  refine v_getR 4 dX0_isKnown_1 rfl fX0_12 (by first | rfl | exact bk hg (by decide)) rfl rfl ?_
  refine v_getR 7 dX0_isKnown_4 rfl fX0_76 (by first | rfl | exact bk hg (by decide)) rfl rfl ?_
  refine v_iload_n 8 dX0_isKnown_7 rfl rfl rfl ?_
  refine v_iald 9 dX0_isKnown_8 rfl (by first | rfl | exact bk hg (by decide)) rfl rfl (by first | rfl | assumption) (by simp only [alen]; omega) ?_
  refine v_aload_n 10 dX0_isKnown_9 rfl rfl rfl ?_
  refine v_getI 13 dX0_isKnown_10 rfl fX0_32 (by first | rfl | exact bk hg (by decide)) rfl rfl ?_
  refine v_icmp_lt 20 16 dX0_isKnown_13 (by decide) rfl (fun c13 => ?_) (fun c13 => ?_)
  · refine v_iconst (v := 0) 21 dX0_isKnown_20 rfl (by decide) ?_
    refine v_iret dX0_isKnown_21 rfl (by first | rfl | exact bI_nar _ | decide) ?_
    refine ⟨?_, rfl, rfl⟩
    simp_all [bI, Int32.not_lt]
  · refine v_iconst (v := 1) 17 dX0_isKnown_16 rfl (by decide) ?_
    refine v_goto 21 dX0_isKnown_17 (by decide) ?_
    refine v_iret dX0_isKnown_21 rfl (by first | rfl | exact bI_nar _ | decide) ?_
    refine ⟨?_, rfl, rfl⟩
    simp_all [bI, Int32.not_lt]

