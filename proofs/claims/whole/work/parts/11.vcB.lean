theorem vX1_gather (post : Option Value → GG → Prop)  (G : GG) (h : zJ kX1_gather post 2 [(0, .ref 15), (1, .int (0 : Int32))] [] G) : CT kX1_gather [.ref 15] G post := by
  refine CT.of (by decide) (Nat.le_of_ble_eq_true rfl) ?_
  show zJ kX1_gather post 0 [(0, .ref 15)] [] G
  refine j_iconst (0 : Int32) 1 rfl dX1_gather_0 (by decide) ?_
  refine j_istore_n [(0, .ref 15), (1, .int (0 : Int32))] 2 rfl dX1_gather_1 rfl (by decide) rfl ?_
  exact h
theorem vX1_gather_2 (post : Option Value → GG → Prop) (v1 : Int32) (G : GG) (h : ((3480 : Int32) ≤ v1 → (zJ kX1_gather post 26 [(0, .ref 15), (1, .int (0 : Int32))] [] G)) ∧ (¬ (3480 : Int32) ≤ v1 → ((vp_in v1 3480) ∧ (zJ kX1_gather post 2 [(0, .ref 15), (1, .int (v1 + (1 : Int32)))] [] (gU G 16 v1.toNatClampNeg (0 : Int32)))))) : zJ kX1_gather post 2 [(0, .ref 15), (1, .int v1)] [] G := by
  refine j_iload_n 1 3 rfl dX1_gather_2 rfl rfl ?_
  refine j_aload_n 0 4 rfl dX1_gather_3 rfl rfl ?_
  refine j_getR 7 rfl dX1_gather_4 lf_X1_9 ly_15 rfl ?_
  refine j_alen (t := 0) (3480 : Int32) 8 rfl dX1_gather_7 ly_16 rfl ?_
  obtain ⟨hbt, hbf⟩ := h
  refine j_icmp_ge 11 24 rfl (by decide) dX1_gather_8 (fun hc => ?_) (fun hc => ?_)
  · have h := hbt hc
    refine j_iconst (0 : Int32) 25 rfl dX1_gather_24 (by decide) ?_
    refine j_istore_n [(0, .ref 15), (1, .int (0 : Int32))] 26 rfl dX1_gather_25 rfl (by decide) rfl ?_
    exact h
  · have h := hbf hc
    refine j_aload_n 0 12 rfl dX1_gather_11 rfl rfl ?_
    refine j_getR 15 rfl dX1_gather_12 lf_X1_9 ly_15 rfl ?_
    refine j_iload_n 1 16 rfl dX1_gather_15 rfl rfl ?_
    refine j_iconst (0 : Int32) 17 rfl dX1_gather_16 (by decide) ?_
    obtain ⟨h1, h⟩ := h
    refine j_iast 18 rfl dX1_gather_17 ly_16 h1 ?_
    refine j_iinc 1 (v1 + (1 : Int32)) [(0, .ref 15), (1, .int (v1 + (1 : Int32)))] 21 rfl dX1_gather_18 rfl rfl (by decide) rfl ?_
    refine j_goto 2 (by decide) dX1_gather_21 ?_
    exact h
theorem vX1_gather_26 (post : Option Value → GG → Prop) (v1 : Int32) (G : GG) (h : ((30 : Int32) ≤ v1 → (zJ kX1_gather post 47 [(0, .ref 15), (1, .int (1 : Int32))] [] G)) ∧ (¬ (30 : Int32) ≤ v1 → ((vp_in v1 30) ∧ (zJ kX1_gather post 26 [(0, .ref 15), (1, .int (v1 + (1 : Int32)))] [] (gU G 17 v1.toNatClampNeg (0 : Int32)))))) : zJ kX1_gather post 26 [(0, .ref 15), (1, .int v1)] [] G := by
  refine j_iload_n 1 27 rfl dX1_gather_26 rfl rfl ?_
  refine j_bipush (30 : Int32) 29 rfl dX1_gather_27 (by decide) ?_
  obtain ⟨hbt, hbf⟩ := h
  refine j_icmp_ge 32 45 rfl (by decide) dX1_gather_29 (fun hc => ?_) (fun hc => ?_)
  · have h := hbt hc
    refine j_iconst (1 : Int32) 46 rfl dX1_gather_45 (by decide) ?_
    refine j_istore_n [(0, .ref 15), (1, .int (1 : Int32))] 47 rfl dX1_gather_46 rfl (by decide) rfl ?_
    exact h
  · have h := hbf hc
    refine j_aload_n 0 33 rfl dX1_gather_32 rfl rfl ?_
    refine j_getR 36 rfl dX1_gather_33 lf_X1_15 ly_15 rfl ?_
    refine j_iload_n 1 37 rfl dX1_gather_36 rfl rfl ?_
    refine j_iconst (0 : Int32) 38 rfl dX1_gather_37 (by decide) ?_
    obtain ⟨h1, h⟩ := h
    refine j_iast 39 rfl dX1_gather_38 ly_17 h1 ?_
    refine j_iinc 1 (v1 + (1 : Int32)) [(0, .ref 15), (1, .int (v1 + (1 : Int32)))] 42 rfl dX1_gather_39 rfl rfl (by decide) rfl ?_
    refine j_goto 26 (by decide) dX1_gather_42 ?_
    exact h
theorem vX1_gather_47 (post : Option Value → GG → Prop) (v1 : Int32) (G : GG) (h : ((G 1 0) ≤ v1 → (post none G)) ∧ (¬ (G 1 0) ≤ v1 → (zJ kX1_gather post 60 [(0, .ref 15), (1, .int v1), (2, .int (0 : Int32))] [] G))) : zJ kX1_gather post 47 [(0, .ref 15), (1, .int v1)] [] G := by
  refine j_iload_n 1 48 rfl dX1_gather_47 rfl rfl ?_
  refine j_aload_n 0 49 rfl dX1_gather_48 rfl rfl ?_
  refine j_getR 52 rfl dX1_gather_49 lf_X1_18 ly_15 rfl ?_
  refine j_getI 55 rfl dX1_gather_52 lf_X1_30 ly_1 rfl ?_
  obtain ⟨hbt, hbf⟩ := h
  refine j_icmp_ge 58 119 rfl (by decide) dX1_gather_55 (fun hc => ?_) (fun hc => ?_)
  · have h := hbt hc
    exact j_vret dX1_gather_119 rfl h
  · have h := hbf hc
    refine j_iconst (0 : Int32) 59 rfl dX1_gather_58 (by decide) ?_
    refine j_istore_n [(0, .ref 15), (1, .int v1), (2, .int (0 : Int32))] 60 rfl dX1_gather_59 rfl (by decide) rfl ?_
    exact h
theorem vX1_gather_60 (post : Option Value → GG → Prop) (v1 : Int32) (v2 : Int32) (G : GG) (h : ((16 : Int32) < v2 → (zJ kX1_gather post 47 [(0, .ref 15), (1, .int (v1 + (1 : Int32)))] [] G)) ∧ (¬ (16 : Int32) < v2 → (zJ kX1_gather post 68 [(0, .ref 15), (1, .int v1), (2, .int v2), (3, .int (0 : Int32))] [] G))) : zJ kX1_gather post 60 [(0, .ref 15), (1, .int v1), (2, .int v2)] [] G := by
  refine j_iload_n 2 61 rfl dX1_gather_60 rfl rfl ?_
  refine j_bipush (16 : Int32) 63 rfl dX1_gather_61 (by decide) ?_
  obtain ⟨hbt, hbf⟩ := h
  refine j_icmp_gt 66 113 rfl (by decide) dX1_gather_63 (fun hc => ?_) (fun hc => ?_)
  · have h := hbt hc
    refine j_iinc 1 (v1 + (1 : Int32)) [(0, .ref 15), (1, .int (v1 + (1 : Int32))), (2, .int v2)] 116 rfl dX1_gather_113 rfl rfl (by decide) rfl ?_
    refine j_goto 47 (by decide) dX1_gather_116 ?_
    refine j_sub [0, 1] rfl ?_
    exact h
  · have h := hbf hc
    refine j_iconst (0 : Int32) 67 rfl dX1_gather_66 (by decide) ?_
    refine j_istore_n [(0, .ref 15), (1, .int v1), (2, .int v2), (3, .int (0 : Int32))] 68 rfl dX1_gather_67 rfl (by decide) rfl ?_
    exact h
theorem vX1_gather_68 (post : Option Value → GG → Prop) (v1 : Int32) (v2 : Int32) (v3 : Int32) (G : GG) (h : CTi kX6_resistancesAsked [.ref 13] G (fun r2 G1 => (r2 ≤ v3 → (zJ kX1_gather post 60 [(0, .ref 15), (1, .int v1), (2, .int (v2 + (1 : Int32)))] [] G1)) ∧ (¬ r2 ≤ v3 → (CTi kX6_resistanceAsked [.ref 13, .int v3] G1 (fun r4 G3 => CTl kX3_sumOf [.ref 1, .int v1, .int v2, .int r4] G3 (fun r6 G5 => CTv kX1_gatherOf [.ref 15, .int v1, .long r6] G5 (fun G7 => zJ kX1_gather post 68 [(0, .ref 15), (1, .int v1), (2, .int v2), (3, .int (v3 + (1 : Int32)))] [] G7))))))) : zJ kX1_gather post 68 [(0, .ref 15), (1, .int v1), (2, .int v2), (3, .int v3)] [] G := by
  refine j_iload_n 3 69 rfl dX1_gather_68 rfl rfl ?_
  refine j_aload_n 0 70 rfl dX1_gather_69 rfl rfl ?_
  refine j_getR 73 rfl dX1_gather_70 lf_X1_26 ly_15 rfl ?_
  refine j_callV (K' := kX6_resistancesAsked) (As := []) (S := [.int v3]) dX1_gather_73 ll_X1_36 ok_X6_resistancesAsked ⟨by decide, by decide⟩ ly_13 rfl rfl (Nat.le_of_ble_eq_true rfl) rfl (CT.mono h (fun r G1 hr => ?_))
  obtain ⟨r2, rfl, h⟩ := hr
  show zJ kX1_gather post 76 [(0, .ref 15), (1, .int v1), (2, .int v2), (3, .int v3)] [.int r2, .int v3] G1
  obtain ⟨hbt, hbf⟩ := h
  refine j_icmp_ge 79 107 rfl (by decide) dX1_gather_76 (fun hc => ?_) (fun hc => ?_)
  · have h := hbt hc
    refine j_iinc 2 (v2 + (1 : Int32)) [(0, .ref 15), (1, .int v1), (2, .int (v2 + (1 : Int32))), (3, .int v3)] 110 rfl dX1_gather_107 rfl rfl (by decide) rfl ?_
    refine j_goto 60 (by decide) dX1_gather_110 ?_
    refine j_sub [0, 1, 2] rfl ?_
    exact h
  · have h := hbf hc
    refine j_aload_n 0 80 rfl dX1_gather_79 rfl rfl ?_
    refine j_iload_n 1 81 rfl dX1_gather_80 rfl rfl ?_
    refine j_aload_n 0 82 rfl dX1_gather_81 rfl rfl ?_
    refine j_getR 85 rfl dX1_gather_82 lf_X1_18 ly_15 rfl ?_
    refine j_iload_n 1 86 rfl dX1_gather_85 rfl rfl ?_
    refine j_iload_n 2 87 rfl dX1_gather_86 rfl rfl ?_
    refine j_aload_n 0 88 rfl dX1_gather_87 rfl rfl ?_
    refine j_getR 91 rfl dX1_gather_88 lf_X1_26 ly_15 rfl ?_
    refine j_iload_n 3 92 rfl dX1_gather_91 rfl rfl ?_
    refine j_callV (K' := kX6_resistanceAsked) (As := [.int v3]) (S := [.int v2, .int v1, .ref 1, .int v1, .ref 15]) dX1_gather_92 ll_X1_42 ok_X6_resistanceAsked ⟨by decide, by decide⟩ ly_13 rfl rfl (Nat.le_of_ble_eq_true rfl) rfl (CT.mono h (fun r G3 hr => ?_))
    obtain ⟨r4, rfl, h⟩ := hr
    show zJ kX1_gather post 95 [(0, .ref 15), (1, .int v1), (2, .int v2), (3, .int v3)] [.int r4, .int v2, .int v1, .ref 1, .int v1, .ref 15] G3
    refine j_callV (K' := kX3_sumOf) (As := [.int v1, .int v2, .int r4]) (S := [.int v1, .ref 15]) dX1_gather_95 ll_X1_46 ok_X3_sumOf ⟨by decide, by decide⟩ ly_1 rfl rfl (Nat.le_of_ble_eq_true rfl) rfl (CT.mono h (fun r G5 hr => ?_))
    obtain ⟨r6, rfl, h⟩ := hr
    show zJ kX1_gather post 98 [(0, .ref 15), (1, .int v1), (2, .int v2), (3, .int v3)] [.long r6, .int v1, .ref 15] G5
    refine j_callV (K' := kX1_gatherOf) (As := [.int v1, .long r6]) (S := []) dX1_gather_98 ll_X1_50 ok_X1_gatherOf ⟨by decide, by decide⟩ ly_15 rfl rfl (Nat.le_of_ble_eq_true rfl) rfl (CT.mono h (fun r G7 hr => ?_))
    obtain ⟨rfl, h⟩ := hr
    show zJ kX1_gather post 101 [(0, .ref 15), (1, .int v1), (2, .int v2), (3, .int v3)] [] G7
    refine j_iinc 3 (v3 + (1 : Int32)) [(0, .ref 15), (1, .int v1), (2, .int v2), (3, .int (v3 + (1 : Int32)))] 104 rfl dX1_gather_101 rfl rfl (by decide) rfl ?_
    refine j_goto 68 (by decide) dX1_gather_104 ?_
    exact h
theorem vX1_gatherOf (post : Option Value → GG → Prop) (v1 : Int32) (v2 : Int64) (G : GG) (h : (vp_in v1 30) ∧ (zJ kX1_gatherOf post 20 [(0, .ref 15), (2, .long v2), (4, .int (G 5 v1.toNatClampNeg)), (5, .int (0 : Int32)), (6, .int (0 : Int32)), (7, .int v1)] [] G)) : CT kX1_gatherOf [.ref 15, .int v1, .long v2] G post := by
  refine CT.of (by decide) (Nat.le_of_ble_eq_true rfl) ?_
  show zJ kX1_gatherOf post 0 [(0, .ref 15), (1, .int v1), (2, .long v2)] [] G
  refine j_aload_n 0 1 rfl dX1_gatherOf_0 rfl rfl ?_
  refine j_getR 4 rfl dX1_gatherOf_1 lf_X1_18 ly_15 rfl ?_
  refine j_getR 7 rfl dX1_gatherOf_4 lf_X1_54 ly_1 rfl ?_
  refine j_iload_n 1 8 rfl dX1_gatherOf_7 rfl rfl ?_
  obtain ⟨h1, h⟩ := h
  refine j_iald 9 rfl dX1_gatherOf_8 ly_5 h1 ?_
  refine j_istore [(0, .ref 15), (1, .int v1), (2, .long v2), (4, .int (G 5 v1.toNatClampNeg))] 11 rfl dX1_gatherOf_9 (by decide) rfl ?_
  refine j_iconst (0 : Int32) 12 rfl dX1_gatherOf_11 (by decide) ?_
  refine j_istore [(0, .ref 15), (1, .int v1), (2, .long v2), (4, .int (G 5 v1.toNatClampNeg)), (5, .int (0 : Int32))] 14 rfl dX1_gatherOf_12 (by decide) rfl ?_
  refine j_iconst (0 : Int32) 15 rfl dX1_gatherOf_14 (by decide) ?_
  refine j_istore [(0, .ref 15), (1, .int v1), (2, .long v2), (4, .int (G 5 v1.toNatClampNeg)), (5, .int (0 : Int32)), (6, .int (0 : Int32))] 17 rfl dX1_gatherOf_15 (by decide) rfl ?_
  refine j_iload_n 1 18 rfl dX1_gatherOf_17 rfl rfl ?_
  refine j_istore [(0, .ref 15), (1, .int v1), (2, .long v2), (4, .int (G 5 v1.toNatClampNeg)), (5, .int (0 : Int32)), (6, .int (0 : Int32)), (7, .int v1)] 20 rfl dX1_gatherOf_18 (by decide) rfl ?_
  refine j_sub [0, 2, 3, 4, 5, 6] rfl ?_
  exact h
theorem vX1_gatherOf_20 (post : Option Value → GG → Prop) (v2 : Int64) (v4 : Int32) (v5 : Int32) (v6 : Int32) (v7 : Int32) (G : GG) (h : (v7 < (1 : Int32) → (post none G)) ∧ (¬ v7 < (1 : Int32) → (CTi kX7_holds [.int v4, .int v7] G (fun r2 G1 => (r2 = (0 : Int32) → (zJ kX1_gatherOf post 57 [(0, .ref 15), (2, .long v2), (4, .int v4), (5, .int v5), (6, .int v6), (7, .int v7)] [.int (-1 : Int32)] G1)) ∧ (¬ r2 = (0 : Int32) → (CTl kX3_sixteenForces [.ref 1] G1 (fun r4 G3 => CTi kX5_cornerReached [.ref 7, .int v7, .long r4, .long v2] G3 (fun r6 G5 => zJ kX1_gatherOf post 57 [(0, .ref 15), (2, .long v2), (4, .int v4), (5, .int v5), (6, .int v6), (7, .int v7)] [.int r6] G5)))))))) : zJ kX1_gatherOf post 20 [(0, .ref 15), (2, .long v2), (4, .int v4), (5, .int v5), (6, .int v6), (7, .int v7)] [] G := by
  refine j_iload 5 22 rfl dX1_gatherOf_20 rfl ?_
  refine j_iconst (1 : Int32) 23 rfl dX1_gatherOf_22 (by decide) ?_
  obtain ⟨hbt, hbf⟩ := h
  refine j_icmp_lt 26 150 rfl (by decide) dX1_gatherOf_23 (fun hc => ?_) (fun hc => ?_)
  · have h := hbt hc
    exact j_vret dX1_gatherOf_150 rfl h
  · have h := hbf hc
    refine j_iload 2 28 rfl dX1_gatherOf_26 rfl ?_
    refine j_iload 5 30 rfl dX1_gatherOf_28 rfl ?_
    refine j_callN (K' := kX7_holds) (As := [.int v4, .int v7]) (S := []) (host := RX7) dX1_gatherOf_30 ln_X1_57 ok_X7_holds ⟨by decide, by decide⟩ rfl (Nat.le_of_ble_eq_true rfl) rfl (CT.mono h (fun r G1 hr => ?_))
    obtain ⟨r2, rfl, h⟩ := hr
    show zJ kX1_gatherOf post 33 [(0, .ref 15), (2, .long v2), (4, .int v4), (5, .int v5), (6, .int v6), (7, .int v7)] [.int r2] G1
    obtain ⟨hbt, hbf⟩ := h
    refine j_if_eq 36 56 rfl (by decide) dX1_gatherOf_33 (fun hc => ?_) (fun hc => ?_)
    · have h := hbt hc
      refine j_iconst (-1 : Int32) 57 rfl dX1_gatherOf_56 (by decide) ?_
      exact h
    · have h := hbf hc
      refine j_aload_n 0 37 rfl dX1_gatherOf_36 rfl rfl ?_
      refine j_getR 40 rfl dX1_gatherOf_37 lf_X1_22 ly_15 rfl ?_
      refine j_iload 5 42 rfl dX1_gatherOf_40 rfl ?_
      refine j_aload_n 0 43 rfl dX1_gatherOf_42 rfl rfl ?_
      refine j_getR 46 rfl dX1_gatherOf_43 lf_X1_18 ly_15 rfl ?_
      refine j_callV (K' := kX3_sixteenForces) (As := []) (S := [.int v7, .ref 7]) dX1_gatherOf_46 ll_X1_61 ok_X3_sixteenForces ⟨by decide, by decide⟩ ly_1 rfl rfl (Nat.le_of_ble_eq_true rfl) rfl (CT.mono h (fun r G3 hr => ?_))
      obtain ⟨r4, rfl, h⟩ := hr
      show zJ kX1_gatherOf post 49 [(0, .ref 15), (2, .long v2), (4, .int v4), (5, .int v5), (6, .int v6), (7, .int v7)] [.long r4, .int v7, .ref 7] G3
      refine j_lload_n 1 50 rfl dX1_gatherOf_49 rfl rfl ?_
      refine j_callV (K' := kX5_cornerReached) (As := [.int v7, .long r4, .long v2]) (S := []) dX1_gatherOf_50 ll_X1_65 ok_X5_cornerReached ⟨by decide, by decide⟩ ly_7 rfl rfl (Nat.le_of_ble_eq_true rfl) rfl (CT.mono h (fun r G5 hr => ?_))
      obtain ⟨r6, rfl, h⟩ := hr
      show zJ kX1_gatherOf post 53 [(0, .ref 15), (2, .long v2), (4, .int v4), (5, .int v5), (6, .int v6), (7, .int v7)] [.int r6] G5
      refine j_goto 57 (by decide) dX1_gatherOf_53 ?_
      exact h
theorem vX1_gatherOf_57 (post : Option Value → GG → Prop) (v2 : Int64) (v4 : Int32) (v5 : Int32) (v6 : Int32) (v7 : Int32) (s0 : Int32) (G : GG) (h : (s0 = (-1 : Int32) → (zJ kX1_gatherOf post 20 [(0, .ref 15), (2, .long v2), (4, .int v4), (5, .int v5), (6, .int v6), (7, .int (v7 + (-1 : Int32)))] [] G)) ∧ (¬ s0 = (-1 : Int32) → (CTi kX5_ticksAt [.ref 7, .int v7, .int s0] G (fun r2 G1 => (¬ v5 = (0 : Int32) → (CTi kX1_rowOf [.int v7, .int v5] G1 (fun r4 G3 => (vp_in (r4 + s0) 3480) ∧ ((vp_in (r4 + s0) 3480) ∧ (zJ kX1_gatherOf post 20 [(0, .ref 15), (2, .long v2), (4, .int v4), (5, .int v7), (6, .int r2), (7, .int (v7 + (-1 : Int32)))] [] (gU G3 16 (r4 + s0).toNatClampNeg (if (G3 16 (r4 + s0).toNatClampNeg) < v6 then v6 else (G3 16 (r4 + s0).toNatClampNeg)))))))) ∧ (v5 = (0 : Int32) → ((vp_in v7 30) ∧ ((vp_in v7 30) ∧ (zJ kX1_gatherOf post 20 [(0, .ref 15), (2, .long v2), (4, .int v4), (5, .int v7), (6, .int r2), (7, .int (v7 + (-1 : Int32)))] [] (gU G1 17 v7.toNatClampNeg (if (G1 17 v7.toNatClampNeg) < r2 then r2 else (G1 17 v7.toNatClampNeg))))))))))) : zJ kX1_gatherOf post 57 [(0, .ref 15), (2, .long v2), (4, .int v4), (5, .int v5), (6, .int v6), (7, .int v7)] [.int s0] G := by
  refine j_istore [(0, .ref 15), (2, .long v2), (4, .int v4), (5, .int v5), (6, .int v6), (7, .int v7), (8, .int s0)] 59 rfl dX1_gatherOf_57 (by decide) rfl ?_
  refine j_iload 6 61 rfl dX1_gatherOf_59 rfl ?_
  refine j_iconst (-1 : Int32) 62 rfl dX1_gatherOf_61 (by decide) ?_
  obtain ⟨hbt, hbf⟩ := h
  refine j_icmp_eq 65 144 rfl (by decide) dX1_gatherOf_62 (fun hc => ?_) (fun hc => ?_)
  · have h := hbt hc
    refine j_iinc 5 (v7 + (-1 : Int32)) [(0, .ref 15), (2, .long v2), (4, .int v4), (5, .int v5), (6, .int v6), (7, .int (v7 + (-1 : Int32))), (8, .int s0)] 147 rfl dX1_gatherOf_144 rfl rfl (by decide) rfl ?_
    refine j_goto 20 (by decide) dX1_gatherOf_147 ?_
    refine j_sub [0, 1, 2, 3, 4, 5] rfl ?_
    exact h
  · have h := hbf hc
    refine j_aload_n 0 66 rfl dX1_gatherOf_65 rfl rfl ?_
    refine j_getR 69 rfl dX1_gatherOf_66 lf_X1_22 ly_15 rfl ?_
    refine j_iload 5 71 rfl dX1_gatherOf_69 rfl ?_
    refine j_iload 6 73 rfl dX1_gatherOf_71 rfl ?_
    refine j_callV (K' := kX5_ticksAt) (As := [.int v7, .int s0]) (S := []) dX1_gatherOf_73 ll_X1_71 ok_X5_ticksAt ⟨by decide, by decide⟩ ly_7 rfl rfl (Nat.le_of_ble_eq_true rfl) rfl (CT.mono h (fun r G1 hr => ?_))
    obtain ⟨r2, rfl, h⟩ := hr
    show zJ kX1_gatherOf post 76 [(0, .ref 15), (2, .long v2), (4, .int v4), (5, .int v5), (6, .int v6), (7, .int v7), (8, .int s0)] [.int r2] G1
    refine j_istore [(0, .ref 15), (2, .long v2), (4, .int v4), (5, .int v5), (6, .int v6), (7, .int v7), (8, .int s0), (9, .int r2)] 78 rfl dX1_gatherOf_76 (by decide) rfl ?_
    refine j_iload 3 80 rfl dX1_gatherOf_78 rfl ?_
    obtain ⟨hbt, hbf⟩ := h
    refine j_if_ne 83 105 rfl (by decide) dX1_gatherOf_80 (fun hc => ?_) (fun hc => ?_)
    · have h := hbt hc
      refine j_iload 5 107 rfl dX1_gatherOf_105 rfl ?_
      refine j_iload 3 109 rfl dX1_gatherOf_107 rfl ?_
      refine j_callS (K' := kX1_rowOf) (As := [.int v7, .int v5]) (S := []) dX1_gatherOf_109 ll_X1_80 ok_X1_rowOf ⟨by decide, by decide⟩ rfl (Nat.le_of_ble_eq_true rfl) rfl (CT.mono h (fun r G3 hr => ?_))
      obtain ⟨r4, rfl, h⟩ := hr
      show zJ kX1_gatherOf post 112 [(0, .ref 15), (2, .long v2), (4, .int v4), (5, .int v5), (6, .int v6), (7, .int v7), (8, .int s0), (9, .int r2)] [.int r4] G3
      refine j_iload 6 114 rfl dX1_gatherOf_112 rfl ?_
      refine j_iadd 115 rfl dX1_gatherOf_114 ?_
      refine j_istore [(0, .ref 15), (2, .long v2), (4, .int v4), (5, .int v5), (6, .int v6), (7, .int v7), (8, .int s0), (9, .int r2), (10, .int (r4 + s0))] 117 rfl dX1_gatherOf_115 (by decide) rfl ?_
      refine j_aload_n 0 118 rfl dX1_gatherOf_117 rfl rfl ?_
      refine j_getR 121 rfl dX1_gatherOf_118 lf_X1_9 ly_15 rfl ?_
      refine j_iload 8 123 rfl dX1_gatherOf_121 rfl ?_
      refine j_aload_n 0 124 rfl dX1_gatherOf_123 rfl rfl ?_
      refine j_getR 127 rfl dX1_gatherOf_124 lf_X1_9 ly_15 rfl ?_
      refine j_iload 8 129 rfl dX1_gatherOf_127 rfl ?_
      obtain ⟨h5, h⟩ := h
      refine j_iald 130 rfl dX1_gatherOf_129 ly_16 h5 ?_
      refine j_iload 4 132 rfl dX1_gatherOf_130 rfl ?_
      refine j_mmax 135 rfl dX1_gatherOf_132 ll_X1_75 lw_mmax (by decide) (Nat.le_of_ble_eq_true rfl) ?_
      obtain ⟨h6, h⟩ := h
      refine j_iast 136 rfl dX1_gatherOf_135 ly_16 h6 ?_
      refine j_iload 5 138 rfl dX1_gatherOf_136 rfl ?_
      refine j_istore [(0, .ref 15), (2, .long v2), (4, .int v4), (5, .int v7), (6, .int v6), (7, .int v7), (8, .int s0), (9, .int r2), (10, .int (r4 + s0))] 140 rfl dX1_gatherOf_138 (by decide) rfl ?_
      refine j_iload 7 142 rfl dX1_gatherOf_140 rfl ?_
      refine j_istore [(0, .ref 15), (2, .long v2), (4, .int v4), (5, .int v7), (6, .int r2), (7, .int v7), (8, .int s0), (9, .int r2), (10, .int (r4 + s0))] 144 rfl dX1_gatherOf_142 (by decide) rfl ?_
      refine j_iinc 5 (v7 + (-1 : Int32)) [(0, .ref 15), (2, .long v2), (4, .int v4), (5, .int v7), (6, .int r2), (7, .int (v7 + (-1 : Int32))), (8, .int s0), (9, .int r2), (10, .int (r4 + s0))] 147 rfl dX1_gatherOf_144 rfl rfl (by decide) rfl ?_
      refine j_goto 20 (by decide) dX1_gatherOf_147 ?_
      refine j_sub [0, 1, 2, 3, 4, 5] rfl ?_
      exact h
    · have h := hbf hc
      refine j_aload_n 0 84 rfl dX1_gatherOf_83 rfl rfl ?_
      refine j_getR 87 rfl dX1_gatherOf_84 lf_X1_15 ly_15 rfl ?_
      refine j_iload 5 89 rfl dX1_gatherOf_87 rfl ?_
      refine j_aload_n 0 90 rfl dX1_gatherOf_89 rfl rfl ?_
      refine j_getR 93 rfl dX1_gatherOf_90 lf_X1_15 ly_15 rfl ?_
      refine j_iload 5 95 rfl dX1_gatherOf_93 rfl ?_
      obtain ⟨h7, h⟩ := h
      refine j_iald 96 rfl dX1_gatherOf_95 ly_17 h7 ?_
      refine j_iload 7 98 rfl dX1_gatherOf_96 rfl ?_
      refine j_mmax 101 rfl dX1_gatherOf_98 ll_X1_75 lw_mmax (by decide) (Nat.le_of_ble_eq_true rfl) ?_
      obtain ⟨h8, h⟩ := h
      refine j_iast 102 rfl dX1_gatherOf_101 ly_17 h8 ?_
      refine j_goto 136 (by decide) dX1_gatherOf_102 ?_
      refine j_iload 5 138 rfl dX1_gatherOf_136 rfl ?_
      refine j_istore [(0, .ref 15), (2, .long v2), (4, .int v4), (5, .int v7), (6, .int v6), (7, .int v7), (8, .int s0), (9, .int r2)] 140 rfl dX1_gatherOf_138 (by decide) rfl ?_
      refine j_iload 7 142 rfl dX1_gatherOf_140 rfl ?_
      refine j_istore [(0, .ref 15), (2, .long v2), (4, .int v4), (5, .int v7), (6, .int r2), (7, .int v7), (8, .int s0), (9, .int r2)] 144 rfl dX1_gatherOf_142 (by decide) rfl ?_
      refine j_iinc 5 (v7 + (-1 : Int32)) [(0, .ref 15), (2, .long v2), (4, .int v4), (5, .int v7), (6, .int r2), (7, .int (v7 + (-1 : Int32))), (8, .int s0), (9, .int r2)] 147 rfl dX1_gatherOf_144 rfl rfl (by decide) rfl ?_
      refine j_goto 20 (by decide) dX1_gatherOf_147 ?_
      refine j_sub [0, 1, 2, 3, 4, 5] rfl ?_
      exact h
theorem vX1_rowOf (post : Option Value → GG → Prop) (v0 : Int32) (v1 : Int32) (G : GG) (h : post (some (.int ((((v1 * (v1 - (1 : Int32))) / (2 : Int32)) + v0) * (8 : Int32)))) G) : CT kX1_rowOf [.int v0, .int v1] G post := by
  refine CT.of (by decide) (Nat.le_of_ble_eq_true rfl) ?_
  show zJ kX1_rowOf post 0 [(0, .int v0), (1, .int v1)] [] G
  refine j_iload_n 1 1 rfl dX1_rowOf_0 rfl rfl ?_
  refine j_iload_n 1 2 rfl dX1_rowOf_1 rfl rfl ?_
  refine j_iconst (1 : Int32) 3 rfl dX1_rowOf_2 (by decide) ?_
  refine j_isub 4 rfl dX1_rowOf_3 ?_
  refine j_imul 5 rfl dX1_rowOf_4 ?_
  refine j_iconst (2 : Int32) 6 rfl dX1_rowOf_5 (by decide) ?_
  refine j_idiv 7 rfl dX1_rowOf_6 (by decide) ?_
  refine j_iload_n 0 8 rfl dX1_rowOf_7 rfl rfl ?_
  refine j_iadd 9 rfl dX1_rowOf_8 ?_
  refine j_bipush (8 : Int32) 11 rfl dX1_rowOf_9 (by decide) ?_
  refine j_imul 12 rfl dX1_rowOf_11 ?_
  exact j_iret dX1_rowOf_12 rfl rfl h
theorem vX1_leastDial (post : Option Value → GG → Prop) (v1 : Int32) (G : GG) (h : zJ kX1_leastDial post 7 [(0, .ref 15), (1, .int v1), (2, .ref 23), (3, .long (1 : Int64)), (5, .int (v1 + (1 : Int32)))] [] G) : CT kX1_leastDial [.ref 15, .int v1, .ref 23] G post := by
  refine CT.of (by decide) (Nat.le_of_ble_eq_true rfl) ?_
  show zJ kX1_leastDial post 0 [(0, .ref 15), (1, .int v1), (2, .ref 23)] [] G
  refine j_lconst (1 : Int64) 1 rfl dX1_leastDial_0 (by decide) ?_
  refine j_lstore_n [(0, .ref 15), (1, .int v1), (2, .ref 23), (3, .long (1 : Int64))] 2 rfl dX1_leastDial_1 rfl (by decide) rfl ?_
  refine j_iload_n 1 3 rfl dX1_leastDial_2 rfl rfl ?_
  refine j_iconst (1 : Int32) 4 rfl dX1_leastDial_3 (by decide) ?_
  refine j_iadd 5 rfl dX1_leastDial_4 ?_
  refine j_istore [(0, .ref 15), (1, .int v1), (2, .ref 23), (3, .long (1 : Int64)), (5, .int (v1 + (1 : Int32)))] 7 rfl dX1_leastDial_5 (by decide) rfl ?_
  exact h
theorem vX1_leastDial_7 (post : Option Value → GG → Prop) (v1 : Int32) (v3 : Int64) (v5 : Int32) (G : GG) (h : ((G 1 0) ≤ v5 → (post (some (.long v3)) G)) ∧ (¬ (G 1 0) ≤ v5 → (CTi kX1_rowOf [.int v1, .int v5] G (fun r2 G1 => zJ kX1_leastDial post 30 [(0, .ref 15), (1, .int v1), (2, .ref 23), (3, .long v3), (5, .int v5), (6, .int r2), (7, .int (0 : Int32))] [] G1)))) : zJ kX1_leastDial post 7 [(0, .ref 15), (1, .int v1), (2, .ref 23), (3, .long v3), (5, .int v5)] [] G := by
  refine j_iload 4 9 rfl dX1_leastDial_7 rfl ?_
  refine j_aload_n 0 10 rfl dX1_leastDial_9 rfl rfl ?_
  refine j_getR 13 rfl dX1_leastDial_10 lf_X1_18 ly_15 rfl ?_
  refine j_getI 16 rfl dX1_leastDial_13 lf_X1_30 ly_1 rfl ?_
  obtain ⟨hbt, hbf⟩ := h
  refine j_icmp_ge 19 120 rfl (by decide) dX1_leastDial_16 (fun hc => ?_) (fun hc => ?_)
  · have h := hbt hc
    refine j_lload_n 3 121 rfl dX1_leastDial_120 rfl rfl ?_
    exact j_lret dX1_leastDial_121 rfl h
  · have h := hbf hc
    refine j_iload_n 1 20 rfl dX1_leastDial_19 rfl rfl ?_
    refine j_iload 4 22 rfl dX1_leastDial_20 rfl ?_
    refine j_callS (K' := kX1_rowOf) (As := [.int v1, .int v5]) (S := []) dX1_leastDial_22 ll_X1_80 ok_X1_rowOf ⟨by decide, by decide⟩ rfl (Nat.le_of_ble_eq_true rfl) rfl (CT.mono h (fun r G1 hr => ?_))
    obtain ⟨r2, rfl, h⟩ := hr
    show zJ kX1_leastDial post 25 [(0, .ref 15), (1, .int v1), (2, .ref 23), (3, .long v3), (5, .int v5)] [.int r2] G1
    refine j_istore [(0, .ref 15), (1, .int v1), (2, .ref 23), (3, .long v3), (5, .int v5), (6, .int r2)] 27 rfl dX1_leastDial_25 (by decide) rfl ?_
    refine j_iconst (0 : Int32) 28 rfl dX1_leastDial_27 (by decide) ?_
    refine j_istore [(0, .ref 15), (1, .int v1), (2, .ref 23), (3, .long v3), (5, .int v5), (6, .int r2), (7, .int (0 : Int32))] 30 rfl dX1_leastDial_28 (by decide) rfl ?_
    exact h
theorem vX1_leastDial_30 (post : Option Value → GG → Prop) (v1 : Int32) (v3 : Int64) (v5 : Int32) (v6 : Int32) (v7 : Int32) (G : GG) (h : ((8 : Int32) ≤ v7 → (zJ kX1_leastDial post 7 [(0, .ref 15), (1, .int v1), (2, .ref 23), (3, .long v3), (5, .int (v5 + (1 : Int32)))] [] G)) ∧ (¬ (8 : Int32) ≤ v7 → (CTi kX5_ticksAt [.ref 7, .int v1, .int v7] G (fun r2 G1 => (vp_in (v6 + v7) 3480) ∧ (((G1 16 (v6 + v7).toNatClampNeg) ≤ (0 : Int32) → (zJ kX1_leastDial post 30 [(0, .ref 15), (1, .int v1), (2, .ref 23), (3, .long v3), (5, .int v5), (6, .int v6), (7, .int (v7 + (1 : Int32)))] [] G1)) ∧ (¬ (G1 16 (v6 + v7).toNatClampNeg) ≤ (0 : Int32) → ((r2 ≤ (0 : Int32) → (zJ kX1_leastDial post 30 [(0, .ref 15), (1, .int v1), (2, .ref 23), (3, .long v3), (5, .int v5), (6, .int v6), (7, .int (v7 + (1 : Int32)))] [] G1)) ∧ (¬ r2 ≤ (0 : Int32) → ((vp_in v5 30) ∧ ((vp_in (v6 + v7) 3480) ∧ ((¬ r2 = (0 : Int32)) ∧ (zJ kX1_leastDial post 30 [(0, .ref 15), (1, .int v1), (2, .ref 23), (3, .long (if ((((((G1 23 v5.toNatClampNeg) * (G1 16 (v6 + v7).toNatClampNeg)) + (G1 13 0)) + r2) - (1 : Int32)) / r2).toInt64 < v3 then v3 else ((((((G1 23 v5.toNatClampNeg) * (G1 16 (v6 + v7).toNatClampNeg)) + (G1 13 0)) + r2) - (1 : Int32)) / r2).toInt64)), (5, .int v5), (6, .int v6), (7, .int (v7 + (1 : Int32)))] [] G1)))))))))))) : zJ kX1_leastDial post 30 [(0, .ref 15), (1, .int v1), (2, .ref 23), (3, .long v3), (5, .int v5), (6, .int v6), (7, .int v7)] [] G := by
  refine j_iload 6 32 rfl dX1_leastDial_30 rfl ?_
  refine j_bipush (8 : Int32) 34 rfl dX1_leastDial_32 (by decide) ?_
  obtain ⟨hbt, hbf⟩ := h
  refine j_icmp_ge 37 114 rfl (by decide) dX1_leastDial_34 (fun hc => ?_) (fun hc => ?_)
  · have h := hbt hc
    refine j_iinc 4 (v5 + (1 : Int32)) [(0, .ref 15), (1, .int v1), (2, .ref 23), (3, .long v3), (5, .int (v5 + (1 : Int32))), (6, .int v6), (7, .int v7)] 117 rfl dX1_leastDial_114 rfl rfl (by decide) rfl ?_
    refine j_goto 7 (by decide) dX1_leastDial_117 ?_
    refine j_sub [0, 1, 2, 3, 4] rfl ?_
    exact h
  · have h := hbf hc
    refine j_aload_n 0 38 rfl dX1_leastDial_37 rfl rfl ?_
    refine j_getR 41 rfl dX1_leastDial_38 lf_X1_22 ly_15 rfl ?_
    refine j_iload_n 1 42 rfl dX1_leastDial_41 rfl rfl ?_
    refine j_iload 6 44 rfl dX1_leastDial_42 rfl ?_
    refine j_callV (K' := kX5_ticksAt) (As := [.int v1, .int v7]) (S := []) dX1_leastDial_44 ll_X1_71 ok_X5_ticksAt ⟨by decide, by decide⟩ ly_7 rfl rfl (Nat.le_of_ble_eq_true rfl) rfl (CT.mono h (fun r G1 hr => ?_))
    obtain ⟨r2, rfl, h⟩ := hr
    show zJ kX1_leastDial post 47 [(0, .ref 15), (1, .int v1), (2, .ref 23), (3, .long v3), (5, .int v5), (6, .int v6), (7, .int v7)] [.int r2] G1
    refine j_istore [(0, .ref 15), (1, .int v1), (2, .ref 23), (3, .long v3), (5, .int v5), (6, .int v6), (7, .int v7), (8, .int r2)] 49 rfl dX1_leastDial_47 (by decide) rfl ?_
    refine j_aload_n 0 50 rfl dX1_leastDial_49 rfl rfl ?_
    refine j_getR 53 rfl dX1_leastDial_50 lf_X1_9 ly_15 rfl ?_
    refine j_iload 5 55 rfl dX1_leastDial_53 rfl ?_
    refine j_iload 6 57 rfl dX1_leastDial_55 rfl ?_
    refine j_iadd 58 rfl dX1_leastDial_57 ?_
    obtain ⟨h3, h⟩ := h
    refine j_iald 59 rfl dX1_leastDial_58 ly_16 h3 ?_
    obtain ⟨hbt, hbf⟩ := h
    refine j_if_le 62 108 rfl (by decide) dX1_leastDial_59 (fun hc => ?_) (fun hc => ?_)
    · have h := hbt hc
      refine j_iinc 6 (v7 + (1 : Int32)) [(0, .ref 15), (1, .int v1), (2, .ref 23), (3, .long v3), (5, .int v5), (6, .int v6), (7, .int (v7 + (1 : Int32))), (8, .int r2)] 111 rfl dX1_leastDial_108 rfl rfl (by decide) rfl ?_
      refine j_goto 30 (by decide) dX1_leastDial_111 ?_
      refine j_sub [0, 1, 2, 3, 4, 5, 6] rfl ?_
      exact h
    · have h := hbf hc
      refine j_iload 7 64 rfl dX1_leastDial_62 rfl ?_
      obtain ⟨hbt, hbf⟩ := h
      refine j_if_le 67 108 rfl (by decide) dX1_leastDial_64 (fun hc => ?_) (fun hc => ?_)
      · have h := hbt hc
        refine j_iinc 6 (v7 + (1 : Int32)) [(0, .ref 15), (1, .int v1), (2, .ref 23), (3, .long v3), (5, .int v5), (6, .int v6), (7, .int (v7 + (1 : Int32))), (8, .int r2)] 111 rfl dX1_leastDial_108 rfl rfl (by decide) rfl ?_
        refine j_goto 30 (by decide) dX1_leastDial_111 ?_
        refine j_sub [0, 1, 2, 3, 4, 5, 6] rfl ?_
        exact h
      · have h := hbf hc
        refine j_aload_n 2 68 rfl dX1_leastDial_67 rfl rfl ?_
        refine j_iload 4 70 rfl dX1_leastDial_68 rfl ?_
        obtain ⟨h4, h⟩ := h
        refine j_iald 71 rfl dX1_leastDial_70 ly_23 h4 ?_
        refine j_aload_n 0 72 rfl dX1_leastDial_71 rfl rfl ?_
        refine j_getR 75 rfl dX1_leastDial_72 lf_X1_9 ly_15 rfl ?_
        refine j_iload 5 77 rfl dX1_leastDial_75 rfl ?_
        refine j_iload 6 79 rfl dX1_leastDial_77 rfl ?_
        refine j_iadd 80 rfl dX1_leastDial_79 ?_
        obtain ⟨h5, h⟩ := h
        refine j_iald 81 rfl dX1_leastDial_80 ly_16 h5 ?_
        refine j_imul 82 rfl dX1_leastDial_81 ?_
        refine j_aload_n 0 83 rfl dX1_leastDial_82 rfl rfl ?_
        refine j_getR 86 rfl dX1_leastDial_83 lf_X1_26 ly_15 rfl ?_
        refine j_getI 89 rfl dX1_leastDial_86 lf_X1_83 ly_13 rfl ?_
        refine j_iadd 90 rfl dX1_leastDial_89 ?_
        refine j_istore [(0, .ref 15), (1, .int v1), (2, .ref 23), (3, .long v3), (5, .int v5), (6, .int v6), (7, .int v7), (8, .int r2), (9, .int (((G1 23 v5.toNatClampNeg) * (G1 16 (v6 + v7).toNatClampNeg)) + (G1 13 0)))] 92 rfl dX1_leastDial_90 (by decide) rfl ?_
        refine j_lload_n 3 93 rfl dX1_leastDial_92 rfl rfl ?_
        refine j_iload 8 95 rfl dX1_leastDial_93 rfl ?_
        refine j_iload 7 97 rfl dX1_leastDial_95 rfl ?_
        refine j_iadd 98 rfl dX1_leastDial_97 ?_
        refine j_iconst (1 : Int32) 99 rfl dX1_leastDial_98 (by decide) ?_
        refine j_isub 100 rfl dX1_leastDial_99 ?_
        refine j_iload 7 102 rfl dX1_leastDial_100 rfl ?_
        obtain ⟨h6, h⟩ := h
        refine j_idiv 103 rfl dX1_leastDial_102 h6 ?_
        refine j_i2l 104 rfl dX1_leastDial_103 ?_
        refine j_lmax 107 rfl dX1_leastDial_104 ll_X1_86 lw_lmax (by decide) (Nat.le_of_ble_eq_true rfl) ?_
        refine j_lstore_n [(0, .ref 15), (1, .int v1), (2, .ref 23), (3, .long (if ((((((G1 23 v5.toNatClampNeg) * (G1 16 (v6 + v7).toNatClampNeg)) + (G1 13 0)) + r2) - (1 : Int32)) / r2).toInt64 < v3 then v3 else ((((((G1 23 v5.toNatClampNeg) * (G1 16 (v6 + v7).toNatClampNeg)) + (G1 13 0)) + r2) - (1 : Int32)) / r2).toInt64)), (5, .int v5), (6, .int v6), (7, .int v7), (8, .int r2), (9, .int (((G1 23 v5.toNatClampNeg) * (G1 16 (v6 + v7).toNatClampNeg)) + (G1 13 0)))] 108 rfl dX1_leastDial_107 rfl (by decide) rfl ?_
        refine j_iinc 6 (v7 + (1 : Int32)) [(0, .ref 15), (1, .int v1), (2, .ref 23), (3, .long (if ((((((G1 23 v5.toNatClampNeg) * (G1 16 (v6 + v7).toNatClampNeg)) + (G1 13 0)) + r2) - (1 : Int32)) / r2).toInt64 < v3 then v3 else ((((((G1 23 v5.toNatClampNeg) * (G1 16 (v6 + v7).toNatClampNeg)) + (G1 13 0)) + r2) - (1 : Int32)) / r2).toInt64)), (5, .int v5), (6, .int v6), (7, .int (v7 + (1 : Int32))), (8, .int r2), (9, .int (((G1 23 v5.toNatClampNeg) * (G1 16 (v6 + v7).toNatClampNeg)) + (G1 13 0)))] 111 rfl dX1_leastDial_108 rfl rfl (by decide) rfl ?_
        refine j_goto 30 (by decide) dX1_leastDial_111 ?_
        refine j_sub [0, 1, 2, 3, 4, 5, 6] rfl ?_
        exact h
theorem vX1_areMetAround (post : Option Value → GG → Prop) (v1 : Int32) (G : GG) (h : (vp_in v1 30) ∧ ((vp_in v1 30) ∧ ((((G 22 v1.toNatClampNeg) * (G 17 v1.toNatClampNeg)) ≤ (G 13 1) → (zJ kX1_areMetAround post 24 [(0, .ref 15), (1, .int v1), (2, .ref 22), (3, .int (1 : Int32))] [] G)) ∧ (¬ ((G 22 v1.toNatClampNeg) * (G 17 v1.toNatClampNeg)) ≤ (G 13 1) → (post (some (.int (0 : Int32))) G))))) : CT kX1_areMetAround [.ref 15, .int v1, .ref 22] G post := by
  refine CT.of (by decide) (Nat.le_of_ble_eq_true rfl) ?_
  show zJ kX1_areMetAround post 0 [(0, .ref 15), (1, .int v1), (2, .ref 22)] [] G
  refine j_aload_n 2 1 rfl dX1_areMetAround_0 rfl rfl ?_
  refine j_iload_n 1 2 rfl dX1_areMetAround_1 rfl rfl ?_
  obtain ⟨h1, h⟩ := h
  refine j_iald 3 rfl dX1_areMetAround_2 ly_22 h1 ?_
  refine j_aload_n 0 4 rfl dX1_areMetAround_3 rfl rfl ?_
  refine j_getR 7 rfl dX1_areMetAround_4 lf_X1_15 ly_15 rfl ?_
  refine j_iload_n 1 8 rfl dX1_areMetAround_7 rfl rfl ?_
  obtain ⟨h2, h⟩ := h
  refine j_iald 9 rfl dX1_areMetAround_8 ly_17 h2 ?_
  refine j_imul 10 rfl dX1_areMetAround_9 ?_
  refine j_aload_n 0 11 rfl dX1_areMetAround_10 rfl rfl ?_
  refine j_getR 14 rfl dX1_areMetAround_11 lf_X1_26 ly_15 rfl ?_
  refine j_getI 17 rfl dX1_areMetAround_14 lf_X1_89 ly_13 rfl ?_
  obtain ⟨hbt, hbf⟩ := h
  refine j_icmp_le 20 22 rfl (by decide) dX1_areMetAround_17 (fun hc => ?_) (fun hc => ?_)
  · have h := hbt hc
    refine j_iconst (1 : Int32) 23 rfl dX1_areMetAround_22 (by decide) ?_
    refine j_istore_n [(0, .ref 15), (1, .int v1), (2, .ref 22), (3, .int (1 : Int32))] 24 rfl dX1_areMetAround_23 rfl (by decide) rfl ?_
    exact h
  · have h := hbf hc
    refine j_iconst (0 : Int32) 21 rfl dX1_areMetAround_20 (by decide) ?_
    exact j_iret dX1_areMetAround_21 rfl rfl h
theorem vX1_areMetAround_24 (post : Option Value → GG → Prop) (v1 : Int32) (v3 : Int32) (G : GG) (h : ((G 1 0) ≤ v3 → (post (some (.int (1 : Int32))) G)) ∧ (¬ (G 1 0) ≤ v3 → ((v1 ≤ v3 → (zJ kX1_areMetAround post 50 [(0, .ref 15), (1, .int v1), (2, .ref 22), (3, .int v3)] [] G)) ∧ (¬ v1 ≤ v3 → (CTi kX1_isMet [.ref 15, .int v3, .int v1, .ref 22] G (fun r2 G1 => (r2 = (0 : Int32) → (post (some (.int (0 : Int32))) G1)) ∧ (¬ r2 = (0 : Int32) → (zJ kX1_areMetAround post 50 [(0, .ref 15), (1, .int v1), (2, .ref 22), (3, .int v3)] [] G1)))))))) : zJ kX1_areMetAround post 24 [(0, .ref 15), (1, .int v1), (2, .ref 22), (3, .int v3)] [] G := by
  refine j_iload_n 3 25 rfl dX1_areMetAround_24 rfl rfl ?_
  refine j_aload_n 0 26 rfl dX1_areMetAround_25 rfl rfl ?_
  refine j_getR 29 rfl dX1_areMetAround_26 lf_X1_18 ly_15 rfl ?_
  refine j_getI 32 rfl dX1_areMetAround_29 lf_X1_30 ly_1 rfl ?_
  obtain ⟨hbt, hbf⟩ := h
  refine j_icmp_ge 35 73 rfl (by decide) dX1_areMetAround_32 (fun hc => ?_) (fun hc => ?_)
  · have h := hbt hc
    refine j_iconst (1 : Int32) 74 rfl dX1_areMetAround_73 (by decide) ?_
    exact j_iret dX1_areMetAround_74 rfl rfl h
  · have h := hbf hc
    refine j_iload_n 3 36 rfl dX1_areMetAround_35 rfl rfl ?_
    refine j_iload_n 1 37 rfl dX1_areMetAround_36 rfl rfl ?_
    obtain ⟨hbt, hbf⟩ := h
    refine j_icmp_ge 40 50 rfl (by decide) dX1_areMetAround_37 (fun hc => ?_) (fun hc => ?_)
    · have h := hbt hc
      exact h
    · have h := hbf hc
      refine j_aload_n 0 41 rfl dX1_areMetAround_40 rfl rfl ?_
      refine j_iload_n 3 42 rfl dX1_areMetAround_41 rfl rfl ?_
      refine j_iload_n 1 43 rfl dX1_areMetAround_42 rfl rfl ?_
      refine j_aload_n 2 44 rfl dX1_areMetAround_43 rfl rfl ?_
      refine j_callV (K' := kX1_isMet) (As := [.int v3, .int v1, .ref 22]) (S := []) dX1_areMetAround_44 ll_X1_92 ok_X1_isMet ⟨by decide, by decide⟩ ly_15 rfl rfl (Nat.le_of_ble_eq_true rfl) rfl (CT.mono h (fun r G1 hr => ?_))
      obtain ⟨r2, rfl, h⟩ := hr
      show zJ kX1_areMetAround post 47 [(0, .ref 15), (1, .int v1), (2, .ref 22), (3, .int v3)] [.int r2] G1
      obtain ⟨hbt, hbf⟩ := h
      refine j_if_eq 50 65 rfl (by decide) dX1_areMetAround_47 (fun hc => ?_) (fun hc => ?_)
      · have h := hbt hc
        refine j_iconst (0 : Int32) 66 rfl dX1_areMetAround_65 (by decide) ?_
        exact j_iret dX1_areMetAround_66 rfl rfl h
      · have h := hbf hc
        exact h
theorem vX1_areMetAround_50 (post : Option Value → GG → Prop) (v1 : Int32) (v3 : Int32) (G : GG) (h : (v3 ≤ v1 → (zJ kX1_areMetAround post 24 [(0, .ref 15), (1, .int v1), (2, .ref 22), (3, .int (v3 + (1 : Int32)))] [] G)) ∧ (¬ v3 ≤ v1 → (CTi kX1_isMet [.ref 15, .int v1, .int v3, .ref 22] G (fun r2 G1 => (¬ r2 = (0 : Int32) → (zJ kX1_areMetAround post 24 [(0, .ref 15), (1, .int v1), (2, .ref 22), (3, .int (v3 + (1 : Int32)))] [] G1)) ∧ (r2 = (0 : Int32) → (post (some (.int (0 : Int32))) G1)))))) : zJ kX1_areMetAround post 50 [(0, .ref 15), (1, .int v1), (2, .ref 22), (3, .int v3)] [] G := by
  refine j_iload_n 3 51 rfl dX1_areMetAround_50 rfl rfl ?_
  refine j_iload_n 1 52 rfl dX1_areMetAround_51 rfl rfl ?_
  obtain ⟨hbt, hbf⟩ := h
  refine j_icmp_le 55 67 rfl (by decide) dX1_areMetAround_52 (fun hc => ?_) (fun hc => ?_)
  · have h := hbt hc
    refine j_iinc 3 (v3 + (1 : Int32)) [(0, .ref 15), (1, .int v1), (2, .ref 22), (3, .int (v3 + (1 : Int32)))] 70 rfl dX1_areMetAround_67 rfl rfl (by decide) rfl ?_
    refine j_goto 24 (by decide) dX1_areMetAround_70 ?_
    exact h
  · have h := hbf hc
    refine j_aload_n 0 56 rfl dX1_areMetAround_55 rfl rfl ?_
    refine j_iload_n 1 57 rfl dX1_areMetAround_56 rfl rfl ?_
    refine j_iload_n 3 58 rfl dX1_areMetAround_57 rfl rfl ?_
    refine j_aload_n 2 59 rfl dX1_areMetAround_58 rfl rfl ?_
    refine j_callV (K' := kX1_isMet) (As := [.int v1, .int v3, .ref 22]) (S := []) dX1_areMetAround_59 ll_X1_92 ok_X1_isMet ⟨by decide, by decide⟩ ly_15 rfl rfl (Nat.le_of_ble_eq_true rfl) rfl (CT.mono h (fun r G1 hr => ?_))
    obtain ⟨r2, rfl, h⟩ := hr
    show zJ kX1_areMetAround post 62 [(0, .ref 15), (1, .int v1), (2, .ref 22), (3, .int v3)] [.int r2] G1
    obtain ⟨hbt, hbf⟩ := h
    refine j_if_ne 65 67 rfl (by decide) dX1_areMetAround_62 (fun hc => ?_) (fun hc => ?_)
    · have h := hbt hc
      refine j_iinc 3 (v3 + (1 : Int32)) [(0, .ref 15), (1, .int v1), (2, .ref 22), (3, .int (v3 + (1 : Int32)))] 70 rfl dX1_areMetAround_67 rfl rfl (by decide) rfl ?_
      refine j_goto 24 (by decide) dX1_areMetAround_70 ?_
      exact h
    · have h := hbf hc
      refine j_iconst (0 : Int32) 66 rfl dX1_areMetAround_65 (by decide) ?_
      exact j_iret dX1_areMetAround_66 rfl rfl h
theorem vX1_isMet (post : Option Value → GG → Prop) (v1 : Int32) (v2 : Int32) (G : GG) (h : CTi kX1_rowOf [.int v1, .int v2] G (fun r2 G1 => zJ kX1_isMet post 10 [(0, .ref 15), (1, .int v1), (2, .int v2), (3, .ref 22), (4, .int r2), (5, .int (0 : Int32))] [] G1)) : CT kX1_isMet [.ref 15, .int v1, .int v2, .ref 22] G post := by
  refine CT.of (by decide) (Nat.le_of_ble_eq_true rfl) ?_
  show zJ kX1_isMet post 0 [(0, .ref 15), (1, .int v1), (2, .int v2), (3, .ref 22)] [] G
  refine j_iload_n 1 1 rfl dX1_isMet_0 rfl rfl ?_
  refine j_iload_n 2 2 rfl dX1_isMet_1 rfl rfl ?_
  refine j_callS (K' := kX1_rowOf) (As := [.int v1, .int v2]) (S := []) dX1_isMet_2 ll_X1_80 ok_X1_rowOf ⟨by decide, by decide⟩ rfl (Nat.le_of_ble_eq_true rfl) rfl (CT.mono h (fun r G1 hr => ?_))
  obtain ⟨r2, rfl, h⟩ := hr
  show zJ kX1_isMet post 5 [(0, .ref 15), (1, .int v1), (2, .int v2), (3, .ref 22)] [.int r2] G1
  refine j_istore [(0, .ref 15), (1, .int v1), (2, .int v2), (3, .ref 22), (4, .int r2)] 7 rfl dX1_isMet_5 (by decide) rfl ?_
  refine j_iconst (0 : Int32) 8 rfl dX1_isMet_7 (by decide) ?_
  refine j_istore [(0, .ref 15), (1, .int v1), (2, .int v2), (3, .ref 22), (4, .int r2), (5, .int (0 : Int32))] 10 rfl dX1_isMet_8 (by decide) rfl ?_
  exact h
theorem vX1_isMet_10 (post : Option Value → GG → Prop) (v1 : Int32) (v2 : Int32) (v4 : Int32) (v5 : Int32) (G : GG) (h : ((8 : Int32) ≤ v5 → (post (some (.int (1 : Int32))) G)) ∧ (¬ (8 : Int32) ≤ v5 → ((vp_in (v4 + v5) 3480) ∧ (((G 16 (v4 + v5).toNatClampNeg) ≤ (0 : Int32) → (zJ kX1_isMet post 10 [(0, .ref 15), (1, .int v1), (2, .int v2), (3, .ref 22), (4, .int v4), (5, .int (v5 + (1 : Int32)))] [] G)) ∧ (¬ (G 16 (v4 + v5).toNatClampNeg) ≤ (0 : Int32) → ((vp_in v1 30) ∧ (CTi kX5_ticksAt [.ref 7, .int v1, .int v5] G (fun r4 G3 => (vp_in v2 30) ∧ (((((G3 22 v2.toNatClampNeg) * (G 16 (v4 + v5).toNatClampNeg)) + (G3 13 0)) ≤ ((G 22 v1.toNatClampNeg) * r4) → (zJ kX1_isMet post 10 [(0, .ref 15), (1, .int v1), (2, .int v2), (3, .ref 22), (4, .int v4), (5, .int (v5 + (1 : Int32)))] [] G3)) ∧ (¬ (((G3 22 v2.toNatClampNeg) * (G 16 (v4 + v5).toNatClampNeg)) + (G3 13 0)) ≤ ((G 22 v1.toNatClampNeg) * r4) → (post (some (.int (0 : Int32))) G3))))))))))) : zJ kX1_isMet post 10 [(0, .ref 15), (1, .int v1), (2, .int v2), (3, .ref 22), (4, .int v4), (5, .int v5)] [] G := by
  refine j_iload 5 12 rfl dX1_isMet_10 rfl ?_
  refine j_bipush (8 : Int32) 14 rfl dX1_isMet_12 (by decide) ?_
  obtain ⟨hbt, hbf⟩ := h
  refine j_icmp_ge 17 73 rfl (by decide) dX1_isMet_14 (fun hc => ?_) (fun hc => ?_)
  · have h := hbt hc
    refine j_iconst (1 : Int32) 74 rfl dX1_isMet_73 (by decide) ?_
    exact j_iret dX1_isMet_74 rfl rfl h
  · have h := hbf hc
    refine j_aload_n 0 18 rfl dX1_isMet_17 rfl rfl ?_
    refine j_getR 21 rfl dX1_isMet_18 lf_X1_9 ly_15 rfl ?_
    refine j_iload 4 23 rfl dX1_isMet_21 rfl ?_
    refine j_iload 5 25 rfl dX1_isMet_23 rfl ?_
    refine j_iadd 26 rfl dX1_isMet_25 ?_
    obtain ⟨h1, h⟩ := h
    refine j_iald 27 rfl dX1_isMet_26 ly_16 h1 ?_
    refine j_istore [(0, .ref 15), (1, .int v1), (2, .int v2), (3, .ref 22), (4, .int v4), (5, .int v5), (6, .int (G 16 (v4 + v5).toNatClampNeg))] 29 rfl dX1_isMet_27 (by decide) rfl ?_
    refine j_iload 6 31 rfl dX1_isMet_29 rfl ?_
    obtain ⟨hbt, hbf⟩ := h
    refine j_if_le 34 67 rfl (by decide) dX1_isMet_31 (fun hc => ?_) (fun hc => ?_)
    · have h := hbt hc
      refine j_iinc 5 (v5 + (1 : Int32)) [(0, .ref 15), (1, .int v1), (2, .int v2), (3, .ref 22), (4, .int v4), (5, .int (v5 + (1 : Int32))), (6, .int (G 16 (v4 + v5).toNatClampNeg))] 70 rfl dX1_isMet_67 rfl rfl (by decide) rfl ?_
      refine j_goto 10 (by decide) dX1_isMet_70 ?_
      refine j_sub [0, 1, 2, 3, 4, 5] rfl ?_
      exact h
    · have h := hbf hc
      refine j_aload_n 3 35 rfl dX1_isMet_34 rfl rfl ?_
      refine j_iload_n 1 36 rfl dX1_isMet_35 rfl rfl ?_
      obtain ⟨h2, h⟩ := h
      refine j_iald 37 rfl dX1_isMet_36 ly_22 h2 ?_
      refine j_aload_n 0 38 rfl dX1_isMet_37 rfl rfl ?_
      refine j_getR 41 rfl dX1_isMet_38 lf_X1_22 ly_15 rfl ?_
      refine j_iload_n 1 42 rfl dX1_isMet_41 rfl rfl ?_
      refine j_iload 5 44 rfl dX1_isMet_42 rfl ?_
      refine j_callV (K' := kX5_ticksAt) (As := [.int v1, .int v5]) (S := [.int (G 22 v1.toNatClampNeg)]) dX1_isMet_44 ll_X1_71 ok_X5_ticksAt ⟨by decide, by decide⟩ ly_7 rfl rfl (Nat.le_of_ble_eq_true rfl) rfl (CT.mono h (fun r G3 hr => ?_))
      obtain ⟨r4, rfl, h⟩ := hr
      show zJ kX1_isMet post 47 [(0, .ref 15), (1, .int v1), (2, .int v2), (3, .ref 22), (4, .int v4), (5, .int v5), (6, .int (G 16 (v4 + v5).toNatClampNeg))] [.int r4, .int (G 22 v1.toNatClampNeg)] G3
      refine j_imul 48 rfl dX1_isMet_47 ?_
      refine j_aload_n 3 49 rfl dX1_isMet_48 rfl rfl ?_
      refine j_iload_n 2 50 rfl dX1_isMet_49 rfl rfl ?_
      obtain ⟨h5, h⟩ := h
      refine j_iald 51 rfl dX1_isMet_50 ly_22 h5 ?_
      refine j_iload 6 53 rfl dX1_isMet_51 rfl ?_
      refine j_imul 54 rfl dX1_isMet_53 ?_
      refine j_aload_n 0 55 rfl dX1_isMet_54 rfl rfl ?_
      refine j_getR 58 rfl dX1_isMet_55 lf_X1_26 ly_15 rfl ?_
      refine j_getI 61 rfl dX1_isMet_58 lf_X1_83 ly_13 rfl ?_
      refine j_iadd 62 rfl dX1_isMet_61 ?_
      obtain ⟨hbt, hbf⟩ := h
      refine j_icmp_ge 65 67 rfl (by decide) dX1_isMet_62 (fun hc => ?_) (fun hc => ?_)
      · have h := hbt hc
        refine j_iinc 5 (v5 + (1 : Int32)) [(0, .ref 15), (1, .int v1), (2, .int v2), (3, .ref 22), (4, .int v4), (5, .int (v5 + (1 : Int32))), (6, .int (G 16 (v4 + v5).toNatClampNeg))] 70 rfl dX1_isMet_67 rfl rfl (by decide) rfl ?_
        refine j_goto 10 (by decide) dX1_isMet_70 ?_
        refine j_sub [0, 1, 2, 3, 4, 5] rfl ?_
        exact h
      · have h := hbf hc
        refine j_iconst (0 : Int32) 66 rfl dX1_isMet_65 (by decide) ?_
        exact j_iret dX1_isMet_66 rfl rfl h
theorem vX2_look (post : Option Value → GG → Prop)  (G : GG) (h : CTv kX2_note [.ref 14, .int (0 : Int32), .int (-1 : Int32), .int (-1 : Int32), .int (-1 : Int32)] G (fun G1 => zJ kX2_look post 10 [(0, .ref 14), (1, .int (1 : Int32))] [] G1)) : CT kX2_look [.ref 14] G post := by
  refine CT.of (by decide) (Nat.le_of_ble_eq_true rfl) ?_
  show zJ kX2_look post 0 [(0, .ref 14)] [] G
  refine j_aload_n 0 1 rfl dX2_look_0 rfl rfl ?_
  refine j_iconst (0 : Int32) 2 rfl dX2_look_1 (by decide) ?_
  refine j_iconst (-1 : Int32) 3 rfl dX2_look_2 (by decide) ?_
  refine j_iconst (-1 : Int32) 4 rfl dX2_look_3 (by decide) ?_
  refine j_iconst (-1 : Int32) 5 rfl dX2_look_4 (by decide) ?_
  refine j_callV (K' := kX2_note) (As := [.int (0 : Int32), .int (-1 : Int32), .int (-1 : Int32), .int (-1 : Int32)]) (S := []) dX2_look_5 ll_X2_23 ok_X2_note ⟨by decide, by decide⟩ ly_14 rfl rfl (Nat.le_of_ble_eq_true rfl) rfl (CT.mono h (fun r G1 hr => ?_))
  obtain ⟨rfl, h⟩ := hr
  show zJ kX2_look post 8 [(0, .ref 14)] [] G1
  refine j_iconst (1 : Int32) 9 rfl dX2_look_8 (by decide) ?_
  refine j_istore_n [(0, .ref 14), (1, .int (1 : Int32))] 10 rfl dX2_look_9 rfl (by decide) rfl ?_
  exact h
theorem vX2_look_10 (post : Option Value → GG → Prop) (v1 : Int32) (G : GG) (h : ((G 1 0) ≤ v1 → (zJ kX2_look post 41 [(0, .ref 14), (1, .int (1 : Int32))] [] G)) ∧ (¬ (G 1 0) ≤ v1 → ((¬ (G 14 3) = (0 : Int32) → (zJ kX2_look post 41 [(0, .ref 14), (1, .int (1 : Int32))] [] G)) ∧ ((G 14 3) = (0 : Int32) → (CTv kX2_lookAtLine [.ref 14, .int v1] G (fun G1 => zJ kX2_look post 10 [(0, .ref 14), (1, .int (v1 + (1 : Int32)))] [] G1)))))) : zJ kX2_look post 10 [(0, .ref 14), (1, .int v1)] [] G := by
  refine j_iload_n 1 11 rfl dX2_look_10 rfl rfl ?_
  refine j_aload_n 0 12 rfl dX2_look_11 rfl rfl ?_
  refine j_getR 15 rfl dX2_look_12 lf_X2_9 ly_14 rfl ?_
  refine j_getI 18 rfl dX2_look_15 lf_X2_27 ly_1 rfl ?_
  obtain ⟨hbt, hbf⟩ := h
  refine j_icmp_ge 21 39 rfl (by decide) dX2_look_18 (fun hc => ?_) (fun hc => ?_)
  · have h := hbt hc
    refine j_iconst (1 : Int32) 40 rfl dX2_look_39 (by decide) ?_
    refine j_istore_n [(0, .ref 14), (1, .int (1 : Int32))] 41 rfl dX2_look_40 rfl (by decide) rfl ?_
    exact h
  · have h := hbf hc
    refine j_aload_n 0 22 rfl dX2_look_21 rfl rfl ?_
    refine j_getI 25 rfl dX2_look_22 lf_X2_33 ly_14 rfl ?_
    obtain ⟨hbt, hbf⟩ := h
    refine j_if_ne 28 39 rfl (by decide) dX2_look_25 (fun hc => ?_) (fun hc => ?_)
    · have h := hbt hc
      refine j_iconst (1 : Int32) 40 rfl dX2_look_39 (by decide) ?_
      refine j_istore_n [(0, .ref 14), (1, .int (1 : Int32))] 41 rfl dX2_look_40 rfl (by decide) rfl ?_
      exact h
    · have h := hbf hc
      refine j_aload_n 0 29 rfl dX2_look_28 rfl rfl ?_
      refine j_iload_n 1 30 rfl dX2_look_29 rfl rfl ?_
      refine j_callV (K' := kX2_lookAtLine) (As := [.int v1]) (S := []) dX2_look_30 ll_X2_36 ok_X2_lookAtLine ⟨by decide, by decide⟩ ly_14 rfl rfl (Nat.le_of_ble_eq_true rfl) rfl (CT.mono h (fun r G1 hr => ?_))
      obtain ⟨rfl, h⟩ := hr
      show zJ kX2_look post 33 [(0, .ref 14), (1, .int v1)] [] G1
      refine j_iinc 1 (v1 + (1 : Int32)) [(0, .ref 14), (1, .int (v1 + (1 : Int32)))] 36 rfl dX2_look_33 rfl rfl (by decide) rfl ?_
      refine j_goto 10 (by decide) dX2_look_36 ?_
      exact h
theorem vX2_look_41 (post : Option Value → GG → Prop) (v1 : Int32) (G : GG) (h : ((G 1 0) ≤ v1 → (post none G)) ∧ (¬ (G 1 0) ≤ v1 → ((¬ (G 14 3) = (0 : Int32) → (post none G)) ∧ ((G 14 3) = (0 : Int32) → (CTi kX3_currentByLoads [.ref 1, .int v1] G (fun r2 G1 => CTi kX5_cornerReached [.ref 7, .int v1, .long r2.toInt64, .long (1 : Int64)] G1 (fun r4 G3 => (r4 = (-1 : Int32) → (zJ kX2_look post 41 [(0, .ref 14), (1, .int (v1 + (1 : Int32)))] [] G3)) ∧ (¬ r4 = (-1 : Int32) → (CTv kX2_note [.ref 14, .int (4 : Int32), .int v1, .int (-1 : Int32), .int (-1 : Int32)] G3 (fun G5 => zJ kX2_look post 41 [(0, .ref 14), (1, .int (v1 + (1 : Int32)))] [] G5)))))))))) : zJ kX2_look post 41 [(0, .ref 14), (1, .int v1)] [] G := by
  refine j_iload_n 1 42 rfl dX2_look_41 rfl rfl ?_
  refine j_aload_n 0 43 rfl dX2_look_42 rfl rfl ?_
  refine j_getR 46 rfl dX2_look_43 lf_X2_9 ly_14 rfl ?_
  refine j_getI 49 rfl dX2_look_46 lf_X2_27 ly_1 rfl ?_
  obtain ⟨hbt, hbf⟩ := h
  refine j_icmp_ge 52 95 rfl (by decide) dX2_look_49 (fun hc => ?_) (fun hc => ?_)
  · have h := hbt hc
    exact j_vret dX2_look_95 rfl h
  · have h := hbf hc
    refine j_aload_n 0 53 rfl dX2_look_52 rfl rfl ?_
    refine j_getI 56 rfl dX2_look_53 lf_X2_33 ly_14 rfl ?_
    obtain ⟨hbt, hbf⟩ := h
    refine j_if_ne 59 95 rfl (by decide) dX2_look_56 (fun hc => ?_) (fun hc => ?_)
    · have h := hbt hc
      exact j_vret dX2_look_95 rfl h
    · have h := hbf hc
      refine j_aload_n 0 60 rfl dX2_look_59 rfl rfl ?_
      refine j_getR 63 rfl dX2_look_60 lf_X2_15 ly_14 rfl ?_
      refine j_iload_n 1 64 rfl dX2_look_63 rfl rfl ?_
      refine j_aload_n 0 65 rfl dX2_look_64 rfl rfl ?_
      refine j_getR 68 rfl dX2_look_65 lf_X2_9 ly_14 rfl ?_
      refine j_iload_n 1 69 rfl dX2_look_68 rfl rfl ?_
      refine j_callV (K' := kX3_currentByLoads) (As := [.int v1]) (S := [.int v1, .ref 7]) dX2_look_69 ll_X2_40 ok_X3_currentByLoads ⟨by decide, by decide⟩ ly_1 rfl rfl (Nat.le_of_ble_eq_true rfl) rfl (CT.mono h (fun r G1 hr => ?_))
      obtain ⟨r2, rfl, h⟩ := hr
      show zJ kX2_look post 72 [(0, .ref 14), (1, .int v1)] [.int r2, .int v1, .ref 7] G1
      refine j_i2l 73 rfl dX2_look_72 ?_
      refine j_lconst (1 : Int64) 74 rfl dX2_look_73 (by decide) ?_
      refine j_callV (K' := kX5_cornerReached) (As := [.int v1, .long r2.toInt64, .long (1 : Int64)]) (S := []) dX2_look_74 ll_X2_44 ok_X5_cornerReached ⟨by decide, by decide⟩ ly_7 rfl rfl (Nat.le_of_ble_eq_true rfl) rfl (CT.mono h (fun r G3 hr => ?_))
      obtain ⟨r4, rfl, h⟩ := hr
      show zJ kX2_look post 77 [(0, .ref 14), (1, .int v1)] [.int r4] G3
      refine j_iconst (-1 : Int32) 78 rfl dX2_look_77 (by decide) ?_
      obtain ⟨hbt, hbf⟩ := h
      refine j_icmp_eq 81 89 rfl (by decide) dX2_look_78 (fun hc => ?_) (fun hc => ?_)
      · have h := hbt hc
        refine j_iinc 1 (v1 + (1 : Int32)) [(0, .ref 14), (1, .int (v1 + (1 : Int32)))] 92 rfl dX2_look_89 rfl rfl (by decide) rfl ?_
        refine j_goto 41 (by decide) dX2_look_92 ?_
        exact h
      · have h := hbf hc
        refine j_aload_n 0 82 rfl dX2_look_81 rfl rfl ?_
        refine j_iconst (4 : Int32) 83 rfl dX2_look_82 (by decide) ?_
        refine j_iload_n 1 84 rfl dX2_look_83 rfl rfl ?_
        refine j_iconst (-1 : Int32) 85 rfl dX2_look_84 (by decide) ?_
        refine j_iconst (-1 : Int32) 86 rfl dX2_look_85 (by decide) ?_
        refine j_callV (K' := kX2_note) (As := [.int (4 : Int32), .int v1, .int (-1 : Int32), .int (-1 : Int32)]) (S := []) dX2_look_86 ll_X2_23 ok_X2_note ⟨by decide, by decide⟩ ly_14 rfl rfl (Nat.le_of_ble_eq_true rfl) rfl (CT.mono h (fun r G5 hr => ?_))
        obtain ⟨rfl, h⟩ := hr
        show zJ kX2_look post 89 [(0, .ref 14), (1, .int v1)] [] G5
        refine j_iinc 1 (v1 + (1 : Int32)) [(0, .ref 14), (1, .int (v1 + (1 : Int32)))] 92 rfl dX2_look_89 rfl rfl (by decide) rfl ?_
        refine j_goto 41 (by decide) dX2_look_92 ?_
        exact h
theorem vX2_note (post : Option Value → GG → Prop) (v1 : Int32) (v2 : Int32) (v3 : Int32) (v4 : Int32) (G : GG) (h : post none (gU (gU (gU (gU G 14 3 v1) 14 4 v2) 14 5 v3) 14 6 v4)) : CT kX2_note [.ref 14, .int v1, .int v2, .int v3, .int v4] G post := by
  refine CT.of (by decide) (Nat.le_of_ble_eq_true rfl) ?_
  show zJ kX2_note post 0 [(0, .ref 14), (1, .int v1), (2, .int v2), (3, .int v3), (4, .int v4)] [] G
  refine j_aload_n 0 1 rfl dX2_note_0 rfl rfl ?_
  refine j_iload_n 1 2 rfl dX2_note_1 rfl rfl ?_
  refine j_put 5 rfl dX2_note_2 lp_X2_33 ly_14 rfl rfl rfl ?_
  refine j_aload_n 0 6 rfl dX2_note_5 rfl rfl ?_
  refine j_iload_n 2 7 rfl dX2_note_6 rfl rfl ?_
  refine j_put 10 rfl dX2_note_7 lp_X2_50 ly_14 rfl rfl rfl ?_
  refine j_aload_n 0 11 rfl dX2_note_10 rfl rfl ?_
  refine j_iload_n 3 12 rfl dX2_note_11 rfl rfl ?_
  refine j_put 15 rfl dX2_note_12 lp_X2_53 ly_14 rfl rfl rfl ?_
  refine j_aload_n 0 16 rfl dX2_note_15 rfl rfl ?_
  refine j_iload 4 18 rfl dX2_note_16 rfl ?_
  refine j_put 21 rfl dX2_note_18 lp_X2_56 ly_14 rfl rfl rfl ?_
  exact j_vret dX2_note_21 rfl h
theorem vX2_lookAtLine (post : Option Value → GG → Prop) (v1 : Int32) (G : GG) (h : (vp_in v1 30) ∧ (CTi kX5_lastOf [.ref 7, .int (G 5 v1.toNatClampNeg)] G (fun r3 G2 => (¬ r3 = (0 : Int32) → (CTv kX2_lookAtFaults [.ref 14, .int v1, .int (2 : Int32)] G2 (fun G4 => (¬ (G4 14 3) = (0 : Int32) → (post none G4)) ∧ ((G4 14 3) = (0 : Int32) → (CTv kX2_lookAtFaults [.ref 14, .int v1, .int (3 : Int32)] G4 (fun G5 => post none G5)))))) ∧ (r3 = (0 : Int32) → (CTv kX2_note [.ref 14, .int (1 : Int32), .int v1, .int (-1 : Int32), .int (-1 : Int32)] G2 (fun G6 => post none G6)))))) : CT kX2_lookAtLine [.ref 14, .int v1] G post := by
  refine CT.of (by decide) (Nat.le_of_ble_eq_true rfl) ?_
  show zJ kX2_lookAtLine post 0 [(0, .ref 14), (1, .int v1)] [] G
  refine j_aload_n 0 1 rfl dX2_lookAtLine_0 rfl rfl ?_
  refine j_getR 4 rfl dX2_lookAtLine_1 lf_X2_15 ly_14 rfl ?_
  refine j_aload_n 0 5 rfl dX2_lookAtLine_4 rfl rfl ?_
  refine j_getR 8 rfl dX2_lookAtLine_5 lf_X2_9 ly_14 rfl ?_
  refine j_getR 11 rfl dX2_lookAtLine_8 lf_X2_59 ly_1 rfl ?_
  refine j_iload_n 1 12 rfl dX2_lookAtLine_11 rfl rfl ?_
  obtain ⟨h1, h⟩ := h
  refine j_iald 13 rfl dX2_lookAtLine_12 ly_5 h1 ?_
  refine j_callV (K' := kX5_lastOf) (As := [.int (G 5 v1.toNatClampNeg)]) (S := []) dX2_lookAtLine_13 ll_X2_63 ok_X5_lastOf ⟨by decide, by decide⟩ ly_7 rfl rfl (Nat.le_of_ble_eq_true rfl) rfl (CT.mono h (fun r G2 hr => ?_))
  obtain ⟨r3, rfl, h⟩ := hr
  show zJ kX2_lookAtLine post 16 [(0, .ref 14), (1, .int v1)] [.int r3] G2
  obtain ⟨hbt, hbf⟩ := h
  refine j_if_ne 19 28 rfl (by decide) dX2_lookAtLine_16 (fun hc => ?_) (fun hc => ?_)
  · have h := hbt hc
    refine j_aload_n 0 29 rfl dX2_lookAtLine_28 rfl rfl ?_
    refine j_iload_n 1 30 rfl dX2_lookAtLine_29 rfl rfl ?_
    refine j_iconst (2 : Int32) 31 rfl dX2_lookAtLine_30 (by decide) ?_
    refine j_callV (K' := kX2_lookAtFaults) (As := [.int v1, .int (2 : Int32)]) (S := []) dX2_lookAtLine_31 ll_X2_66 ok_X2_lookAtFaults ⟨by decide, by decide⟩ ly_14 rfl rfl (Nat.le_of_ble_eq_true rfl) rfl (CT.mono h (fun r G4 hr => ?_))
    obtain ⟨rfl, h⟩ := hr
    show zJ kX2_lookAtLine post 34 [(0, .ref 14), (1, .int v1)] [] G4
    refine j_aload_n 0 35 rfl dX2_lookAtLine_34 rfl rfl ?_
    refine j_getI 38 rfl dX2_lookAtLine_35 lf_X2_33 ly_14 rfl ?_
    obtain ⟨hbt, hbf⟩ := h
    refine j_if_ne 41 47 rfl (by decide) dX2_lookAtLine_38 (fun hc => ?_) (fun hc => ?_)
    · have h := hbt hc
      exact j_vret dX2_lookAtLine_47 rfl h
    · have h := hbf hc
      refine j_aload_n 0 42 rfl dX2_lookAtLine_41 rfl rfl ?_
      refine j_iload_n 1 43 rfl dX2_lookAtLine_42 rfl rfl ?_
      refine j_iconst (3 : Int32) 44 rfl dX2_lookAtLine_43 (by decide) ?_
      refine j_callV (K' := kX2_lookAtFaults) (As := [.int v1, .int (3 : Int32)]) (S := []) dX2_lookAtLine_44 ll_X2_66 ok_X2_lookAtFaults ⟨by decide, by decide⟩ ly_14 rfl rfl (Nat.le_of_ble_eq_true rfl) rfl (CT.mono h (fun r G5 hr => ?_))
      obtain ⟨rfl, h⟩ := hr
      show zJ kX2_lookAtLine post 47 [(0, .ref 14), (1, .int v1)] [] G5
      exact j_vret dX2_lookAtLine_47 rfl h
  · have h := hbf hc
    refine j_aload_n 0 20 rfl dX2_lookAtLine_19 rfl rfl ?_
    refine j_iconst (1 : Int32) 21 rfl dX2_lookAtLine_20 (by decide) ?_
    refine j_iload_n 1 22 rfl dX2_lookAtLine_21 rfl rfl ?_
    refine j_iconst (-1 : Int32) 23 rfl dX2_lookAtLine_22 (by decide) ?_
    refine j_iconst (-1 : Int32) 24 rfl dX2_lookAtLine_23 (by decide) ?_
    refine j_callV (K' := kX2_note) (As := [.int (1 : Int32), .int v1, .int (-1 : Int32), .int (-1 : Int32)]) (S := []) dX2_lookAtLine_24 ll_X2_23 ok_X2_note ⟨by decide, by decide⟩ ly_14 rfl rfl (Nat.le_of_ble_eq_true rfl) rfl (CT.mono h (fun r G6 hr => ?_))
    obtain ⟨rfl, h⟩ := hr
    show zJ kX2_lookAtLine post 27 [(0, .ref 14), (1, .int v1)] [] G6
    exact j_vret dX2_lookAtLine_27 rfl h
theorem vX2_lookAtFaults (post : Option Value → GG → Prop) (v1 : Int32) (v2 : Int32) (G : GG) (h : zJ kX2_lookAtFaults post 2 [(0, .ref 14), (1, .int v1), (2, .int v2), (3, .int (0 : Int32))] [] G) : CT kX2_lookAtFaults [.ref 14, .int v1, .int v2] G post := by
  refine CT.of (by decide) (Nat.le_of_ble_eq_true rfl) ?_
  show zJ kX2_lookAtFaults post 0 [(0, .ref 14), (1, .int v1), (2, .int v2)] [] G
  refine j_iconst (0 : Int32) 1 rfl dX2_lookAtFaults_0 (by decide) ?_
  refine j_istore_n [(0, .ref 14), (1, .int v1), (2, .int v2), (3, .int (0 : Int32))] 2 rfl dX2_lookAtFaults_1 rfl (by decide) rfl ?_
  exact h
theorem vX2_lookAtFaults_2 (post : Option Value → GG → Prop) (v1 : Int32) (v2 : Int32) (v3 : Int32) (G : GG) (h : ((16 : Int32) < v3 → (post none G)) ∧ (¬ (16 : Int32) < v3 → (zJ kX2_lookAtFaults post 11 [(0, .ref 14), (1, .int v1), (2, .int v2), (3, .int v3), (4, .int (0 : Int32))] [] G))) : zJ kX2_lookAtFaults post 2 [(0, .ref 14), (1, .int v1), (2, .int v2), (3, .int v3)] [] G := by
  refine j_iload_n 3 3 rfl dX2_lookAtFaults_2 rfl rfl ?_
  refine j_bipush (16 : Int32) 5 rfl dX2_lookAtFaults_3 (by decide) ?_
  obtain ⟨hbt, hbf⟩ := h
  refine j_icmp_gt 8 100 rfl (by decide) dX2_lookAtFaults_5 (fun hc => ?_) (fun hc => ?_)
  · have h := hbt hc
    exact j_vret dX2_lookAtFaults_100 rfl h
  · have h := hbf hc
    refine j_iconst (0 : Int32) 9 rfl dX2_lookAtFaults_8 (by decide) ?_
    refine j_istore [(0, .ref 14), (1, .int v1), (2, .int v2), (3, .int v3), (4, .int (0 : Int32))] 11 rfl dX2_lookAtFaults_9 (by decide) rfl ?_
    exact h
theorem vX2_lookAtFaults_11 (post : Option Value → GG → Prop) (v1 : Int32) (v2 : Int32) (v3 : Int32) (v4 : Int32) (G : GG) (h : CTi kX6_resistancesAsked [.ref 13] G (fun r2 G1 => (r2 ≤ v4 → (zJ kX2_lookAtFaults post 2 [(0, .ref 14), (1, .int v1), (2, .int v2), (3, .int (v3 + (1 : Int32)))] [] G1)) ∧ (¬ r2 ≤ v4 → (CTi kX6_resistanceAsked [.ref 13, .int v4] G1 (fun r4 G3 => CTl kX3_sumOf [.ref 1, .int v1, .int v3, .int r4] G3 (fun r6 G5 => (¬ v2 = (2 : Int32) → (CTi kX2_isOutOfOrder [.ref 14, .int v1, .long r6] G5 (fun r8 G7 => (r8 = (0 : Int32) → (zJ kX2_lookAtFaults post 11 [(0, .ref 14), (1, .int v1), (2, .int v2), (3, .int v3), (4, .int (v4 + (1 : Int32)))] [] G7)) ∧ (¬ r8 = (0 : Int32) → (zJ kX2_lookAtFaults post 71 [(0, .ref 14), (1, .int v1), (2, .int v2), (3, .int v3), (4, .int v4)] [] G7))))) ∧ (v2 = (2 : Int32) → (CTi kX2_isUnseen [.ref 14, .int v1, .long r6] G5 (fun r10 G9 => (r10 = (0 : Int32) → (zJ kX2_lookAtFaults post 11 [(0, .ref 14), (1, .int v1), (2, .int v2), (3, .int v3), (4, .int (v4 + (1 : Int32)))] [] G9)) ∧ (¬ r10 = (0 : Int32) → (zJ kX2_lookAtFaults post 71 [(0, .ref 14), (1, .int v1), (2, .int v2), (3, .int v3), (4, .int v4)] [] G9))))))))))) : zJ kX2_lookAtFaults post 11 [(0, .ref 14), (1, .int v1), (2, .int v2), (3, .int v3), (4, .int v4)] [] G := by
  refine j_iload 4 13 rfl dX2_lookAtFaults_11 rfl ?_
  refine j_aload_n 0 14 rfl dX2_lookAtFaults_13 rfl rfl ?_
  refine j_getR 17 rfl dX2_lookAtFaults_14 lf_X2_19 ly_14 rfl ?_
  refine j_callV (K' := kX6_resistancesAsked) (As := []) (S := [.int v4]) dX2_lookAtFaults_17 ll_X2_70 ok_X6_resistancesAsked ⟨by decide, by decide⟩ ly_13 rfl rfl (Nat.le_of_ble_eq_true rfl) rfl (CT.mono h (fun r G1 hr => ?_))
  obtain ⟨r2, rfl, h⟩ := hr
  show zJ kX2_lookAtFaults post 20 [(0, .ref 14), (1, .int v1), (2, .int v2), (3, .int v3), (4, .int v4)] [.int r2, .int v4] G1
  obtain ⟨hbt, hbf⟩ := h
  refine j_icmp_ge 23 94 rfl (by decide) dX2_lookAtFaults_20 (fun hc => ?_) (fun hc => ?_)
  · have h := hbt hc
    refine j_iinc 3 (v3 + (1 : Int32)) [(0, .ref 14), (1, .int v1), (2, .int v2), (3, .int (v3 + (1 : Int32))), (4, .int v4)] 97 rfl dX2_lookAtFaults_94 rfl rfl (by decide) rfl ?_
    refine j_goto 2 (by decide) dX2_lookAtFaults_97 ?_
    refine j_sub [0, 1, 2, 3] rfl ?_
    exact h
  · have h := hbf hc
    refine j_aload_n 0 24 rfl dX2_lookAtFaults_23 rfl rfl ?_
    refine j_getR 27 rfl dX2_lookAtFaults_24 lf_X2_9 ly_14 rfl ?_
    refine j_iload_n 1 28 rfl dX2_lookAtFaults_27 rfl rfl ?_
    refine j_iload_n 3 29 rfl dX2_lookAtFaults_28 rfl rfl ?_
    refine j_aload_n 0 30 rfl dX2_lookAtFaults_29 rfl rfl ?_
    refine j_getR 33 rfl dX2_lookAtFaults_30 lf_X2_19 ly_14 rfl ?_
    refine j_iload 4 35 rfl dX2_lookAtFaults_33 rfl ?_
    refine j_callV (K' := kX6_resistanceAsked) (As := [.int v4]) (S := [.int v3, .int v1, .ref 1]) dX2_lookAtFaults_35 ll_X2_76 ok_X6_resistanceAsked ⟨by decide, by decide⟩ ly_13 rfl rfl (Nat.le_of_ble_eq_true rfl) rfl (CT.mono h (fun r G3 hr => ?_))
    obtain ⟨r4, rfl, h⟩ := hr
    show zJ kX2_lookAtFaults post 38 [(0, .ref 14), (1, .int v1), (2, .int v2), (3, .int v3), (4, .int v4)] [.int r4, .int v3, .int v1, .ref 1] G3
    refine j_callV (K' := kX3_sumOf) (As := [.int v1, .int v3, .int r4]) (S := []) dX2_lookAtFaults_38 ll_X2_79 ok_X3_sumOf ⟨by decide, by decide⟩ ly_1 rfl rfl (Nat.le_of_ble_eq_true rfl) rfl (CT.mono h (fun r G5 hr => ?_))
    obtain ⟨r6, rfl, h⟩ := hr
    show zJ kX2_lookAtFaults post 41 [(0, .ref 14), (1, .int v1), (2, .int v2), (3, .int v3), (4, .int v4)] [.long r6] G5
    refine j_lstore [(0, .ref 14), (1, .int v1), (2, .int v2), (3, .int v3), (4, .int v4), (5, .long r6)] 43 rfl dX2_lookAtFaults_41 (by decide) rfl ?_
    refine j_iload_n 2 44 rfl dX2_lookAtFaults_43 rfl rfl ?_
    refine j_iconst (2 : Int32) 45 rfl dX2_lookAtFaults_44 (by decide) ?_
    obtain ⟨hbt, hbf⟩ := h
    refine j_icmp_ne 48 61 rfl (by decide) dX2_lookAtFaults_45 (fun hc => ?_) (fun hc => ?_)
    · have h := hbt hc
      refine j_aload_n 0 62 rfl dX2_lookAtFaults_61 rfl rfl ?_
      refine j_iload_n 1 63 rfl dX2_lookAtFaults_62 rfl rfl ?_
      refine j_lload 5 65 rfl dX2_lookAtFaults_63 rfl ?_
      refine j_callV (K' := kX2_isOutOfOrder) (As := [.int v1, .long r6]) (S := []) dX2_lookAtFaults_65 ll_X2_87 ok_X2_isOutOfOrder ⟨by decide, by decide⟩ ly_14 rfl rfl (Nat.le_of_ble_eq_true rfl) rfl (CT.mono h (fun r G7 hr => ?_))
      obtain ⟨r8, rfl, h⟩ := hr
      show zJ kX2_lookAtFaults post 68 [(0, .ref 14), (1, .int v1), (2, .int v2), (3, .int v3), (4, .int v4), (5, .long r6)] [.int r8] G7
      obtain ⟨hbt, hbf⟩ := h
      refine j_if_eq 71 88 rfl (by decide) dX2_lookAtFaults_68 (fun hc => ?_) (fun hc => ?_)
      · have h := hbt hc
        refine j_iinc 4 (v4 + (1 : Int32)) [(0, .ref 14), (1, .int v1), (2, .int v2), (3, .int v3), (4, .int (v4 + (1 : Int32))), (5, .long r6)] 91 rfl dX2_lookAtFaults_88 rfl rfl (by decide) rfl ?_
        refine j_goto 11 (by decide) dX2_lookAtFaults_91 ?_
        refine j_sub [0, 1, 2, 3, 4] rfl ?_
        exact h
      · have h := hbf hc
        refine j_sub [0, 1, 2, 3, 4] rfl ?_
        exact h
    · have h := hbf hc
      refine j_aload_n 0 49 rfl dX2_lookAtFaults_48 rfl rfl ?_
      refine j_iload_n 1 50 rfl dX2_lookAtFaults_49 rfl rfl ?_
      refine j_lload 5 52 rfl dX2_lookAtFaults_50 rfl ?_
      refine j_callV (K' := kX2_isUnseen) (As := [.int v1, .long r6]) (S := []) dX2_lookAtFaults_52 ll_X2_83 ok_X2_isUnseen ⟨by decide, by decide⟩ ly_14 rfl rfl (Nat.le_of_ble_eq_true rfl) rfl (CT.mono h (fun r G9 hr => ?_))
      obtain ⟨r10, rfl, h⟩ := hr
      show zJ kX2_lookAtFaults post 55 [(0, .ref 14), (1, .int v1), (2, .int v2), (3, .int v3), (4, .int v4), (5, .long r6)] [.int r10] G9
      obtain ⟨hbt, hbf⟩ := h
      refine j_if_eq 58 88 rfl (by decide) dX2_lookAtFaults_55 (fun hc => ?_) (fun hc => ?_)
      · have h := hbt hc
        refine j_iinc 4 (v4 + (1 : Int32)) [(0, .ref 14), (1, .int v1), (2, .int v2), (3, .int v3), (4, .int (v4 + (1 : Int32))), (5, .long r6)] 91 rfl dX2_lookAtFaults_88 rfl rfl (by decide) rfl ?_
        refine j_goto 11 (by decide) dX2_lookAtFaults_91 ?_
        refine j_sub [0, 1, 2, 3, 4] rfl ?_
        exact h
      · have h := hbf hc
        refine j_goto 71 (by decide) dX2_lookAtFaults_58 ?_
        refine j_sub [0, 1, 2, 3, 4] rfl ?_
        exact h
theorem vX2_lookAtFaults_71 (post : Option Value → GG → Prop) (v1 : Int32) (v2 : Int32) (v3 : Int32) (v4 : Int32) (G : GG) (h : CTi kX6_resistanceAsked [.ref 13, .int v4] G (fun r2 G1 => CTv kX2_note [.ref 14, .int v2, .int v1, .int v3, .int r2] G1 (fun G3 => post none G3))) : zJ kX2_lookAtFaults post 71 [(0, .ref 14), (1, .int v1), (2, .int v2), (3, .int v3), (4, .int v4)] [] G := by
  refine j_aload_n 0 72 rfl dX2_lookAtFaults_71 rfl rfl ?_
  refine j_iload_n 2 73 rfl dX2_lookAtFaults_72 rfl rfl ?_
  refine j_iload_n 1 74 rfl dX2_lookAtFaults_73 rfl rfl ?_
  refine j_iload_n 3 75 rfl dX2_lookAtFaults_74 rfl rfl ?_
  refine j_aload_n 0 76 rfl dX2_lookAtFaults_75 rfl rfl ?_
  refine j_getR 79 rfl dX2_lookAtFaults_76 lf_X2_19 ly_14 rfl ?_
  refine j_iload 4 81 rfl dX2_lookAtFaults_79 rfl ?_
  refine j_callV (K' := kX6_resistanceAsked) (As := [.int v4]) (S := [.int v3, .int v1, .int v2, .ref 14]) dX2_lookAtFaults_81 ll_X2_76 ok_X6_resistanceAsked ⟨by decide, by decide⟩ ly_13 rfl rfl (Nat.le_of_ble_eq_true rfl) rfl (CT.mono h (fun r G1 hr => ?_))
  obtain ⟨r2, rfl, h⟩ := hr
  show zJ kX2_lookAtFaults post 84 [(0, .ref 14), (1, .int v1), (2, .int v2), (3, .int v3), (4, .int v4)] [.int r2, .int v3, .int v1, .int v2, .ref 14] G1
  refine j_callV (K' := kX2_note) (As := [.int v2, .int v1, .int v3, .int r2]) (S := []) dX2_lookAtFaults_84 ll_X2_23 ok_X2_note ⟨by decide, by decide⟩ ly_14 rfl rfl (Nat.le_of_ble_eq_true rfl) rfl (CT.mono h (fun r G3 hr => ?_))
  obtain ⟨rfl, h⟩ := hr
  show zJ kX2_lookAtFaults post 87 [(0, .ref 14), (1, .int v1), (2, .int v2), (3, .int v3), (4, .int v4)] [] G3
  exact j_vret dX2_lookAtFaults_87 rfl h
theorem vX2_isUnseen (post : Option Value → GG → Prop) (v1 : Int32) (v2 : Int64) (G : GG) (h : (vp_in v1 30) ∧ (CTi kX5_lastOf [.ref 7, .int (G 5 v1.toNatClampNeg)] G (fun r3 G2 => CTl kX3_sixteenForces [.ref 1] G2 (fun r5 G4 => CTi kX5_cornerReached [.ref 7, .int r3, .long r5, .long v2] G4 (fun r7 G6 => (¬ r7 = (-1 : Int32) → (post (some (.int (0 : Int32))) G6)) ∧ (r7 = (-1 : Int32) → (post (some (.int (1 : Int32))) G6))))))) : CT kX2_isUnseen [.ref 14, .int v1, .long v2] G post := by
  refine CT.of (by decide) (Nat.le_of_ble_eq_true rfl) ?_
  show zJ kX2_isUnseen post 0 [(0, .ref 14), (1, .int v1), (2, .long v2)] [] G
  refine j_aload_n 0 1 rfl dX2_isUnseen_0 rfl rfl ?_
  refine j_getR 4 rfl dX2_isUnseen_1 lf_X2_15 ly_14 rfl ?_
  refine j_aload_n 0 5 rfl dX2_isUnseen_4 rfl rfl ?_
  refine j_getR 8 rfl dX2_isUnseen_5 lf_X2_9 ly_14 rfl ?_
  refine j_getR 11 rfl dX2_isUnseen_8 lf_X2_59 ly_1 rfl ?_
  refine j_iload_n 1 12 rfl dX2_isUnseen_11 rfl rfl ?_
  obtain ⟨h1, h⟩ := h
  refine j_iald 13 rfl dX2_isUnseen_12 ly_5 h1 ?_
  refine j_callV (K' := kX5_lastOf) (As := [.int (G 5 v1.toNatClampNeg)]) (S := []) dX2_isUnseen_13 ll_X2_63 ok_X5_lastOf ⟨by decide, by decide⟩ ly_7 rfl rfl (Nat.le_of_ble_eq_true rfl) rfl (CT.mono h (fun r G2 hr => ?_))
  obtain ⟨r3, rfl, h⟩ := hr
  show zJ kX2_isUnseen post 16 [(0, .ref 14), (1, .int v1), (2, .long v2)] [.int r3] G2
  refine j_istore [(0, .ref 14), (1, .int v1), (2, .long v2), (4, .int r3)] 18 rfl dX2_isUnseen_16 (by decide) rfl ?_
  refine j_aload_n 0 19 rfl dX2_isUnseen_18 rfl rfl ?_
  refine j_getR 22 rfl dX2_isUnseen_19 lf_X2_15 ly_14 rfl ?_
  refine j_iload 3 24 rfl dX2_isUnseen_22 rfl ?_
  refine j_aload_n 0 25 rfl dX2_isUnseen_24 rfl rfl ?_
  refine j_getR 28 rfl dX2_isUnseen_25 lf_X2_9 ly_14 rfl ?_
  refine j_callV (K' := kX3_sixteenForces) (As := []) (S := [.int r3, .ref 7]) dX2_isUnseen_28 ll_X2_90 ok_X3_sixteenForces ⟨by decide, by decide⟩ ly_1 rfl rfl (Nat.le_of_ble_eq_true rfl) rfl (CT.mono h (fun r G4 hr => ?_))
  obtain ⟨r5, rfl, h⟩ := hr
  show zJ kX2_isUnseen post 31 [(0, .ref 14), (1, .int v1), (2, .long v2), (4, .int r3)] [.long r5, .int r3, .ref 7] G4
  refine j_lload_n 2 32 rfl dX2_isUnseen_31 rfl rfl ?_
  refine j_callV (K' := kX5_cornerReached) (As := [.int r3, .long r5, .long v2]) (S := []) dX2_isUnseen_32 ll_X2_44 ok_X5_cornerReached ⟨by decide, by decide⟩ ly_7 rfl rfl (Nat.le_of_ble_eq_true rfl) rfl (CT.mono h (fun r G6 hr => ?_))
  obtain ⟨r7, rfl, h⟩ := hr
  show zJ kX2_isUnseen post 35 [(0, .ref 14), (1, .int v1), (2, .long v2), (4, .int r3)] [.int r7] G6
  refine j_iconst (-1 : Int32) 36 rfl dX2_isUnseen_35 (by decide) ?_
  obtain ⟨hbt, hbf⟩ := h
  refine j_icmp_ne 39 43 rfl (by decide) dX2_isUnseen_36 (fun hc => ?_) (fun hc => ?_)
  · have h := hbt hc
    refine j_iconst (0 : Int32) 44 rfl dX2_isUnseen_43 (by decide) ?_
    exact j_iret dX2_isUnseen_44 rfl rfl h
  · have h := hbf hc
    refine j_iconst (1 : Int32) 40 rfl dX2_isUnseen_39 (by decide) ?_
    refine j_goto 44 (by decide) dX2_isUnseen_40 ?_
    exact j_iret dX2_isUnseen_44 rfl rfl h
theorem vX2_isOutOfOrder (post : Option Value → GG → Prop) (v1 : Int32) (v2 : Int64) (G : GG) (h : (vp_in v1 30) ∧ (zJ kX2_isOutOfOrder post 17 [(0, .ref 14), (2, .long v2), (4, .int (G 5 v1.toNatClampNeg)), (5, .int (-1 : Int32)), (6, .int v1)] [] G)) : CT kX2_isOutOfOrder [.ref 14, .int v1, .long v2] G post := by
  refine CT.of (by decide) (Nat.le_of_ble_eq_true rfl) ?_
  show zJ kX2_isOutOfOrder post 0 [(0, .ref 14), (1, .int v1), (2, .long v2)] [] G
  refine j_aload_n 0 1 rfl dX2_isOutOfOrder_0 rfl rfl ?_
  refine j_getR 4 rfl dX2_isOutOfOrder_1 lf_X2_9 ly_14 rfl ?_
  refine j_getR 7 rfl dX2_isOutOfOrder_4 lf_X2_59 ly_1 rfl ?_
  refine j_iload_n 1 8 rfl dX2_isOutOfOrder_7 rfl rfl ?_
  obtain ⟨h1, h⟩ := h
  refine j_iald 9 rfl dX2_isOutOfOrder_8 ly_5 h1 ?_
  refine j_istore [(0, .ref 14), (1, .int v1), (2, .long v2), (4, .int (G 5 v1.toNatClampNeg))] 11 rfl dX2_isOutOfOrder_9 (by decide) rfl ?_
  refine j_iconst (-1 : Int32) 12 rfl dX2_isOutOfOrder_11 (by decide) ?_
  refine j_istore [(0, .ref 14), (1, .int v1), (2, .long v2), (4, .int (G 5 v1.toNatClampNeg)), (5, .int (-1 : Int32))] 14 rfl dX2_isOutOfOrder_12 (by decide) rfl ?_
  refine j_iload_n 1 15 rfl dX2_isOutOfOrder_14 rfl rfl ?_
  refine j_istore [(0, .ref 14), (1, .int v1), (2, .long v2), (4, .int (G 5 v1.toNatClampNeg)), (5, .int (-1 : Int32)), (6, .int v1)] 17 rfl dX2_isOutOfOrder_15 (by decide) rfl ?_
  refine j_sub [0, 2, 3, 4, 5] rfl ?_
  exact h
theorem vX2_isOutOfOrder_17 (post : Option Value → GG → Prop) (v2 : Int64) (v4 : Int32) (v5 : Int32) (v6 : Int32) (G : GG) (h : (v6 < (1 : Int32) → (post (some (.int (0 : Int32))) G)) ∧ (¬ v6 < (1 : Int32) → (CTi kX7_holds [.int v4, .int v6] G (fun r2 G1 => (r2 = (0 : Int32) → (zJ kX2_isOutOfOrder post 54 [(0, .ref 14), (2, .long v2), (4, .int v4), (5, .int v5), (6, .int v6)] [.int (-1 : Int32)] G1)) ∧ (¬ r2 = (0 : Int32) → (CTl kX3_sixteenForces [.ref 1] G1 (fun r4 G3 => CTi kX5_waitAt [.ref 7, .int v6, .long r4, .long v2] G3 (fun r6 G5 => zJ kX2_isOutOfOrder post 54 [(0, .ref 14), (2, .long v2), (4, .int v4), (5, .int v5), (6, .int v6)] [.int r6] G5)))))))) : zJ kX2_isOutOfOrder post 17 [(0, .ref 14), (2, .long v2), (4, .int v4), (5, .int v5), (6, .int v6)] [] G := by
  refine j_iload 4 19 rfl dX2_isOutOfOrder_17 rfl ?_
  refine j_iconst (1 : Int32) 20 rfl dX2_isOutOfOrder_19 (by decide) ?_
  obtain ⟨hbt, hbf⟩ := h
  refine j_icmp_lt 23 110 rfl (by decide) dX2_isOutOfOrder_20 (fun hc => ?_) (fun hc => ?_)
  · have h := hbt hc
    refine j_iconst (0 : Int32) 111 rfl dX2_isOutOfOrder_110 (by decide) ?_
    exact j_iret dX2_isOutOfOrder_111 rfl rfl h
  · have h := hbf hc
    refine j_iload 2 25 rfl dX2_isOutOfOrder_23 rfl ?_
    refine j_iload 4 27 rfl dX2_isOutOfOrder_25 rfl ?_
    refine j_callN (K' := kX7_holds) (As := [.int v4, .int v6]) (S := []) (host := RX7) dX2_isOutOfOrder_27 ln_X2_94 ok_X7_holds ⟨by decide, by decide⟩ rfl (Nat.le_of_ble_eq_true rfl) rfl (CT.mono h (fun r G1 hr => ?_))
    obtain ⟨r2, rfl, h⟩ := hr
    show zJ kX2_isOutOfOrder post 30 [(0, .ref 14), (2, .long v2), (4, .int v4), (5, .int v5), (6, .int v6)] [.int r2] G1
    obtain ⟨hbt, hbf⟩ := h
    refine j_if_eq 33 53 rfl (by decide) dX2_isOutOfOrder_30 (fun hc => ?_) (fun hc => ?_)
    · have h := hbt hc
      refine j_iconst (-1 : Int32) 54 rfl dX2_isOutOfOrder_53 (by decide) ?_
      exact h
    · have h := hbf hc
      refine j_aload_n 0 34 rfl dX2_isOutOfOrder_33 rfl rfl ?_
      refine j_getR 37 rfl dX2_isOutOfOrder_34 lf_X2_15 ly_14 rfl ?_
      refine j_iload 4 39 rfl dX2_isOutOfOrder_37 rfl ?_
      refine j_aload_n 0 40 rfl dX2_isOutOfOrder_39 rfl rfl ?_
      refine j_getR 43 rfl dX2_isOutOfOrder_40 lf_X2_9 ly_14 rfl ?_
      refine j_callV (K' := kX3_sixteenForces) (As := []) (S := [.int v6, .ref 7]) dX2_isOutOfOrder_43 ll_X2_90 ok_X3_sixteenForces ⟨by decide, by decide⟩ ly_1 rfl rfl (Nat.le_of_ble_eq_true rfl) rfl (CT.mono h (fun r G3 hr => ?_))
      obtain ⟨r4, rfl, h⟩ := hr
      show zJ kX2_isOutOfOrder post 46 [(0, .ref 14), (2, .long v2), (4, .int v4), (5, .int v5), (6, .int v6)] [.long r4, .int v6, .ref 7] G3
      refine j_lload_n 1 47 rfl dX2_isOutOfOrder_46 rfl rfl ?_
      refine j_callV (K' := kX5_waitAt) (As := [.int v6, .long r4, .long v2]) (S := []) dX2_isOutOfOrder_47 ll_X2_98 ok_X5_waitAt ⟨by decide, by decide⟩ ly_7 rfl rfl (Nat.le_of_ble_eq_true rfl) rfl (CT.mono h (fun r G5 hr => ?_))
      obtain ⟨r6, rfl, h⟩ := hr
      show zJ kX2_isOutOfOrder post 50 [(0, .ref 14), (2, .long v2), (4, .int v4), (5, .int v5), (6, .int v6)] [.int r6] G5
      refine j_goto 54 (by decide) dX2_isOutOfOrder_50 ?_
      exact h
theorem vX2_isOutOfOrder_54 (post : Option Value → GG → Prop) (v2 : Int64) (v4 : Int32) (v5 : Int32) (v6 : Int32) (s0 : Int32) (G : GG) (h : (s0 = (-1 : Int32) → (zJ kX2_isOutOfOrder post 17 [(0, .ref 14), (2, .long v2), (4, .int v4), (5, .int v5), (6, .int (v6 + (-1 : Int32)))] [] G)) ∧ (¬ s0 = (-1 : Int32) → ((¬ v5 = (-1 : Int32) → (((v5 + (G 13 0)) ≤ s0 → (zJ kX2_isOutOfOrder post 17 [(0, .ref 14), (2, .long v2), (4, .int v4), (5, .int s0), (6, .int (v6 + (-1 : Int32)))] [] G)) ∧ (¬ (v5 + (G 13 0)) ≤ s0 → (post (some (.int (1 : Int32))) G)))) ∧ (v5 = (-1 : Int32) → ((s0 ≤ (G 13 1) → (zJ kX2_isOutOfOrder post 17 [(0, .ref 14), (2, .long v2), (4, .int v4), (5, .int s0), (6, .int (v6 + (-1 : Int32)))] [] G)) ∧ (¬ s0 ≤ (G 13 1) → (post (some (.int (1 : Int32))) G))))))) : zJ kX2_isOutOfOrder post 54 [(0, .ref 14), (2, .long v2), (4, .int v4), (5, .int v5), (6, .int v6)] [.int s0] G := by
  refine j_istore [(0, .ref 14), (2, .long v2), (4, .int v4), (5, .int v5), (6, .int v6), (7, .int s0)] 56 rfl dX2_isOutOfOrder_54 (by decide) rfl ?_
  refine j_iload 5 58 rfl dX2_isOutOfOrder_56 rfl ?_
  refine j_iconst (-1 : Int32) 59 rfl dX2_isOutOfOrder_58 (by decide) ?_
  obtain ⟨hbt, hbf⟩ := h
  refine j_icmp_eq 62 104 rfl (by decide) dX2_isOutOfOrder_59 (fun hc => ?_) (fun hc => ?_)
  · have h := hbt hc
    refine j_iinc 4 (v6 + (-1 : Int32)) [(0, .ref 14), (2, .long v2), (4, .int v4), (5, .int v5), (6, .int (v6 + (-1 : Int32))), (7, .int s0)] 107 rfl dX2_isOutOfOrder_104 rfl rfl (by decide) rfl ?_
    refine j_goto 17 (by decide) dX2_isOutOfOrder_107 ?_
    refine j_sub [0, 1, 2, 3, 4] rfl ?_
    exact h
  · have h := hbf hc
    refine j_iload 3 64 rfl dX2_isOutOfOrder_62 rfl ?_
    refine j_iconst (-1 : Int32) 65 rfl dX2_isOutOfOrder_64 (by decide) ?_
    obtain ⟨hbt, hbf⟩ := h
    refine j_icmp_ne 68 83 rfl (by decide) dX2_isOutOfOrder_65 (fun hc => ?_) (fun hc => ?_)
    · have h := hbt hc
      refine j_iload 5 85 rfl dX2_isOutOfOrder_83 rfl ?_
      refine j_iload 3 87 rfl dX2_isOutOfOrder_85 rfl ?_
      refine j_aload_n 0 88 rfl dX2_isOutOfOrder_87 rfl rfl ?_
      refine j_getR 91 rfl dX2_isOutOfOrder_88 lf_X2_19 ly_14 rfl ?_
      refine j_getI 94 rfl dX2_isOutOfOrder_91 lf_X2_104 ly_13 rfl ?_
      refine j_iadd 95 rfl dX2_isOutOfOrder_94 ?_
      obtain ⟨hbt, hbf⟩ := h
      refine j_icmp_ge 98 100 rfl (by decide) dX2_isOutOfOrder_95 (fun hc => ?_) (fun hc => ?_)
      · have h := hbt hc
        refine j_iload 5 102 rfl dX2_isOutOfOrder_100 rfl ?_
        refine j_istore [(0, .ref 14), (2, .long v2), (4, .int v4), (5, .int s0), (6, .int v6), (7, .int s0)] 104 rfl dX2_isOutOfOrder_102 (by decide) rfl ?_
        refine j_iinc 4 (v6 + (-1 : Int32)) [(0, .ref 14), (2, .long v2), (4, .int v4), (5, .int s0), (6, .int (v6 + (-1 : Int32))), (7, .int s0)] 107 rfl dX2_isOutOfOrder_104 rfl rfl (by decide) rfl ?_
        refine j_goto 17 (by decide) dX2_isOutOfOrder_107 ?_
        refine j_sub [0, 1, 2, 3, 4] rfl ?_
        exact h
      · have h := hbf hc
        refine j_iconst (1 : Int32) 99 rfl dX2_isOutOfOrder_98 (by decide) ?_
        exact j_iret dX2_isOutOfOrder_99 rfl rfl h
    · have h := hbf hc
      refine j_iload 5 70 rfl dX2_isOutOfOrder_68 rfl ?_
      refine j_aload_n 0 71 rfl dX2_isOutOfOrder_70 rfl rfl ?_
      refine j_getR 74 rfl dX2_isOutOfOrder_71 lf_X2_19 ly_14 rfl ?_
      refine j_getI 77 rfl dX2_isOutOfOrder_74 lf_X2_101 ly_13 rfl ?_
      obtain ⟨hbt, hbf⟩ := h
      refine j_icmp_le 80 100 rfl (by decide) dX2_isOutOfOrder_77 (fun hc => ?_) (fun hc => ?_)
      · have h := hbt hc
        refine j_iload 5 102 rfl dX2_isOutOfOrder_100 rfl ?_
        refine j_istore [(0, .ref 14), (2, .long v2), (4, .int v4), (5, .int s0), (6, .int v6), (7, .int s0)] 104 rfl dX2_isOutOfOrder_102 (by decide) rfl ?_
        refine j_iinc 4 (v6 + (-1 : Int32)) [(0, .ref 14), (2, .long v2), (4, .int v4), (5, .int s0), (6, .int (v6 + (-1 : Int32))), (7, .int s0)] 107 rfl dX2_isOutOfOrder_104 rfl rfl (by decide) rfl ?_
        refine j_goto 17 (by decide) dX2_isOutOfOrder_107 ?_
        refine j_sub [0, 1, 2, 3, 4] rfl ?_
        exact h
      · have h := hbf hc
        refine j_goto 98 (by decide) dX2_isOutOfOrder_80 ?_
        refine j_iconst (1 : Int32) 99 rfl dX2_isOutOfOrder_98 (by decide) ?_
        exact j_iret dX2_isOutOfOrder_99 rfl rfl h
theorem vX4_gatherLines (post : Option Value → GG → Prop)  (G : GG) (h : zJ kX4_gatherLines post 7 [(0, .ref 18), (1, .int (1 : Int32))] [] (gU G 18 4 (0 : Int32))) : CT kX4_gatherLines [.ref 18] G post := by
  refine CT.of (by decide) (Nat.le_of_ble_eq_true rfl) ?_
  show zJ kX4_gatherLines post 0 [(0, .ref 18)] [] G
  refine j_aload_n 0 1 rfl dX4_gatherLines_0 rfl rfl ?_
  refine j_iconst (0 : Int32) 2 rfl dX4_gatherLines_1 (by decide) ?_
  refine j_put 5 rfl dX4_gatherLines_2 lp_X4_32 ly_18 rfl rfl rfl ?_
  refine j_iconst (1 : Int32) 6 rfl dX4_gatherLines_5 (by decide) ?_
  refine j_istore_n [(0, .ref 18), (1, .int (1 : Int32))] 7 rfl dX4_gatherLines_6 rfl (by decide) rfl ?_
  exact h
theorem vX4_gatherLines_7 (post : Option Value → GG → Prop) (v1 : Int32) (G : GG) (h : ((30 : Int32) ≤ v1 → (post (some (.int (1 : Int32))) G)) ∧ (¬ (30 : Int32) ≤ v1 → ((vp_in v1 30) ∧ (((G 12 v1.toNatClampNeg) = (-1 : Int32) → (zJ kX4_gatherLines post 7 [(0, .ref 18), (1, .int (v1 + (1 : Int32)))] [] G)) ∧ (¬ (G 12 v1.toNatClampNeg) = (-1 : Int32) → ((vp_in v1 30) ∧ ((vp_in v1 30) ∧ (((G 12 v1.toNatClampNeg) = (G 10 v1.toNatClampNeg) → (zJ kX4_gatherLines post 7 [(0, .ref 18), (1, .int (v1 + (1 : Int32)))] [] G)) ∧ (¬ (G 12 v1.toNatClampNeg) = (G 10 v1.toNatClampNeg) → (((G 18 4) < (10 : Int32) → ((vp_in (G 18 4) 10) ∧ (zJ kX4_gatherLines post 7 [(0, .ref 18), (1, .int (v1 + (1 : Int32)))] [] (gU (gU G 20 (G 18 4).toNatClampNeg v1) 18 4 (((gU G 20 (G 18 4).toNatClampNeg v1) 18 4) + (1 : Int32)))))) ∧ (¬ (G 18 4) < (10 : Int32) → (post (some (.int (0 : Int32))) G)))))))))))) : zJ kX4_gatherLines post 7 [(0, .ref 18), (1, .int v1)] [] G := by
  refine j_iload_n 1 8 rfl dX4_gatherLines_7 rfl rfl ?_
  refine j_bipush (30 : Int32) 10 rfl dX4_gatherLines_8 (by decide) ?_
  obtain ⟨hbt, hbf⟩ := h
  refine j_icmp_ge 13 84 rfl (by decide) dX4_gatherLines_10 (fun hc => ?_) (fun hc => ?_)
  · have h := hbt hc
    refine j_iconst (1 : Int32) 85 rfl dX4_gatherLines_84 (by decide) ?_
    exact j_iret dX4_gatherLines_85 rfl rfl h
  · have h := hbf hc
    refine j_aload_n 0 14 rfl dX4_gatherLines_13 rfl rfl ?_
    refine j_getR 17 rfl dX4_gatherLines_14 lf_X4_24 ly_18 rfl ?_
    refine j_getR 20 rfl dX4_gatherLines_17 lf_X4_36 ly_7 rfl ?_
    refine j_iload_n 1 21 rfl dX4_gatherLines_20 rfl rfl ?_
    obtain ⟨h1, h⟩ := h
    refine j_iald 22 rfl dX4_gatherLines_21 ly_12 h1 ?_
    refine j_iconst (-1 : Int32) 23 rfl dX4_gatherLines_22 (by decide) ?_
    obtain ⟨hbt, hbf⟩ := h
    refine j_icmp_eq 26 78 rfl (by decide) dX4_gatherLines_23 (fun hc => ?_) (fun hc => ?_)
    · have h := hbt hc
      refine j_iinc 1 (v1 + (1 : Int32)) [(0, .ref 18), (1, .int (v1 + (1 : Int32)))] 81 rfl dX4_gatherLines_78 rfl rfl (by decide) rfl ?_
      refine j_goto 7 (by decide) dX4_gatherLines_81 ?_
      exact h
    · have h := hbf hc
      refine j_aload_n 0 27 rfl dX4_gatherLines_26 rfl rfl ?_
      refine j_getR 30 rfl dX4_gatherLines_27 lf_X4_24 ly_18 rfl ?_
      refine j_getR 33 rfl dX4_gatherLines_30 lf_X4_36 ly_7 rfl ?_
      refine j_iload_n 1 34 rfl dX4_gatherLines_33 rfl rfl ?_
      obtain ⟨h2, h⟩ := h
      refine j_iald 35 rfl dX4_gatherLines_34 ly_12 h2 ?_
      refine j_aload_n 0 36 rfl dX4_gatherLines_35 rfl rfl ?_
      refine j_getR 39 rfl dX4_gatherLines_36 lf_X4_24 ly_18 rfl ?_
      refine j_getR 42 rfl dX4_gatherLines_39 lf_X4_41 ly_7 rfl ?_
      refine j_iload_n 1 43 rfl dX4_gatherLines_42 rfl rfl ?_
      obtain ⟨h3, h⟩ := h
      refine j_iald 44 rfl dX4_gatherLines_43 ly_10 h3 ?_
      obtain ⟨hbt, hbf⟩ := h
      refine j_icmp_eq 47 78 rfl (by decide) dX4_gatherLines_44 (fun hc => ?_) (fun hc => ?_)
      · have h := hbt hc
        refine j_iinc 1 (v1 + (1 : Int32)) [(0, .ref 18), (1, .int (v1 + (1 : Int32)))] 81 rfl dX4_gatherLines_78 rfl rfl (by decide) rfl ?_
        refine j_goto 7 (by decide) dX4_gatherLines_81 ?_
        exact h
      · have h := hbf hc
        refine j_aload_n 0 48 rfl dX4_gatherLines_47 rfl rfl ?_
        refine j_getI 51 rfl dX4_gatherLines_48 lf_X4_32 ly_18 rfl ?_
        refine j_bipush (10 : Int32) 53 rfl dX4_gatherLines_51 (by decide) ?_
        obtain ⟨hbt, hbf⟩ := h
        refine j_icmp_lt 56 58 rfl (by decide) dX4_gatherLines_53 (fun hc => ?_) (fun hc => ?_)
        · have h := hbt hc
          refine j_aload_n 0 59 rfl dX4_gatherLines_58 rfl rfl ?_
          refine j_getR 62 rfl dX4_gatherLines_59 lf_X4_15 ly_18 rfl ?_
          refine j_aload_n 0 63 rfl dX4_gatherLines_62 rfl rfl ?_
          refine j_getI 66 rfl dX4_gatherLines_63 lf_X4_32 ly_18 rfl ?_
          refine j_iload_n 1 67 rfl dX4_gatherLines_66 rfl rfl ?_
          obtain ⟨h4, h⟩ := h
          refine j_iast 68 rfl dX4_gatherLines_67 ly_20 h4 ?_
          refine j_aload_n 0 69 rfl dX4_gatherLines_68 rfl rfl ?_
          refine j_dup 70 rfl dX4_gatherLines_69 rfl ?_
          refine j_getI 73 rfl dX4_gatherLines_70 lf_X4_32 ly_18 rfl ?_
          refine j_iconst (1 : Int32) 74 rfl dX4_gatherLines_73 (by decide) ?_
          refine j_iadd 75 rfl dX4_gatherLines_74 ?_
          refine j_put 78 rfl dX4_gatherLines_75 lp_X4_32 ly_18 rfl rfl rfl ?_
          refine j_iinc 1 (v1 + (1 : Int32)) [(0, .ref 18), (1, .int (v1 + (1 : Int32)))] 81 rfl dX4_gatherLines_78 rfl rfl (by decide) rfl ?_
          refine j_goto 7 (by decide) dX4_gatherLines_81 ?_
          exact h
        · have h := hbf hc
          refine j_iconst (0 : Int32) 57 rfl dX4_gatherLines_56 (by decide) ?_
          exact j_iret dX4_gatherLines_57 rfl rfl h
theorem vX4_find (post : Option Value → GG → Prop)  (G : GG) (h : zJ kX4_find post 22 [(0, .ref 18), (1, .int (0 : Int32)), (2, .int (0 : Int32))] [] (gA G 22 (va_cpy (G 10) (G 22) (0 : Int32).toNatClampNeg (0 : Int32).toNatClampNeg (30 : Int32).toNatClampNeg))) : CT kX4_find [.ref 18] G post := by
  refine CT.of (by decide) (Nat.le_of_ble_eq_true rfl) ?_
  show zJ kX4_find post 0 [(0, .ref 18)] [] G
  refine j_aload_n 0 1 rfl dX4_find_0 rfl rfl ?_
  refine j_getR 4 rfl dX4_find_1 lf_X4_24 ly_18 rfl ?_
  refine j_getR 7 rfl dX4_find_4 lf_X4_41 ly_7 rfl ?_
  refine j_iconst (0 : Int32) 8 rfl dX4_find_7 (by decide) ?_
  refine j_aload_n 0 9 rfl dX4_find_8 rfl rfl ?_
  refine j_getR 12 rfl dX4_find_9 lf_X4_21 ly_18 rfl ?_
  refine j_iconst (0 : Int32) 13 rfl dX4_find_12 (by decide) ?_
  refine j_bipush (30 : Int32) 15 rfl dX4_find_13 (by decide) ?_
  refine j_copy 18 rfl dX4_find_15 ll_X4_42 lw_copy ly_10 ly_22 (by decide) (by decide) (by decide) (by decide) (by decide) (by decide) (Nat.le_of_ble_eq_true rfl) ?_
  refine j_iconst (0 : Int32) 19 rfl dX4_find_18 (by decide) ?_
  refine j_istore_n [(0, .ref 18), (1, .int (0 : Int32))] 20 rfl dX4_find_19 rfl (by decide) rfl ?_
  refine j_iconst (0 : Int32) 21 rfl dX4_find_20 (by decide) ?_
  refine j_istore_n [(0, .ref 18), (1, .int (0 : Int32)), (2, .int (0 : Int32))] 22 rfl dX4_find_21 rfl (by decide) rfl ?_
  exact h
theorem vX4_find_22 (post : Option Value → GG → Prop) (v1 : Int32) (v2 : Int32) (G : GG) (h : ((G 18 4) ≤ v2 → (zJ kX4_find post 73 [(0, .ref 18)] [] G)) ∧ (¬ (G 18 4) ≤ v2 → (((10 : Int32) ≤ v2 → (zJ kX4_find post 73 [(0, .ref 18)] [] G)) ∧ (¬ (10 : Int32) ≤ v2 → (CTi kX4_lowestThatCanGo [.ref 18, .int v1] G (fun r2 G1 => (¬ r2 = (-1 : Int32) → ((vp_in r2 10) ∧ ((vp_in v2 10) ∧ (zJ kX4_find post 22 [(0, .ref 18), (1, .int (v1 ||| ((1 : Int32) <<< (r2 &&& (31 : Int32))))), (2, .int (v2 + (1 : Int32)))] [] (gU G1 21 v2.toNatClampNeg (G1 20 r2.toNatClampNeg)))))) ∧ (r2 = (-1 : Int32) → (post (some (.int (-1 : Int32))) G1)))))))) : zJ kX4_find post 22 [(0, .ref 18), (1, .int v1), (2, .int v2)] [] G := by
  refine j_iload_n 2 23 rfl dX4_find_22 rfl rfl ?_
  refine j_aload_n 0 24 rfl dX4_find_23 rfl rfl ?_
  refine j_getI 27 rfl dX4_find_24 lf_X4_32 ly_18 rfl ?_
  obtain ⟨hbt, hbf⟩ := h
  refine j_icmp_ge 30 73 rfl (by decide) dX4_find_27 (fun hc => ?_) (fun hc => ?_)
  · have h := hbt hc
    refine j_sub [0] rfl ?_
    exact h
  · have h := hbf hc
    refine j_iload_n 2 31 rfl dX4_find_30 rfl rfl ?_
    refine j_bipush (10 : Int32) 33 rfl dX4_find_31 (by decide) ?_
    obtain ⟨hbt, hbf⟩ := h
    refine j_icmp_ge 36 73 rfl (by decide) dX4_find_33 (fun hc => ?_) (fun hc => ?_)
    · have h := hbt hc
      refine j_sub [0] rfl ?_
      exact h
    · have h := hbf hc
      refine j_aload_n 0 37 rfl dX4_find_36 rfl rfl ?_
      refine j_iload_n 1 38 rfl dX4_find_37 rfl rfl ?_
      refine j_callV (K' := kX4_lowestThatCanGo) (As := [.int v1]) (S := []) dX4_find_38 ll_X4_48 ok_X4_lowestThatCanGo ⟨by decide, by decide⟩ ly_18 rfl rfl (Nat.le_of_ble_eq_true rfl) rfl (CT.mono h (fun r G1 hr => ?_))
      obtain ⟨r2, rfl, h⟩ := hr
      show zJ kX4_find post 41 [(0, .ref 18), (1, .int v1), (2, .int v2)] [.int r2] G1
      refine j_istore_n [(0, .ref 18), (1, .int v1), (2, .int v2), (3, .int r2)] 42 rfl dX4_find_41 rfl (by decide) rfl ?_
      refine j_iload_n 3 43 rfl dX4_find_42 rfl rfl ?_
      refine j_iconst (-1 : Int32) 44 rfl dX4_find_43 (by decide) ?_
      obtain ⟨hbt, hbf⟩ := h
      refine j_icmp_ne 47 49 rfl (by decide) dX4_find_44 (fun hc => ?_) (fun hc => ?_)
      · have h := hbt hc
        refine j_iload_n 1 50 rfl dX4_find_49 rfl rfl ?_
        refine j_iconst (1 : Int32) 51 rfl dX4_find_50 (by decide) ?_
        refine j_iload_n 3 52 rfl dX4_find_51 rfl rfl ?_
        refine j_ishl 53 rfl dX4_find_52 ?_
        refine j_ior 54 rfl dX4_find_53 ?_
        refine j_istore_n [(0, .ref 18), (1, .int (v1 ||| ((1 : Int32) <<< (r2 &&& (31 : Int32))))), (2, .int v2), (3, .int r2)] 55 rfl dX4_find_54 rfl (by decide) rfl ?_
        refine j_aload_n 0 56 rfl dX4_find_55 rfl rfl ?_
        refine j_getR 59 rfl dX4_find_56 lf_X4_18 ly_18 rfl ?_
        refine j_iload_n 2 60 rfl dX4_find_59 rfl rfl ?_
        refine j_aload_n 0 61 rfl dX4_find_60 rfl rfl ?_
        refine j_getR 64 rfl dX4_find_61 lf_X4_15 ly_18 rfl ?_
        refine j_iload_n 3 65 rfl dX4_find_64 rfl rfl ?_
        obtain ⟨h3, h⟩ := h
        refine j_iald 66 rfl dX4_find_65 ly_20 h3 ?_
        obtain ⟨h4, h⟩ := h
        refine j_iast 67 rfl dX4_find_66 ly_21 h4 ?_
        refine j_iinc 2 (v2 + (1 : Int32)) [(0, .ref 18), (1, .int (v1 ||| ((1 : Int32) <<< (r2 &&& (31 : Int32))))), (2, .int (v2 + (1 : Int32))), (3, .int r2)] 70 rfl dX4_find_67 rfl rfl (by decide) rfl ?_
        refine j_goto 22 (by decide) dX4_find_70 ?_
        refine j_sub [0, 1, 2] rfl ?_
        exact h
      · have h := hbf hc
        refine j_iconst (-1 : Int32) 48 rfl dX4_find_47 (by decide) ?_
        exact j_iret dX4_find_48 rfl rfl h
theorem vX4_find_73 (post : Option Value → GG → Prop)  (G : GG) (h : post (some (.int ((gU (gA G 19 (va_cpy (G 21) (G 19) (0 : Int32).toNatClampNeg (0 : Int32).toNatClampNeg (10 : Int32).toNatClampNeg)) 18 2 ((gA G 19 (va_cpy (G 21) (G 19) (0 : Int32).toNatClampNeg (0 : Int32).toNatClampNeg (10 : Int32).toNatClampNeg)) 18 4)) 18 2))) (gU (gA G 19 (va_cpy (G 21) (G 19) (0 : Int32).toNatClampNeg (0 : Int32).toNatClampNeg (10 : Int32).toNatClampNeg)) 18 2 ((gA G 19 (va_cpy (G 21) (G 19) (0 : Int32).toNatClampNeg (0 : Int32).toNatClampNeg (10 : Int32).toNatClampNeg)) 18 4))) : zJ kX4_find post 73 [(0, .ref 18)] [] G := by
  refine j_aload_n 0 74 rfl dX4_find_73 rfl rfl ?_
  refine j_getR 77 rfl dX4_find_74 lf_X4_18 ly_18 rfl ?_
  refine j_iconst (0 : Int32) 78 rfl dX4_find_77 (by decide) ?_
  refine j_aload_n 0 79 rfl dX4_find_78 rfl rfl ?_
  refine j_getR 82 rfl dX4_find_79 lf_X4_9 ly_18 rfl ?_
  refine j_iconst (0 : Int32) 83 rfl dX4_find_82 (by decide) ?_
  refine j_bipush (10 : Int32) 85 rfl dX4_find_83 (by decide) ?_
  refine j_copy 88 rfl dX4_find_85 ll_X4_42 lw_copy ly_21 ly_19 (by decide) (by decide) (by decide) (by decide) (by decide) (by decide) (Nat.le_of_ble_eq_true rfl) ?_
  refine j_aload_n 0 89 rfl dX4_find_88 rfl rfl ?_
  refine j_aload_n 0 90 rfl dX4_find_89 rfl rfl ?_
  refine j_getI 93 rfl dX4_find_90 lf_X4_32 ly_18 rfl ?_
  refine j_put 96 rfl dX4_find_93 lp_X4_52 ly_18 rfl rfl rfl ?_
  refine j_aload_n 0 97 rfl dX4_find_96 rfl rfl ?_
  refine j_getI 100 rfl dX4_find_97 lf_X4_52 ly_18 rfl ?_
  exact j_iret dX4_find_100 rfl rfl h
theorem vX4_lowestThatCanGo (post : Option Value → GG → Prop) (v1 : Int32) (G : GG) (h : zJ kX4_lowestThatCanGo post 2 [(0, .ref 18), (1, .int v1), (2, .int (0 : Int32))] [] G) : CT kX4_lowestThatCanGo [.ref 18, .int v1] G post := by
  refine CT.of (by decide) (Nat.le_of_ble_eq_true rfl) ?_
  show zJ kX4_lowestThatCanGo post 0 [(0, .ref 18), (1, .int v1)] [] G
  refine j_iconst (0 : Int32) 1 rfl dX4_lowestThatCanGo_0 (by decide) ?_
  refine j_istore_n [(0, .ref 18), (1, .int v1), (2, .int (0 : Int32))] 2 rfl dX4_lowestThatCanGo_1 rfl (by decide) rfl ?_
  exact h
theorem vX4_lowestThatCanGo_2 (post : Option Value → GG → Prop) (v1 : Int32) (v2 : Int32) (G : GG) (h : ((G 18 4) ≤ v2 → (post (some (.int (-1 : Int32))) G)) ∧ (¬ (G 18 4) ≤ v2 → (CTi kX7_holds [.int v1, .int v2] G (fun r2 G1 => (¬ r2 = (0 : Int32) → (zJ kX4_lowestThatCanGo post 2 [(0, .ref 18), (1, .int v1), (2, .int (v2 + (1 : Int32)))] [] G1)) ∧ (r2 = (0 : Int32) → ((vp_in v2 10) ∧ ((vp_in (G1 20 v2.toNatClampNeg) 30) ∧ ((vp_in (G1 20 v2.toNatClampNeg) 30) ∧ (CTi kX1_areMetAround [.ref 15, .int (G1 20 v2.toNatClampNeg), .ref 22] (gU G1 22 (G1 20 v2.toNatClampNeg).toNatClampNeg (G1 12 (G1 20 v2.toNatClampNeg).toNatClampNeg)) (fun r7 G6 => (r7 = (0 : Int32) → ((vp_in (G1 20 v2.toNatClampNeg) 30) ∧ ((vp_in (G1 20 v2.toNatClampNeg) 30) ∧ (zJ kX4_lowestThatCanGo post 2 [(0, .ref 18), (1, .int v1), (2, .int (v2 + (1 : Int32)))] [] (gU G6 22 (G1 20 v2.toNatClampNeg).toNatClampNeg (G6 10 (G1 20 v2.toNatClampNeg).toNatClampNeg)))))) ∧ (¬ r7 = (0 : Int32) → (post (some (.int v2)) G6)))))))))))) : zJ kX4_lowestThatCanGo post 2 [(0, .ref 18), (1, .int v1), (2, .int v2)] [] G := by
  refine j_iload_n 2 3 rfl dX4_lowestThatCanGo_2 rfl rfl ?_
  refine j_aload_n 0 4 rfl dX4_lowestThatCanGo_3 rfl rfl ?_
  refine j_getI 7 rfl dX4_lowestThatCanGo_4 lf_X4_32 ly_18 rfl ?_
  obtain ⟨hbt, hbf⟩ := h
  refine j_icmp_ge 10 78 rfl (by decide) dX4_lowestThatCanGo_7 (fun hc => ?_) (fun hc => ?_)
  · have h := hbt hc
    refine j_iconst (-1 : Int32) 79 rfl dX4_lowestThatCanGo_78 (by decide) ?_
    exact j_iret dX4_lowestThatCanGo_79 rfl rfl h
  · have h := hbf hc
    refine j_iload_n 1 11 rfl dX4_lowestThatCanGo_10 rfl rfl ?_
    refine j_iload_n 2 12 rfl dX4_lowestThatCanGo_11 rfl rfl ?_
    refine j_callN (K' := kX7_holds) (As := [.int v1, .int v2]) (S := []) (host := RX7) dX4_lowestThatCanGo_12 ln_X4_55 ok_X7_holds ⟨by decide, by decide⟩ rfl (Nat.le_of_ble_eq_true rfl) rfl (CT.mono h (fun r G1 hr => ?_))
    obtain ⟨r2, rfl, h⟩ := hr
    show zJ kX4_lowestThatCanGo post 15 [(0, .ref 18), (1, .int v1), (2, .int v2)] [.int r2] G1
    obtain ⟨hbt, hbf⟩ := h
    refine j_if_ne 18 72 rfl (by decide) dX4_lowestThatCanGo_15 (fun hc => ?_) (fun hc => ?_)
    · have h := hbt hc
      refine j_iinc 2 (v2 + (1 : Int32)) [(0, .ref 18), (1, .int v1), (2, .int (v2 + (1 : Int32)))] 75 rfl dX4_lowestThatCanGo_72 rfl rfl (by decide) rfl ?_
      refine j_goto 2 (by decide) dX4_lowestThatCanGo_75 ?_
      exact h
    · have h := hbf hc
      refine j_aload_n 0 19 rfl dX4_lowestThatCanGo_18 rfl rfl ?_
      refine j_getR 22 rfl dX4_lowestThatCanGo_19 lf_X4_15 ly_18 rfl ?_
      refine j_iload_n 2 23 rfl dX4_lowestThatCanGo_22 rfl rfl ?_
      obtain ⟨h3, h⟩ := h
      refine j_iald 24 rfl dX4_lowestThatCanGo_23 ly_20 h3 ?_
      refine j_istore_n [(0, .ref 18), (1, .int v1), (2, .int v2), (3, .int (G1 20 v2.toNatClampNeg))] 25 rfl dX4_lowestThatCanGo_24 rfl (by decide) rfl ?_
      refine j_aload_n 0 26 rfl dX4_lowestThatCanGo_25 rfl rfl ?_
      refine j_getR 29 rfl dX4_lowestThatCanGo_26 lf_X4_21 ly_18 rfl ?_
      refine j_iload_n 3 30 rfl dX4_lowestThatCanGo_29 rfl rfl ?_
      refine j_aload_n 0 31 rfl dX4_lowestThatCanGo_30 rfl rfl ?_
      refine j_getR 34 rfl dX4_lowestThatCanGo_31 lf_X4_24 ly_18 rfl ?_
      refine j_getR 37 rfl dX4_lowestThatCanGo_34 lf_X4_36 ly_7 rfl ?_
      refine j_iload_n 3 38 rfl dX4_lowestThatCanGo_37 rfl rfl ?_
      obtain ⟨h4, h⟩ := h
      refine j_iald 39 rfl dX4_lowestThatCanGo_38 ly_12 h4 ?_
      obtain ⟨h5, h⟩ := h
      refine j_iast 40 rfl dX4_lowestThatCanGo_39 ly_22 h5 ?_
      refine j_aload_n 0 41 rfl dX4_lowestThatCanGo_40 rfl rfl ?_
      refine j_getR 44 rfl dX4_lowestThatCanGo_41 lf_X4_28 ly_18 rfl ?_
      refine j_iload_n 3 45 rfl dX4_lowestThatCanGo_44 rfl rfl ?_
      refine j_aload_n 0 46 rfl dX4_lowestThatCanGo_45 rfl rfl ?_
      refine j_getR 49 rfl dX4_lowestThatCanGo_46 lf_X4_21 ly_18 rfl ?_
      refine j_callV (K' := kX1_areMetAround) (As := [.int (G1 20 v2.toNatClampNeg), .ref 22]) (S := []) dX4_lowestThatCanGo_49 ll_X4_59 ok_X1_areMetAround ⟨by decide, by decide⟩ ly_15 rfl rfl (Nat.le_of_ble_eq_true rfl) rfl (CT.mono h (fun r G6 hr => ?_))
      obtain ⟨r7, rfl, h⟩ := hr
      show zJ kX4_lowestThatCanGo post 52 [(0, .ref 18), (1, .int v1), (2, .int v2), (3, .int (G1 20 v2.toNatClampNeg))] [.int r7] G6
      obtain ⟨hbt, hbf⟩ := h
      refine j_if_eq 55 57 rfl (by decide) dX4_lowestThatCanGo_52 (fun hc => ?_) (fun hc => ?_)
      · have h := hbt hc
        refine j_aload_n 0 58 rfl dX4_lowestThatCanGo_57 rfl rfl ?_
        refine j_getR 61 rfl dX4_lowestThatCanGo_58 lf_X4_21 ly_18 rfl ?_
        refine j_iload_n 3 62 rfl dX4_lowestThatCanGo_61 rfl rfl ?_
        refine j_aload_n 0 63 rfl dX4_lowestThatCanGo_62 rfl rfl ?_
        refine j_getR 66 rfl dX4_lowestThatCanGo_63 lf_X4_24 ly_18 rfl ?_
        refine j_getR 69 rfl dX4_lowestThatCanGo_66 lf_X4_41 ly_7 rfl ?_
        refine j_iload_n 3 70 rfl dX4_lowestThatCanGo_69 rfl rfl ?_
        obtain ⟨h8, h⟩ := h
        refine j_iald 71 rfl dX4_lowestThatCanGo_70 ly_10 h8 ?_
        obtain ⟨h9, h⟩ := h
        refine j_iast 72 rfl dX4_lowestThatCanGo_71 ly_22 h9 ?_
        refine j_iinc 2 (v2 + (1 : Int32)) [(0, .ref 18), (1, .int v1), (2, .int (v2 + (1 : Int32))), (3, .int (G1 20 v2.toNatClampNeg))] 75 rfl dX4_lowestThatCanGo_72 rfl rfl (by decide) rfl ?_
        refine j_goto 2 (by decide) dX4_lowestThatCanGo_75 ?_
        refine j_sub [0, 1, 2] rfl ?_
        exact h
      · have h := hbf hc
        refine j_iload_n 2 56 rfl dX4_lowestThatCanGo_55 rfl rfl ?_
        exact j_iret dX4_lowestThatCanGo_56 rfl rfl h
