theorem vX0_addCorner (post : Option Value → GG → Prop) (c : Int32) (hc0 : vp_in c 8) (v1 : Int32) (v2 : Int32) (G : GG) (h : ((8 : Int32) ≤ (G (zCv c) 0) → (post (some (.int (-1 : Int32))) G)) ∧ (¬ (8 : Int32) ≤ (G (zCv c) 0) → (CTi kX7_isWithin [.int v1, .int (10 : Int32), .int (1000 : Int32)] G (fun r2 G1 => (r2 = (0 : Int32) → (post (some (.int (-1 : Int32))) G1)) ∧ (¬ r2 = (0 : Int32) → (CTi kX7_isWithin [.int v2, .int (1 : Int32), .int (1000 : Int32)] G1 (fun r4 G3 => (¬ r4 = (0 : Int32) → (((G3 (zCv c) 0) ≤ (0 : Int32) → (zJ kX0_addCorner post 73 [(0, .ref (zCv c)), (1, .int v1), (2, .int v2)] [] G3)) ∧ (¬ (G3 (zCv c) 0) ≤ (0 : Int32) → ((vp_in ((G3 (zCv c) 0) - (1 : Int32)) 8) ∧ ((v1 ≤ (G3 (zCv c + 1) ((G3 (zCv c) 0) - (1 : Int32)).toNatClampNeg) → (post (some (.int (-1 : Int32))) G3)) ∧ (¬ v1 ≤ (G3 (zCv c + 1) ((G3 (zCv c) 0) - (1 : Int32)).toNatClampNeg) → ((vp_in ((G3 (zCv c) 0) - (1 : Int32)) 8) ∧ ((v2 < (G3 (zCv c + 2) ((G3 (zCv c) 0) - (1 : Int32)).toNatClampNeg) → (zJ kX0_addCorner post 73 [(0, .ref (zCv c)), (1, .int v1), (2, .int v2)] [] G3)) ∧ (¬ v2 < (G3 (zCv c + 2) ((G3 (zCv c) 0) - (1 : Int32)).toNatClampNeg) → (post (some (.int (-1 : Int32))) G3)))))))))) ∧ (r4 = (0 : Int32) → (post (some (.int (-1 : Int32))) G3))))))))) : CT kX0_addCorner [.ref (zCv c), .int v1, .int v2] G post := by
  refine CT.of (by decide) (Nat.le_of_ble_eq_true rfl) ?_
  show zJ kX0_addCorner post 0 [(0, .ref (zCv c)), (1, .int v1), (2, .int v2)] [] G
  refine j_aload_n 0 1 rfl dX0_addCorner_0 rfl rfl ?_
  refine j_getI 4 rfl dX0_addCorner_1 lf_X0_18 (zCv_0 hc0) rfl ?_
  refine j_bipush (8 : Int32) 6 rfl dX0_addCorner_4 (by decide) ?_
  obtain ⟨hbt, hbf⟩ := h
  refine j_icmp_ge 9 32 rfl (by decide) dX0_addCorner_6 (fun hc => ?_) (fun hc => ?_)
  · have h := hbt hc
    refine j_iconst (-1 : Int32) 33 rfl dX0_addCorner_32 (by decide) ?_
    exact j_iret dX0_addCorner_33 rfl rfl h
  · have h := hbf hc
    refine j_iload_n 1 10 rfl dX0_addCorner_9 rfl rfl ?_
    refine j_bipush (10 : Int32) 12 rfl dX0_addCorner_10 (by decide) ?_
    refine j_sipush (1000 : Int32) 15 rfl dX0_addCorner_12 (by decide) ?_
    refine j_callN (K' := kX7_isWithin) (As := [.int v1, .int (10 : Int32), .int (1000 : Int32)]) (S := []) (host := RX7) dX0_addCorner_15 ln_X0_22 ok_X7_isWithin ⟨by decide, by decide⟩ rfl (Nat.le_of_ble_eq_true rfl) rfl (CT.mono h (fun r G1 hr => ?_))
    obtain ⟨r2, rfl, h⟩ := hr
    show zJ kX0_addCorner post 18 [(0, .ref (zCv c)), (1, .int v1), (2, .int v2)] [.int r2] G1
    obtain ⟨hbt, hbf⟩ := h
    refine j_if_eq 21 32 rfl (by decide) dX0_addCorner_18 (fun hc => ?_) (fun hc => ?_)
    · have h := hbt hc
      refine j_iconst (-1 : Int32) 33 rfl dX0_addCorner_32 (by decide) ?_
      exact j_iret dX0_addCorner_33 rfl rfl h
    · have h := hbf hc
      refine j_iload_n 2 22 rfl dX0_addCorner_21 rfl rfl ?_
      refine j_iconst (1 : Int32) 23 rfl dX0_addCorner_22 (by decide) ?_
      refine j_sipush (1000 : Int32) 26 rfl dX0_addCorner_23 (by decide) ?_
      refine j_callN (K' := kX7_isWithin) (As := [.int v2, .int (1 : Int32), .int (1000 : Int32)]) (S := []) (host := RX7) dX0_addCorner_26 ln_X0_22 ok_X7_isWithin ⟨by decide, by decide⟩ rfl (Nat.le_of_ble_eq_true rfl) rfl (CT.mono h (fun r G3 hr => ?_))
      obtain ⟨r4, rfl, h⟩ := hr
      show zJ kX0_addCorner post 29 [(0, .ref (zCv c)), (1, .int v1), (2, .int v2)] [.int r4] G3
      obtain ⟨hbt, hbf⟩ := h
      refine j_if_ne 32 34 rfl (by decide) dX0_addCorner_29 (fun hc => ?_) (fun hc => ?_)
      · have h := hbt hc
        refine j_aload_n 0 35 rfl dX0_addCorner_34 rfl rfl ?_
        refine j_getI 38 rfl dX0_addCorner_35 lf_X0_18 (zCv_0 hc0) rfl ?_
        obtain ⟨hbt, hbf⟩ := h
        refine j_if_le 41 73 rfl (by decide) dX0_addCorner_38 (fun hc => ?_) (fun hc => ?_)
        · have h := hbt hc
          exact h
        · have h := hbf hc
          refine j_iload_n 1 42 rfl dX0_addCorner_41 rfl rfl ?_
          refine j_aload_n 0 43 rfl dX0_addCorner_42 rfl rfl ?_
          refine j_getR 46 rfl dX0_addCorner_43 lf_X0_9 (zCv_0 hc0) rfl ?_
          refine j_aload_n 0 47 rfl dX0_addCorner_46 rfl rfl ?_
          refine j_getI 50 rfl dX0_addCorner_47 lf_X0_18 (zCv_0 hc0) rfl ?_
          refine j_iconst (1 : Int32) 51 rfl dX0_addCorner_50 (by decide) ?_
          refine j_isub 52 rfl dX0_addCorner_51 ?_
          obtain ⟨h5, h⟩ := h
          refine j_iald 53 rfl dX0_addCorner_52 (zCv_1 hc0) h5 ?_
          obtain ⟨hbt, hbf⟩ := h
          refine j_icmp_le 56 71 rfl (by decide) dX0_addCorner_53 (fun hc => ?_) (fun hc => ?_)
          · have h := hbt hc
            refine j_iconst (-1 : Int32) 72 rfl dX0_addCorner_71 (by decide) ?_
            exact j_iret dX0_addCorner_72 rfl rfl h
          · have h := hbf hc
            refine j_iload_n 2 57 rfl dX0_addCorner_56 rfl rfl ?_
            refine j_aload_n 0 58 rfl dX0_addCorner_57 rfl rfl ?_
            refine j_getR 61 rfl dX0_addCorner_58 lf_X0_15 (zCv_0 hc0) rfl ?_
            refine j_aload_n 0 62 rfl dX0_addCorner_61 rfl rfl ?_
            refine j_getI 65 rfl dX0_addCorner_62 lf_X0_18 (zCv_0 hc0) rfl ?_
            refine j_iconst (1 : Int32) 66 rfl dX0_addCorner_65 (by decide) ?_
            refine j_isub 67 rfl dX0_addCorner_66 ?_
            obtain ⟨h6, h⟩ := h
            refine j_iald 68 rfl dX0_addCorner_67 (zCv_2 hc0) h6 ?_
            obtain ⟨hbt, hbf⟩ := h
            refine j_icmp_lt 71 73 rfl (by decide) dX0_addCorner_68 (fun hc => ?_) (fun hc => ?_)
            · have h := hbt hc
              exact h
            · have h := hbf hc
              refine j_iconst (-1 : Int32) 72 rfl dX0_addCorner_71 (by decide) ?_
              exact j_iret dX0_addCorner_72 rfl rfl h
      · have h := hbf hc
        refine j_iconst (-1 : Int32) 33 rfl dX0_addCorner_32 (by decide) ?_
        exact j_iret dX0_addCorner_33 rfl rfl h
theorem vX0_addCorner_73 (post : Option Value → GG → Prop) (c : Int32) (hc0 : vp_in c 8) (v1 : Int32) (v2 : Int32) (G : GG) (h : (vp_in (G (zCv c) 0) 8) ∧ ((vp_in ((gU G (zCv c + 1) (G (zCv c) 0).toNatClampNeg v1) (zCv c) 0) 8) ∧ (post (some (.int ((gU (gU (gU G (zCv c + 1) (G (zCv c) 0).toNatClampNeg v1) (zCv c + 2) ((gU G (zCv c + 1) (G (zCv c) 0).toNatClampNeg v1) (zCv c) 0).toNatClampNeg v2) (zCv c) 0 (((gU (gU G (zCv c + 1) (G (zCv c) 0).toNatClampNeg v1) (zCv c + 2) ((gU G (zCv c + 1) (G (zCv c) 0).toNatClampNeg v1) (zCv c) 0).toNatClampNeg v2) (zCv c) 0) + (1 : Int32))) (zCv c) 0))) (gU (gU (gU G (zCv c + 1) (G (zCv c) 0).toNatClampNeg v1) (zCv c + 2) ((gU G (zCv c + 1) (G (zCv c) 0).toNatClampNeg v1) (zCv c) 0).toNatClampNeg v2) (zCv c) 0 (((gU (gU G (zCv c + 1) (G (zCv c) 0).toNatClampNeg v1) (zCv c + 2) ((gU G (zCv c + 1) (G (zCv c) 0).toNatClampNeg v1) (zCv c) 0).toNatClampNeg v2) (zCv c) 0) + (1 : Int32)))))) : zJ kX0_addCorner post 73 [(0, .ref (zCv c)), (1, .int v1), (2, .int v2)] [] G := by
  refine j_aload_n 0 74 rfl dX0_addCorner_73 rfl rfl ?_
  refine j_getR 77 rfl dX0_addCorner_74 lf_X0_9 (zCv_0 hc0) rfl ?_
  refine j_aload_n 0 78 rfl dX0_addCorner_77 rfl rfl ?_
  refine j_getI 81 rfl dX0_addCorner_78 lf_X0_18 (zCv_0 hc0) rfl ?_
  refine j_iload_n 1 82 rfl dX0_addCorner_81 rfl rfl ?_
  obtain ⟨h1, h⟩ := h
  refine j_iast 83 rfl dX0_addCorner_82 (zCv_1 hc0) h1 ?_
  refine j_aload_n 0 84 rfl dX0_addCorner_83 rfl rfl ?_
  refine j_getR 87 rfl dX0_addCorner_84 lf_X0_15 (zCv_0 hc0) rfl ?_
  refine j_aload_n 0 88 rfl dX0_addCorner_87 rfl rfl ?_
  refine j_getI 91 rfl dX0_addCorner_88 lf_X0_18 (zCv_0 hc0) rfl ?_
  refine j_iload_n 2 92 rfl dX0_addCorner_91 rfl rfl ?_
  obtain ⟨h2, h⟩ := h
  refine j_iast 93 rfl dX0_addCorner_92 (zCv_2 hc0) h2 ?_
  refine j_aload_n 0 94 rfl dX0_addCorner_93 rfl rfl ?_
  refine j_dup 95 rfl dX0_addCorner_94 rfl ?_
  refine j_getI 98 rfl dX0_addCorner_95 lf_X0_18 (zCv_0 hc0) rfl ?_
  refine j_iconst (1 : Int32) 99 rfl dX0_addCorner_98 (by decide) ?_
  refine j_iadd 100 rfl dX0_addCorner_99 ?_
  refine j_put 103 rfl dX0_addCorner_100 lp_X0_18 (zCv_0 hc0) rfl rfl rfl ?_
  refine j_aload_n 0 104 rfl dX0_addCorner_103 rfl rfl ?_
  refine j_getI 107 rfl dX0_addCorner_104 lf_X0_18 (zCv_0 hc0) rfl ?_
  exact j_iret dX0_addCorner_107 rfl rfl h
theorem vX0_cornerReached (post : Option Value → GG → Prop) (c : Int32) (hc0 : vp_in c 8) (v1 : Int32) (v2 : Int64) (v4 : Int64) (G : GG) (h : zJ kX0_cornerReached post 8 [(0, .ref (zCv c)), (1, .int v1), (2, .long v2), (4, .long v4), (6, .int ((G (zCv c) 0) - (1 : Int32)))] [] G) : CT kX0_cornerReached [.ref (zCv c), .int v1, .long v2, .long v4] G post := by
  refine CT.of (by decide) (Nat.le_of_ble_eq_true rfl) ?_
  show zJ kX0_cornerReached post 0 [(0, .ref (zCv c)), (1, .int v1), (2, .long v2), (4, .long v4)] [] G
  refine j_aload_n 0 1 rfl dX0_cornerReached_0 rfl rfl ?_
  refine j_getI 4 rfl dX0_cornerReached_1 lf_X0_18 (zCv_0 hc0) rfl ?_
  refine j_iconst (1 : Int32) 5 rfl dX0_cornerReached_4 (by decide) ?_
  refine j_isub 6 rfl dX0_cornerReached_5 ?_
  refine j_istore [(0, .ref (zCv c)), (1, .int v1), (2, .long v2), (4, .long v4), (6, .int ((G (zCv c) 0) - (1 : Int32)))] 8 rfl dX0_cornerReached_6 (by decide) rfl ?_
  exact h
theorem vX0_cornerReached_8 (post : Option Value → GG → Prop) (c : Int32) (hc0 : vp_in c 8) (v1 : Int32) (v2 : Int64) (v4 : Int64) (v6 : Int32) (G : GG) (h : (v6 < (0 : Int32) → (post (some (.int (-1 : Int32))) G)) ∧ (¬ v6 < (0 : Int32) → ((vp_in v6 8) ∧ ((((10 : Int64) * v2) < ((v1.toInt64 * (G (zCv c + 1) v6.toNatClampNeg).toInt64) * v4) → (zJ kX0_cornerReached post 8 [(0, .ref (zCv c)), (1, .int v1), (2, .long v2), (4, .long v4), (6, .int (v6 + (-1 : Int32)))] [] G)) ∧ (¬ ((10 : Int64) * v2) < ((v1.toInt64 * (G (zCv c + 1) v6.toNatClampNeg).toInt64) * v4) → (post (some (.int v6)) G)))))) : zJ kX0_cornerReached post 8 [(0, .ref (zCv c)), (1, .int v1), (2, .long v2), (4, .long v4), (6, .int v6)] [] G := by
  refine j_iload 4 10 rfl dX0_cornerReached_8 rfl ?_
  obtain ⟨hbt, hbf⟩ := h
  refine j_if_lt 13 45 rfl (by decide) dX0_cornerReached_10 (fun hc => ?_) (fun hc => ?_)
  · have h := hbt hc
    refine j_iconst (-1 : Int32) 46 rfl dX0_cornerReached_45 (by decide) ?_
    exact j_iret dX0_cornerReached_46 rfl rfl h
  · have h := hbf hc
    refine j_ldc2_w (10 : Int64) 16 rfl dX0_cornerReached_13 lc_X0_26 ?_
    refine j_lload_n 2 17 rfl dX0_cornerReached_16 rfl rfl ?_
    refine j_lmul 18 rfl dX0_cornerReached_17 ?_
    refine j_iload_n 1 19 rfl dX0_cornerReached_18 rfl rfl ?_
    refine j_i2l 20 rfl dX0_cornerReached_19 ?_
    refine j_aload_n 0 21 rfl dX0_cornerReached_20 rfl rfl ?_
    refine j_getR 24 rfl dX0_cornerReached_21 lf_X0_9 (zCv_0 hc0) rfl ?_
    refine j_iload 4 26 rfl dX0_cornerReached_24 rfl ?_
    obtain ⟨h1, h⟩ := h
    refine j_iald 27 rfl dX0_cornerReached_26 (zCv_1 hc0) h1 ?_
    refine j_i2l 28 rfl dX0_cornerReached_27 ?_
    refine j_lmul 29 rfl dX0_cornerReached_28 ?_
    refine j_lload 3 31 rfl dX0_cornerReached_29 rfl ?_
    refine j_lmul 32 rfl dX0_cornerReached_31 ?_
    obtain ⟨hbt, hbf⟩ := h
    refine j_lif_lt 33 36 39 rfl rfl (by decide) dX0_cornerReached_32 dX0_cornerReached_33 (fun hc => ?_) (fun hc => ?_)
    · have h := hbt hc
      refine j_iinc 4 (v6 + (-1 : Int32)) [(0, .ref (zCv c)), (1, .int v1), (2, .long v2), (4, .long v4), (6, .int (v6 + (-1 : Int32)))] 42 rfl dX0_cornerReached_39 rfl rfl (by decide) rfl ?_
      refine j_goto 8 (by decide) dX0_cornerReached_42 ?_
      exact h
    · have h := hbf hc
      refine j_iload 4 38 rfl dX0_cornerReached_36 rfl ?_
      exact j_iret dX0_cornerReached_38 rfl rfl h
theorem vX3_isKnot (post : Option Value → GG → Prop) (v1 : Int32) (G : GG) (h : (v1 < (0 : Int32) → (post (some (.int (0 : Int32))) G)) ∧ (¬ v1 < (0 : Int32) → (((G 1 0) ≤ v1 → (post (some (.int (0 : Int32))) G)) ∧ (¬ (G 1 0) ≤ v1 → (post (some (.int (1 : Int32))) G))))) : CT kX3_isKnot [.ref 1, .int v1] G post := by
  refine CT.of (by decide) (Nat.le_of_ble_eq_true rfl) ?_
  show zJ kX3_isKnot post 0 [(0, .ref 1), (1, .int v1)] [] G
  refine j_iload_n 1 1 rfl dX3_isKnot_0 rfl rfl ?_
  obtain ⟨hbt, hbf⟩ := h
  refine j_if_lt 4 16 rfl (by decide) dX3_isKnot_1 (fun hc => ?_) (fun hc => ?_)
  · have h := hbt hc
    refine j_iconst (0 : Int32) 17 rfl dX3_isKnot_16 (by decide) ?_
    exact j_iret dX3_isKnot_17 rfl rfl h
  · have h := hbf hc
    refine j_iload_n 1 5 rfl dX3_isKnot_4 rfl rfl ?_
    refine j_aload_n 0 6 rfl dX3_isKnot_5 rfl rfl ?_
    refine j_getI 9 rfl dX3_isKnot_6 lf_X3_9 ly_1 rfl ?_
    obtain ⟨hbt, hbf⟩ := h
    refine j_icmp_ge 12 16 rfl (by decide) dX3_isKnot_9 (fun hc => ?_) (fun hc => ?_)
    · have h := hbt hc
      refine j_iconst (0 : Int32) 17 rfl dX3_isKnot_16 (by decide) ?_
      exact j_iret dX3_isKnot_17 rfl rfl h
    · have h := hbf hc
      refine j_iconst (1 : Int32) 13 rfl dX3_isKnot_12 (by decide) ?_
      refine j_goto 17 (by decide) dX3_isKnot_13 ?_
      exact j_iret dX3_isKnot_17 rfl rfl h
theorem vX3_isLine (post : Option Value → GG → Prop) (v1 : Int32) (G : GG) (h : (v1 < (1 : Int32) → (post (some (.int (0 : Int32))) G)) ∧ (¬ v1 < (1 : Int32) → (((G 1 0) ≤ v1 → (post (some (.int (0 : Int32))) G)) ∧ (¬ (G 1 0) ≤ v1 → (post (some (.int (1 : Int32))) G))))) : CT kX3_isLine [.ref 1, .int v1] G post := by
  refine CT.of (by decide) (Nat.le_of_ble_eq_true rfl) ?_
  show zJ kX3_isLine post 0 [(0, .ref 1), (1, .int v1)] [] G
  refine j_iload_n 1 1 rfl dX3_isLine_0 rfl rfl ?_
  refine j_iconst (1 : Int32) 2 rfl dX3_isLine_1 (by decide) ?_
  obtain ⟨hbt, hbf⟩ := h
  refine j_icmp_lt 5 17 rfl (by decide) dX3_isLine_2 (fun hc => ?_) (fun hc => ?_)
  · have h := hbt hc
    refine j_iconst (0 : Int32) 18 rfl dX3_isLine_17 (by decide) ?_
    exact j_iret dX3_isLine_18 rfl rfl h
  · have h := hbf hc
    refine j_iload_n 1 6 rfl dX3_isLine_5 rfl rfl ?_
    refine j_aload_n 0 7 rfl dX3_isLine_6 rfl rfl ?_
    refine j_getI 10 rfl dX3_isLine_7 lf_X3_9 ly_1 rfl ?_
    obtain ⟨hbt, hbf⟩ := h
    refine j_icmp_ge 13 17 rfl (by decide) dX3_isLine_10 (fun hc => ?_) (fun hc => ?_)
    · have h := hbt hc
      refine j_iconst (0 : Int32) 18 rfl dX3_isLine_17 (by decide) ?_
      exact j_iret dX3_isLine_18 rfl rfl h
    · have h := hbf hc
      refine j_iconst (1 : Int32) 14 rfl dX3_isLine_13 (by decide) ?_
      refine j_goto 18 (by decide) dX3_isLine_14 ?_
      exact j_iret dX3_isLine_18 rfl rfl h
theorem vX3_isOnWay (post : Option Value → GG → Prop) (v1 : Int32) (v2 : Int32) (G : GG) (h : CTi kX3_isLine [.ref 1, .int v1] G (fun r2 G1 => (r2 = (0 : Int32) → (post (some (.int (0 : Int32))) G1)) ∧ (¬ r2 = (0 : Int32) → (CTi kX3_isLine [.ref 1, .int v2] G1 (fun r4 G3 => (r4 = (0 : Int32) → (post (some (.int (0 : Int32))) G3)) ∧ (¬ r4 = (0 : Int32) → ((vp_in v2 30) ∧ (CTi kX7_holds [.int (G3 5 v2.toNatClampNeg), .int v1] G3 (fun r7 G6 => (r7 = (0 : Int32) → (post (some (.int (0 : Int32))) G6)) ∧ (¬ r7 = (0 : Int32) → (post (some (.int (1 : Int32))) G6))))))))))) : CT kX3_isOnWay [.ref 1, .int v1, .int v2] G post := by
  refine CT.of (by decide) (Nat.le_of_ble_eq_true rfl) ?_
  show zJ kX3_isOnWay post 0 [(0, .ref 1), (1, .int v1), (2, .int v2)] [] G
  refine j_aload_n 0 1 rfl dX3_isOnWay_0 rfl rfl ?_
  refine j_iload_n 1 2 rfl dX3_isOnWay_1 rfl rfl ?_
  refine j_callV (K' := kX3_isLine) (As := [.int v1]) (S := []) dX3_isOnWay_2 ll_X3_37 ok_X3_isLine ⟨by decide, by decide⟩ ly_1 rfl rfl (Nat.le_of_ble_eq_true rfl) rfl (CT.mono h (fun r G1 hr => ?_))
  obtain ⟨r2, rfl, h⟩ := hr
  show zJ kX3_isOnWay post 5 [(0, .ref 1), (1, .int v1), (2, .int v2)] [.int r2] G1
  obtain ⟨hbt, hbf⟩ := h
  refine j_if_eq 8 33 rfl (by decide) dX3_isOnWay_5 (fun hc => ?_) (fun hc => ?_)
  · have h := hbt hc
    refine j_iconst (0 : Int32) 34 rfl dX3_isOnWay_33 (by decide) ?_
    exact j_iret dX3_isOnWay_34 rfl rfl h
  · have h := hbf hc
    refine j_aload_n 0 9 rfl dX3_isOnWay_8 rfl rfl ?_
    refine j_iload_n 2 10 rfl dX3_isOnWay_9 rfl rfl ?_
    refine j_callV (K' := kX3_isLine) (As := [.int v2]) (S := []) dX3_isOnWay_10 ll_X3_37 ok_X3_isLine ⟨by decide, by decide⟩ ly_1 rfl rfl (Nat.le_of_ble_eq_true rfl) rfl (CT.mono h (fun r G3 hr => ?_))
    obtain ⟨r4, rfl, h⟩ := hr
    show zJ kX3_isOnWay post 13 [(0, .ref 1), (1, .int v1), (2, .int v2)] [.int r4] G3
    obtain ⟨hbt, hbf⟩ := h
    refine j_if_eq 16 33 rfl (by decide) dX3_isOnWay_13 (fun hc => ?_) (fun hc => ?_)
    · have h := hbt hc
      refine j_iconst (0 : Int32) 34 rfl dX3_isOnWay_33 (by decide) ?_
      exact j_iret dX3_isOnWay_34 rfl rfl h
    · have h := hbf hc
      refine j_aload_n 0 17 rfl dX3_isOnWay_16 rfl rfl ?_
      refine j_getR 20 rfl dX3_isOnWay_17 lf_X3_31 ly_1 rfl ?_
      refine j_iload_n 2 21 rfl dX3_isOnWay_20 rfl rfl ?_
      obtain ⟨h5, h⟩ := h
      refine j_iald 22 rfl dX3_isOnWay_21 ly_5 h5 ?_
      refine j_iload_n 1 23 rfl dX3_isOnWay_22 rfl rfl ?_
      refine j_callN (K' := kX7_holds) (As := [.int (G3 5 v2.toNatClampNeg), .int v1]) (S := []) (host := RX7) dX3_isOnWay_23 ln_X3_41 ok_X7_holds ⟨by decide, by decide⟩ rfl (Nat.le_of_ble_eq_true rfl) rfl (CT.mono h (fun r G6 hr => ?_))
      obtain ⟨r7, rfl, h⟩ := hr
      show zJ kX3_isOnWay post 26 [(0, .ref 1), (1, .int v1), (2, .int v2)] [.int r7] G6
      obtain ⟨hbt, hbf⟩ := h
      refine j_if_eq 29 33 rfl (by decide) dX3_isOnWay_26 (fun hc => ?_) (fun hc => ?_)
      · have h := hbt hc
        refine j_iconst (0 : Int32) 34 rfl dX3_isOnWay_33 (by decide) ?_
        exact j_iret dX3_isOnWay_34 rfl rfl h
      · have h := hbf hc
        refine j_iconst (1 : Int32) 30 rfl dX3_isOnWay_29 (by decide) ?_
        refine j_goto 34 (by decide) dX3_isOnWay_30 ?_
        exact j_iret dX3_isOnWay_34 rfl rfl h
theorem vX3_isFault (post : Option Value → GG → Prop) (v1 : Int32) (v2 : Int32) (v3 : Int32) (G : GG) (h : CTi kX3_isLine [.ref 1, .int v1] G (fun r2 G1 => (r2 = (0 : Int32) → (post (some (.int (0 : Int32))) G1)) ∧ (¬ r2 = (0 : Int32) → (CTi kX7_isWithin [.int v2, .int (0 : Int32), .int (16 : Int32)] G1 (fun r4 G3 => (r4 = (0 : Int32) → (post (some (.int (0 : Int32))) G3)) ∧ (¬ r4 = (0 : Int32) → (CTi kX7_isWithin [.int v3, .int (0 : Int32), .int (1000 : Int32)] G3 (fun r6 G5 => (r6 = (0 : Int32) → (post (some (.int (0 : Int32))) G5)) ∧ (¬ r6 = (0 : Int32) → (post (some (.int (1 : Int32))) G5)))))))))) : CT kX3_isFault [.ref 1, .int v1, .int v2, .int v3] G post := by
  refine CT.of (by decide) (Nat.le_of_ble_eq_true rfl) ?_
  show zJ kX3_isFault post 0 [(0, .ref 1), (1, .int v1), (2, .int v2), (3, .int v3)] [] G
  refine j_aload_n 0 1 rfl dX3_isFault_0 rfl rfl ?_
  refine j_iload_n 1 2 rfl dX3_isFault_1 rfl rfl ?_
  refine j_callV (K' := kX3_isLine) (As := [.int v1]) (S := []) dX3_isFault_2 ll_X3_37 ok_X3_isLine ⟨by decide, by decide⟩ ly_1 rfl rfl (Nat.le_of_ble_eq_true rfl) rfl (CT.mono h (fun r G1 hr => ?_))
  obtain ⟨r2, rfl, h⟩ := hr
  show zJ kX3_isFault post 5 [(0, .ref 1), (1, .int v1), (2, .int v2), (3, .int v3)] [.int r2] G1
  obtain ⟨hbt, hbf⟩ := h
  refine j_if_eq 8 33 rfl (by decide) dX3_isFault_5 (fun hc => ?_) (fun hc => ?_)
  · have h := hbt hc
    refine j_iconst (0 : Int32) 34 rfl dX3_isFault_33 (by decide) ?_
    exact j_iret dX3_isFault_34 rfl rfl h
  · have h := hbf hc
    refine j_iload_n 2 9 rfl dX3_isFault_8 rfl rfl ?_
    refine j_iconst (0 : Int32) 10 rfl dX3_isFault_9 (by decide) ?_
    refine j_bipush (16 : Int32) 12 rfl dX3_isFault_10 (by decide) ?_
    refine j_callN (K' := kX7_isWithin) (As := [.int v2, .int (0 : Int32), .int (16 : Int32)]) (S := []) (host := RX7) dX3_isFault_12 ln_X3_45 ok_X7_isWithin ⟨by decide, by decide⟩ rfl (Nat.le_of_ble_eq_true rfl) rfl (CT.mono h (fun r G3 hr => ?_))
    obtain ⟨r4, rfl, h⟩ := hr
    show zJ kX3_isFault post 15 [(0, .ref 1), (1, .int v1), (2, .int v2), (3, .int v3)] [.int r4] G3
    obtain ⟨hbt, hbf⟩ := h
    refine j_if_eq 18 33 rfl (by decide) dX3_isFault_15 (fun hc => ?_) (fun hc => ?_)
    · have h := hbt hc
      refine j_iconst (0 : Int32) 34 rfl dX3_isFault_33 (by decide) ?_
      exact j_iret dX3_isFault_34 rfl rfl h
    · have h := hbf hc
      refine j_iload_n 3 19 rfl dX3_isFault_18 rfl rfl ?_
      refine j_iconst (0 : Int32) 20 rfl dX3_isFault_19 (by decide) ?_
      refine j_sipush (1000 : Int32) 23 rfl dX3_isFault_20 (by decide) ?_
      refine j_callN (K' := kX7_isWithin) (As := [.int v3, .int (0 : Int32), .int (1000 : Int32)]) (S := []) (host := RX7) dX3_isFault_23 ln_X3_45 ok_X7_isWithin ⟨by decide, by decide⟩ rfl (Nat.le_of_ble_eq_true rfl) rfl (CT.mono h (fun r G5 hr => ?_))
      obtain ⟨r6, rfl, h⟩ := hr
      show zJ kX3_isFault post 26 [(0, .ref 1), (1, .int v1), (2, .int v2), (3, .int v3)] [.int r6] G5
      obtain ⟨hbt, hbf⟩ := h
      refine j_if_eq 29 33 rfl (by decide) dX3_isFault_26 (fun hc => ?_) (fun hc => ?_)
      · have h := hbt hc
        refine j_iconst (0 : Int32) 34 rfl dX3_isFault_33 (by decide) ?_
        exact j_iret dX3_isFault_34 rfl rfl h
      · have h := hbf hc
        refine j_iconst (1 : Int32) 30 rfl dX3_isFault_29 (by decide) ?_
        refine j_goto 34 (by decide) dX3_isFault_30 ?_
        exact j_iret dX3_isFault_34 rfl rfl h
theorem vX3_hang (post : Option Value → GG → Prop) (v1 : Int32) (v2 : Int32) (G : GG) (h : (vp_in (G 1 0) 30) ∧ ((vp_in (G 1 0) 30) ∧ ((vp_in v1 30) ∧ ((vp_in v1 30) ∧ ((vp_in (G 1 0) 30) ∧ ((vp_in v1 30) ∧ ((vp_in (G 1 0) 30) ∧ (post (some (.int (G 1 0))) (gU (gU (gU (gU (gU G 2 (G 1 0).toNatClampNeg v1) 3 (G 1 0).toNatClampNeg v2) 4 (G 1 0).toNatClampNeg (((gU (gU G 2 (G 1 0).toNatClampNeg v1) 3 (G 1 0).toNatClampNeg v2) 4 v1.toNatClampNeg) + ((gU (gU G 2 (G 1 0).toNatClampNeg v1) 3 (G 1 0).toNatClampNeg v2) 3 v1.toNatClampNeg))) 5 (G 1 0).toNatClampNeg (((gU (gU (gU G 2 (G 1 0).toNatClampNeg v1) 3 (G 1 0).toNatClampNeg v2) 4 (G 1 0).toNatClampNeg (((gU (gU G 2 (G 1 0).toNatClampNeg v1) 3 (G 1 0).toNatClampNeg v2) 4 v1.toNatClampNeg) + ((gU (gU G 2 (G 1 0).toNatClampNeg v1) 3 (G 1 0).toNatClampNeg v2) 3 v1.toNatClampNeg))) 5 v1.toNatClampNeg) ||| ((1 : Int32) <<< ((G 1 0) &&& (31 : Int32))))) 1 0 ((G 1 0) + (1 : Int32))))))))))) : CT kX3_hang [.ref 1, .int v1, .int v2] G post := by
  refine CT.of (by decide) (Nat.le_of_ble_eq_true rfl) ?_
  show zJ kX3_hang post 0 [(0, .ref 1), (1, .int v1), (2, .int v2)] [] G
  refine j_aload_n 0 1 rfl dX3_hang_0 rfl rfl ?_
  refine j_getI 4 rfl dX3_hang_1 lf_X3_9 ly_1 rfl ?_
  refine j_istore_n [(0, .ref 1), (1, .int v1), (2, .int v2), (3, .int (G 1 0))] 5 rfl dX3_hang_4 rfl (by decide) rfl ?_
  refine j_aload_n 0 6 rfl dX3_hang_5 rfl rfl ?_
  refine j_getR 9 rfl dX3_hang_6 lf_X3_21 ly_1 rfl ?_
  refine j_iload_n 3 10 rfl dX3_hang_9 rfl rfl ?_
  refine j_iload_n 1 11 rfl dX3_hang_10 rfl rfl ?_
  obtain ⟨h1, h⟩ := h
  refine j_iast 12 rfl dX3_hang_11 ly_2 h1 ?_
  refine j_aload_n 0 13 rfl dX3_hang_12 rfl rfl ?_
  refine j_getR 16 rfl dX3_hang_13 lf_X3_25 ly_1 rfl ?_
  refine j_iload_n 3 17 rfl dX3_hang_16 rfl rfl ?_
  refine j_iload_n 2 18 rfl dX3_hang_17 rfl rfl ?_
  obtain ⟨h2, h⟩ := h
  refine j_iast 19 rfl dX3_hang_18 ly_3 h2 ?_
  refine j_aload_n 0 20 rfl dX3_hang_19 rfl rfl ?_
  refine j_getR 23 rfl dX3_hang_20 lf_X3_28 ly_1 rfl ?_
  refine j_iload_n 3 24 rfl dX3_hang_23 rfl rfl ?_
  refine j_aload_n 0 25 rfl dX3_hang_24 rfl rfl ?_
  refine j_getR 28 rfl dX3_hang_25 lf_X3_28 ly_1 rfl ?_
  refine j_iload_n 1 29 rfl dX3_hang_28 rfl rfl ?_
  obtain ⟨h3, h⟩ := h
  refine j_iald 30 rfl dX3_hang_29 ly_4 h3 ?_
  refine j_aload_n 0 31 rfl dX3_hang_30 rfl rfl ?_
  refine j_getR 34 rfl dX3_hang_31 lf_X3_25 ly_1 rfl ?_
  refine j_iload_n 1 35 rfl dX3_hang_34 rfl rfl ?_
  obtain ⟨h4, h⟩ := h
  refine j_iald 36 rfl dX3_hang_35 ly_3 h4 ?_
  refine j_iadd 37 rfl dX3_hang_36 ?_
  obtain ⟨h5, h⟩ := h
  refine j_iast 38 rfl dX3_hang_37 ly_4 h5 ?_
  refine j_aload_n 0 39 rfl dX3_hang_38 rfl rfl ?_
  refine j_getR 42 rfl dX3_hang_39 lf_X3_31 ly_1 rfl ?_
  refine j_iload_n 3 43 rfl dX3_hang_42 rfl rfl ?_
  refine j_aload_n 0 44 rfl dX3_hang_43 rfl rfl ?_
  refine j_getR 47 rfl dX3_hang_44 lf_X3_31 ly_1 rfl ?_
  refine j_iload_n 1 48 rfl dX3_hang_47 rfl rfl ?_
  obtain ⟨h6, h⟩ := h
  refine j_iald 49 rfl dX3_hang_48 ly_5 h6 ?_
  refine j_iconst (1 : Int32) 50 rfl dX3_hang_49 (by decide) ?_
  refine j_iload_n 3 51 rfl dX3_hang_50 rfl rfl ?_
  refine j_ishl 52 rfl dX3_hang_51 ?_
  refine j_ior 53 rfl dX3_hang_52 ?_
  obtain ⟨h7, h⟩ := h
  refine j_iast 54 rfl dX3_hang_53 ly_5 h7 ?_
  refine j_aload_n 0 55 rfl dX3_hang_54 rfl rfl ?_
  refine j_iload_n 3 56 rfl dX3_hang_55 rfl rfl ?_
  refine j_iconst (1 : Int32) 57 rfl dX3_hang_56 (by decide) ?_
  refine j_iadd 58 rfl dX3_hang_57 ?_
  refine j_put 61 rfl dX3_hang_58 lp_X3_9 ly_1 rfl rfl rfl ?_
  refine j_iload_n 3 62 rfl dX3_hang_61 rfl rfl ?_
  exact j_iret dX3_hang_62 rfl rfl h
theorem vX3_sumOf (post : Option Value → GG → Prop) (v1 : Int32) (v2 : Int32) (v3 : Int32) (G : GG) (h : (vp_in v1 30) ∧ ((vp_in v1 30) ∧ (post (some (.long (((16 : Int64) * (((G 1 2) + (G 4 v1.toNatClampNeg)) + v3).toInt64) + (v2.toInt64 * (G 3 v1.toNatClampNeg).toInt64)))) G))) : CT kX3_sumOf [.ref 1, .int v1, .int v2, .int v3] G post := by
  refine CT.of (by decide) (Nat.le_of_ble_eq_true rfl) ?_
  show zJ kX3_sumOf post 0 [(0, .ref 1), (1, .int v1), (2, .int v2), (3, .int v3)] [] G
  refine j_ldc2_w (16 : Int64) 3 rfl dX3_sumOf_0 lc_X3_49 ?_
  refine j_aload_n 0 4 rfl dX3_sumOf_3 rfl rfl ?_
  refine j_getI 7 rfl dX3_sumOf_4 lf_X3_18 ly_1 rfl ?_
  refine j_aload_n 0 8 rfl dX3_sumOf_7 rfl rfl ?_
  refine j_getR 11 rfl dX3_sumOf_8 lf_X3_28 ly_1 rfl ?_
  refine j_iload_n 1 12 rfl dX3_sumOf_11 rfl rfl ?_
  obtain ⟨h1, h⟩ := h
  refine j_iald 13 rfl dX3_sumOf_12 ly_4 h1 ?_
  refine j_iadd 14 rfl dX3_sumOf_13 ?_
  refine j_iload_n 3 15 rfl dX3_sumOf_14 rfl rfl ?_
  refine j_iadd 16 rfl dX3_sumOf_15 ?_
  refine j_i2l 17 rfl dX3_sumOf_16 ?_
  refine j_lmul 18 rfl dX3_sumOf_17 ?_
  refine j_iload_n 2 19 rfl dX3_sumOf_18 rfl rfl ?_
  refine j_i2l 20 rfl dX3_sumOf_19 ?_
  refine j_aload_n 0 21 rfl dX3_sumOf_20 rfl rfl ?_
  refine j_getR 24 rfl dX3_sumOf_21 lf_X3_25 ly_1 rfl ?_
  refine j_iload_n 1 25 rfl dX3_sumOf_24 rfl rfl ?_
  obtain ⟨h2, h⟩ := h
  refine j_iald 26 rfl dX3_sumOf_25 ly_3 h2 ?_
  refine j_i2l 27 rfl dX3_sumOf_26 ?_
  refine j_lmul 28 rfl dX3_sumOf_27 ?_
  refine j_ladd 29 rfl dX3_sumOf_28 ?_
  exact j_lret dX3_sumOf_29 rfl h
theorem vX3_sixteenForces (post : Option Value → GG → Prop)  (G : GG) (h : post (some (.long ((16 : Int64) * (G 1 1).toInt64))) G) : CT kX3_sixteenForces [.ref 1] G post := by
  refine CT.of (by decide) (Nat.le_of_ble_eq_true rfl) ?_
  show zJ kX3_sixteenForces post 0 [(0, .ref 1)] [] G
  refine j_ldc2_w (16 : Int64) 3 rfl dX3_sixteenForces_0 lc_X3_49 ?_
  refine j_aload_n 0 4 rfl dX3_sixteenForces_3 rfl rfl ?_
  refine j_getI 7 rfl dX3_sixteenForces_4 lf_X3_15 ly_1 rfl ?_
  refine j_i2l 8 rfl dX3_sixteenForces_7 ?_
  refine j_lmul 9 rfl dX3_sixteenForces_8 ?_
  exact j_lret dX3_sixteenForces_9 rfl h
theorem vX3_currentByLoads (post : Option Value → GG → Prop) (v1 : Int32) (G : GG) (h : zJ kX3_currentByLoads post 4 [(0, .ref 1), (1, .int v1), (2, .int (0 : Int32)), (3, .int v1)] [] G) : CT kX3_currentByLoads [.ref 1, .int v1] G post := by
  refine CT.of (by decide) (Nat.le_of_ble_eq_true rfl) ?_
  show zJ kX3_currentByLoads post 0 [(0, .ref 1), (1, .int v1)] [] G
  refine j_iconst (0 : Int32) 1 rfl dX3_currentByLoads_0 (by decide) ?_
  refine j_istore_n [(0, .ref 1), (1, .int v1), (2, .int (0 : Int32))] 2 rfl dX3_currentByLoads_1 rfl (by decide) rfl ?_
  refine j_iload_n 1 3 rfl dX3_currentByLoads_2 rfl rfl ?_
  refine j_istore_n [(0, .ref 1), (1, .int v1), (2, .int (0 : Int32)), (3, .int v1)] 4 rfl dX3_currentByLoads_3 rfl (by decide) rfl ?_
  exact h
theorem vX3_currentByLoads_4 (post : Option Value → GG → Prop) (v1 : Int32) (v2 : Int32) (v3 : Int32) (G : GG) (h : ((G 1 0) ≤ v3 → (post (some (.int v2)) G)) ∧ (¬ (G 1 0) ≤ v3 → ((vp_in v3 30) ∧ (CTi kX7_holds [.int (G 5 v3.toNatClampNeg), .int v1] G (fun r3 G2 => (r3 = (0 : Int32) → (zJ kX3_currentByLoads post 4 [(0, .ref 1), (1, .int v1), (2, .int v2), (3, .int (v3 + (1 : Int32)))] [] G2)) ∧ (¬ r3 = (0 : Int32) → ((vp_in v3 30) ∧ (zJ kX3_currentByLoads post 4 [(0, .ref 1), (1, .int v1), (2, .int (v2 + (G2 6 v3.toNatClampNeg))), (3, .int (v3 + (1 : Int32)))] [] G2)))))))) : zJ kX3_currentByLoads post 4 [(0, .ref 1), (1, .int v1), (2, .int v2), (3, .int v3)] [] G := by
  refine j_iload_n 3 5 rfl dX3_currentByLoads_4 rfl rfl ?_
  refine j_aload_n 0 6 rfl dX3_currentByLoads_5 rfl rfl ?_
  refine j_getI 9 rfl dX3_currentByLoads_6 lf_X3_9 ly_1 rfl ?_
  obtain ⟨hbt, hbf⟩ := h
  refine j_icmp_ge 12 40 rfl (by decide) dX3_currentByLoads_9 (fun hc => ?_) (fun hc => ?_)
  · have h := hbt hc
    refine j_iload_n 2 41 rfl dX3_currentByLoads_40 rfl rfl ?_
    exact j_iret dX3_currentByLoads_41 rfl rfl h
  · have h := hbf hc
    refine j_aload_n 0 13 rfl dX3_currentByLoads_12 rfl rfl ?_
    refine j_getR 16 rfl dX3_currentByLoads_13 lf_X3_31 ly_1 rfl ?_
    refine j_iload_n 3 17 rfl dX3_currentByLoads_16 rfl rfl ?_
    obtain ⟨h1, h⟩ := h
    refine j_iald 18 rfl dX3_currentByLoads_17 ly_5 h1 ?_
    refine j_iload_n 1 19 rfl dX3_currentByLoads_18 rfl rfl ?_
    refine j_callN (K' := kX7_holds) (As := [.int (G 5 v3.toNatClampNeg), .int v1]) (S := []) (host := RX7) dX3_currentByLoads_19 ln_X3_41 ok_X7_holds ⟨by decide, by decide⟩ rfl (Nat.le_of_ble_eq_true rfl) rfl (CT.mono h (fun r G2 hr => ?_))
    obtain ⟨r3, rfl, h⟩ := hr
    show zJ kX3_currentByLoads post 22 [(0, .ref 1), (1, .int v1), (2, .int v2), (3, .int v3)] [.int r3] G2
    obtain ⟨hbt, hbf⟩ := h
    refine j_if_eq 25 34 rfl (by decide) dX3_currentByLoads_22 (fun hc => ?_) (fun hc => ?_)
    · have h := hbt hc
      refine j_iinc 3 (v3 + (1 : Int32)) [(0, .ref 1), (1, .int v1), (2, .int v2), (3, .int (v3 + (1 : Int32)))] 37 rfl dX3_currentByLoads_34 rfl rfl (by decide) rfl ?_
      refine j_goto 4 (by decide) dX3_currentByLoads_37 ?_
      exact h
    · have h := hbf hc
      refine j_iload_n 2 26 rfl dX3_currentByLoads_25 rfl rfl ?_
      refine j_aload_n 0 27 rfl dX3_currentByLoads_26 rfl rfl ?_
      refine j_getR 30 rfl dX3_currentByLoads_27 lf_X3_34 ly_1 rfl ?_
      refine j_iload_n 3 31 rfl dX3_currentByLoads_30 rfl rfl ?_
      obtain ⟨h4, h⟩ := h
      refine j_iald 32 rfl dX3_currentByLoads_31 ly_6 h4 ?_
      refine j_iadd 33 rfl dX3_currentByLoads_32 ?_
      refine j_istore_n [(0, .ref 1), (1, .int v1), (2, .int (v2 + (G2 6 v3.toNatClampNeg))), (3, .int v3)] 34 rfl dX3_currentByLoads_33 rfl (by decide) rfl ?_
      refine j_iinc 3 (v3 + (1 : Int32)) [(0, .ref 1), (1, .int v1), (2, .int (v2 + (G2 6 v3.toNatClampNeg))), (3, .int (v3 + (1 : Int32)))] 37 rfl dX3_currentByLoads_34 rfl rfl (by decide) rfl ?_
      refine j_goto 4 (by decide) dX3_currentByLoads_37 ?_
      exact h
theorem vX5_isThere (post : Option Value → GG → Prop) (v1 : Int32) (G : GG) (h : CTi kX7_holds [.int (G 7 1), .int v1] G (fun r2 G1 => (zBo r2) ∧ (post (some (.int r2)) G1))) : CT kX5_isThere [.ref 7, .int v1] G post := by
  refine CT.of (by decide) (Nat.le_of_ble_eq_true rfl) ?_
  show zJ kX5_isThere post 0 [(0, .ref 7), (1, .int v1)] [] G
  refine j_aload_n 0 1 rfl dX5_isThere_0 rfl rfl ?_
  refine j_getI 4 rfl dX5_isThere_1 lf_X5_31 ly_7 rfl ?_
  refine j_iload_n 1 5 rfl dX5_isThere_4 rfl rfl ?_
  refine j_callN (K' := kX7_holds) (As := [.int (G 7 1), .int v1]) (S := []) (host := RX7) dX5_isThere_5 ln_X5_35 ok_X7_holds ⟨by decide, by decide⟩ rfl (Nat.le_of_ble_eq_true rfl) rfl (CT.mono h (fun r G1 hr => ?_))
  obtain ⟨r2, rfl, h⟩ := hr
  show zJ kX5_isThere post 8 [(0, .ref 7), (1, .int v1)] [.int r2] G1
  obtain ⟨hbo, h⟩ := h
  exact j_iret dX5_isThere_8 rfl (zBo_n hbo) h
theorem vX5_place (post : Option Value → GG → Prop) (v1 : Int32) (v2 : Int32) (v3 : Int32) (v4 : Int32) (G : GG) (h : (vp_in v1 30) ∧ ((vp_in v1 30) ∧ ((vp_in v1 30) ∧ ((vp_in v1 30) ∧ (post none (gU (gU (gU (gU (gU (gU G 7 1 ((G 7 1) ||| ((1 : Int32) <<< (v1 &&& (31 : Int32))))) 7 2 (((gU G 7 1 ((G 7 1) ||| ((1 : Int32) <<< (v1 &&& (31 : Int32))))) 7 2) &&& (((1 : Int32) <<< (v1 &&& (31 : Int32))) ^^^ (-1 : Int32)))) 9 v1.toNatClampNeg v2) 10 v1.toNatClampNeg v3) 11 v1.toNatClampNeg v4) 12 v1.toNatClampNeg (-1 : Int32))))))) : CT kX5_place [.ref 7, .int v1, .int v2, .int v3, .int v4] G post := by
  refine CT.of (by decide) (Nat.le_of_ble_eq_true rfl) ?_
  show zJ kX5_place post 0 [(0, .ref 7), (1, .int v1), (2, .int v2), (3, .int v3), (4, .int v4)] [] G
  refine j_aload_n 0 1 rfl dX5_place_0 rfl rfl ?_
  refine j_dup 2 rfl dX5_place_1 rfl ?_
  refine j_getI 5 rfl dX5_place_2 lf_X5_31 ly_7 rfl ?_
  refine j_iconst (1 : Int32) 6 rfl dX5_place_5 (by decide) ?_
  refine j_iload_n 1 7 rfl dX5_place_6 rfl rfl ?_
  refine j_ishl 8 rfl dX5_place_7 ?_
  refine j_ior 9 rfl dX5_place_8 ?_
  refine j_put 12 rfl dX5_place_9 lp_X5_31 ly_7 rfl rfl rfl ?_
  refine j_aload_n 0 13 rfl dX5_place_12 rfl rfl ?_
  refine j_dup 14 rfl dX5_place_13 rfl ?_
  refine j_getI 17 rfl dX5_place_14 lf_X5_39 ly_7 rfl ?_
  refine j_iconst (1 : Int32) 18 rfl dX5_place_17 (by decide) ?_
  refine j_iload_n 1 19 rfl dX5_place_18 rfl rfl ?_
  refine j_ishl 20 rfl dX5_place_19 ?_
  refine j_iconst (-1 : Int32) 21 rfl dX5_place_20 (by decide) ?_
  refine j_ixor 22 rfl dX5_place_21 ?_
  refine j_iand 23 rfl dX5_place_22 ?_
  refine j_put 26 rfl dX5_place_23 lp_X5_39 ly_7 rfl rfl rfl ?_
  refine j_aload_n 0 27 rfl dX5_place_26 rfl rfl ?_
  refine j_getR 30 rfl dX5_place_27 lf_X5_17 ly_7 rfl ?_
  refine j_iload_n 1 31 rfl dX5_place_30 rfl rfl ?_
  refine j_iload_n 2 32 rfl dX5_place_31 rfl rfl ?_
  obtain ⟨h1, h⟩ := h
  refine j_iast 33 rfl dX5_place_32 ly_9 h1 ?_
  refine j_aload_n 0 34 rfl dX5_place_33 rfl rfl ?_
  refine j_getR 37 rfl dX5_place_34 lf_X5_21 ly_7 rfl ?_
  refine j_iload_n 1 38 rfl dX5_place_37 rfl rfl ?_
  refine j_iload_n 3 39 rfl dX5_place_38 rfl rfl ?_
  obtain ⟨h2, h⟩ := h
  refine j_iast 40 rfl dX5_place_39 ly_10 h2 ?_
  refine j_aload_n 0 41 rfl dX5_place_40 rfl rfl ?_
  refine j_getR 44 rfl dX5_place_41 lf_X5_24 ly_7 rfl ?_
  refine j_iload_n 1 45 rfl dX5_place_44 rfl rfl ?_
  refine j_iload 4 47 rfl dX5_place_45 rfl ?_
  obtain ⟨h3, h⟩ := h
  refine j_iast 48 rfl dX5_place_47 ly_11 h3 ?_
  refine j_aload_n 0 49 rfl dX5_place_48 rfl rfl ?_
  refine j_getR 52 rfl dX5_place_49 lf_X5_27 ly_7 rfl ?_
  refine j_iload_n 1 53 rfl dX5_place_52 rfl rfl ?_
  refine j_iconst (-1 : Int32) 54 rfl dX5_place_53 (by decide) ?_
  obtain ⟨h4, h⟩ := h
  refine j_iast 55 rfl dX5_place_54 ly_12 h4 ?_
  exact j_vret dX5_place_55 rfl h
theorem vX5_takeAway (post : Option Value → GG → Prop) (v1 : Int32) (G : GG) (h : (vp_in v1 30) ∧ (post none (gU (gU (gU G 7 1 ((G 7 1) &&& (((1 : Int32) <<< (v1 &&& (31 : Int32))) ^^^ (-1 : Int32)))) 7 2 (((gU G 7 1 ((G 7 1) &&& (((1 : Int32) <<< (v1 &&& (31 : Int32))) ^^^ (-1 : Int32)))) 7 2) &&& (((1 : Int32) <<< (v1 &&& (31 : Int32))) ^^^ (-1 : Int32)))) 12 v1.toNatClampNeg (-1 : Int32)))) : CT kX5_takeAway [.ref 7, .int v1] G post := by
  refine CT.of (by decide) (Nat.le_of_ble_eq_true rfl) ?_
  show zJ kX5_takeAway post 0 [(0, .ref 7), (1, .int v1)] [] G
  refine j_aload_n 0 1 rfl dX5_takeAway_0 rfl rfl ?_
  refine j_dup 2 rfl dX5_takeAway_1 rfl ?_
  refine j_getI 5 rfl dX5_takeAway_2 lf_X5_31 ly_7 rfl ?_
  refine j_iconst (1 : Int32) 6 rfl dX5_takeAway_5 (by decide) ?_
  refine j_iload_n 1 7 rfl dX5_takeAway_6 rfl rfl ?_
  refine j_ishl 8 rfl dX5_takeAway_7 ?_
  refine j_iconst (-1 : Int32) 9 rfl dX5_takeAway_8 (by decide) ?_
  refine j_ixor 10 rfl dX5_takeAway_9 ?_
  refine j_iand 11 rfl dX5_takeAway_10 ?_
  refine j_put 14 rfl dX5_takeAway_11 lp_X5_31 ly_7 rfl rfl rfl ?_
  refine j_aload_n 0 15 rfl dX5_takeAway_14 rfl rfl ?_
  refine j_dup 16 rfl dX5_takeAway_15 rfl ?_
  refine j_getI 19 rfl dX5_takeAway_16 lf_X5_39 ly_7 rfl ?_
  refine j_iconst (1 : Int32) 20 rfl dX5_takeAway_19 (by decide) ?_
  refine j_iload_n 1 21 rfl dX5_takeAway_20 rfl rfl ?_
  refine j_ishl 22 rfl dX5_takeAway_21 ?_
  refine j_iconst (-1 : Int32) 23 rfl dX5_takeAway_22 (by decide) ?_
  refine j_ixor 24 rfl dX5_takeAway_23 ?_
  refine j_iand 25 rfl dX5_takeAway_24 ?_
  refine j_put 28 rfl dX5_takeAway_25 lp_X5_39 ly_7 rfl rfl rfl ?_
  refine j_aload_n 0 29 rfl dX5_takeAway_28 rfl rfl ?_
  refine j_getR 32 rfl dX5_takeAway_29 lf_X5_27 ly_7 rfl ?_
  refine j_iload_n 1 33 rfl dX5_takeAway_32 rfl rfl ?_
  refine j_iconst (-1 : Int32) 34 rfl dX5_takeAway_33 (by decide) ?_
  obtain ⟨h1, h⟩ := h
  refine j_iast 35 rfl dX5_takeAway_34 ly_12 h1 ?_
  exact j_vret dX5_takeAway_35 rfl h
theorem vX5_setFailing (post : Option Value → GG → Prop) (v1 : Int32) (v2 : Int32) (G : GG) (h : (v2 = (0 : Int32) → (post none (gU G 7 2 ((G 7 2) &&& (((1 : Int32) <<< (v1 &&& (31 : Int32))) ^^^ (-1 : Int32)))))) ∧ (¬ v2 = (0 : Int32) → (post none (gU G 7 2 ((G 7 2) ||| ((1 : Int32) <<< (v1 &&& (31 : Int32)))))))) : CT kX5_setFailing [.ref 7, .int v1, .int v2] G post := by
  refine CT.of (by decide) (Nat.le_of_ble_eq_true rfl) ?_
  show zJ kX5_setFailing post 0 [(0, .ref 7), (1, .int v1), (2, .int v2)] [] G
  refine j_aload_n 0 1 rfl dX5_setFailing_0 rfl rfl ?_
  refine j_iload_n 2 2 rfl dX5_setFailing_1 rfl rfl ?_
  obtain ⟨hbt, hbf⟩ := h
  refine j_if_eq 5 16 rfl (by decide) dX5_setFailing_2 (fun hc => ?_) (fun hc => ?_)
  · have h := hbt hc
    refine j_aload_n 0 17 rfl dX5_setFailing_16 rfl rfl ?_
    refine j_getI 20 rfl dX5_setFailing_17 lf_X5_39 ly_7 rfl ?_
    refine j_iconst (1 : Int32) 21 rfl dX5_setFailing_20 (by decide) ?_
    refine j_iload_n 1 22 rfl dX5_setFailing_21 rfl rfl ?_
    refine j_ishl 23 rfl dX5_setFailing_22 ?_
    refine j_iconst (-1 : Int32) 24 rfl dX5_setFailing_23 (by decide) ?_
    refine j_ixor 25 rfl dX5_setFailing_24 ?_
    refine j_iand 26 rfl dX5_setFailing_25 ?_
    refine j_put 29 rfl dX5_setFailing_26 lp_X5_39 ly_7 rfl rfl rfl ?_
    exact j_vret dX5_setFailing_29 rfl h
  · have h := hbf hc
    refine j_aload_n 0 6 rfl dX5_setFailing_5 rfl rfl ?_
    refine j_getI 9 rfl dX5_setFailing_6 lf_X5_39 ly_7 rfl ?_
    refine j_iconst (1 : Int32) 10 rfl dX5_setFailing_9 (by decide) ?_
    refine j_iload_n 1 11 rfl dX5_setFailing_10 rfl rfl ?_
    refine j_ishl 12 rfl dX5_setFailing_11 ?_
    refine j_ior 13 rfl dX5_setFailing_12 ?_
    refine j_goto 26 (by decide) dX5_setFailing_13 ?_
    refine j_put 29 rfl dX5_setFailing_26 lp_X5_39 ly_7 rfl rfl rfl ?_
    exact j_vret dX5_setFailing_29 rfl h
theorem vX5_lastOf (post : Option Value → GG → Prop) (v1 : Int32) (G : GG) (h : (¬ (v1 &&& (G 7 1)) = (0 : Int32) → (CTi kJ6_numberOfLeadingZeros_0f7a4 [.int (v1 &&& (G 7 1))] G (fun r2 G1 => post (some (.int ((31 : Int32) - r2))) G1))) ∧ ((v1 &&& (G 7 1)) = (0 : Int32) → (post (some (.int (0 : Int32))) G))) : CT kX5_lastOf [.ref 7, .int v1] G post := by
  refine CT.of (by decide) (Nat.le_of_ble_eq_true rfl) ?_
  show zJ kX5_lastOf post 0 [(0, .ref 7), (1, .int v1)] [] G
  refine j_iload_n 1 1 rfl dX5_lastOf_0 rfl rfl ?_
  refine j_aload_n 0 2 rfl dX5_lastOf_1 rfl rfl ?_
  refine j_getI 5 rfl dX5_lastOf_2 lf_X5_31 ly_7 rfl ?_
  refine j_iand 6 rfl dX5_lastOf_5 ?_
  refine j_istore_n [(0, .ref 7), (1, .int v1), (2, .int (v1 &&& (G 7 1)))] 7 rfl dX5_lastOf_6 rfl (by decide) rfl ?_
  refine j_iload_n 2 8 rfl dX5_lastOf_7 rfl rfl ?_
  obtain ⟨hbt, hbf⟩ := h
  refine j_if_ne 11 15 rfl (by decide) dX5_lastOf_8 (fun hc => ?_) (fun hc => ?_)
  · have h := hbt hc
    refine j_bipush (31 : Int32) 17 rfl dX5_lastOf_15 (by decide) ?_
    refine j_iload_n 2 18 rfl dX5_lastOf_17 rfl rfl ?_
    refine j_callS (K' := kJ6_numberOfLeadingZeros_0f7a4) (As := [.int (v1 &&& (G 7 1))]) (S := [.int (31 : Int32)]) dX5_lastOf_18 ll_X5_42 ok_J6_numberOfLeadingZeros_0f7a4 ⟨by decide, by decide⟩ rfl (Nat.le_of_ble_eq_true rfl) rfl (CT.mono h (fun r G1 hr => ?_))
    obtain ⟨r2, rfl, h⟩ := hr
    show zJ kX5_lastOf post 21 [(0, .ref 7), (1, .int v1), (2, .int (v1 &&& (G 7 1)))] [.int r2, .int (31 : Int32)] G1
    refine j_isub 22 rfl dX5_lastOf_21 ?_
    exact j_iret dX5_lastOf_22 rfl rfl h
  · have h := hbf hc
    refine j_iconst (0 : Int32) 12 rfl dX5_lastOf_11 (by decide) ?_
    refine j_goto 22 (by decide) dX5_lastOf_12 ?_
    exact j_iret dX5_lastOf_22 rfl rfl h
theorem vX5_cornerReached (post : Option Value → GG → Prop) (v1 : Int32) (v2 : Int64) (v4 : Int64) (G : GG) (h : CTi kX7_holds [.int (G 7 1), .int v1] G (fun r2 G1 => (¬ r2 = (0 : Int32) → ((vp_in v1 30) ∧ ((vp_in (G1 9 v1.toNatClampNeg) 8) ∧ ((vp_in v1 30) ∧ (CTi kX0_cornerReached [.ref (zCv (G1 9 v1.toNatClampNeg)), .int (G1 11 v1.toNatClampNeg), .long v2, .long v4] G1 (fun r7 G6 => post (some (.int r7)) G6)))))) ∧ (r2 = (0 : Int32) → (post (some (.int (-1 : Int32))) G1)))) : CT kX5_cornerReached [.ref 7, .int v1, .long v2, .long v4] G post := by
  refine CT.of (by decide) (Nat.le_of_ble_eq_true rfl) ?_
  show zJ kX5_cornerReached post 0 [(0, .ref 7), (1, .int v1), (2, .long v2), (4, .long v4)] [] G
  refine j_aload_n 0 1 rfl dX5_cornerReached_0 rfl rfl ?_
  refine j_getI 4 rfl dX5_cornerReached_1 lf_X5_31 ly_7 rfl ?_
  refine j_iload_n 1 5 rfl dX5_cornerReached_4 rfl rfl ?_
  refine j_callN (K' := kX7_holds) (As := [.int (G 7 1), .int v1]) (S := []) (host := RX7) dX5_cornerReached_5 ln_X5_35 ok_X7_holds ⟨by decide, by decide⟩ rfl (Nat.le_of_ble_eq_true rfl) rfl (CT.mono h (fun r G1 hr => ?_))
  obtain ⟨r2, rfl, h⟩ := hr
  show zJ kX5_cornerReached post 8 [(0, .ref 7), (1, .int v1), (2, .long v2), (4, .long v4)] [.int r2] G1
  obtain ⟨hbt, hbf⟩ := h
  refine j_if_ne 11 13 rfl (by decide) dX5_cornerReached_8 (fun hc => ?_) (fun hc => ?_)
  · have h := hbt hc
    refine j_aload_n 0 14 rfl dX5_cornerReached_13 rfl rfl ?_
    refine j_getR 17 rfl dX5_cornerReached_14 lf_X5_11 ly_7 rfl ?_
    refine j_aload_n 0 18 rfl dX5_cornerReached_17 rfl rfl ?_
    refine j_getR 21 rfl dX5_cornerReached_18 lf_X5_17 ly_7 rfl ?_
    refine j_iload_n 1 22 rfl dX5_cornerReached_21 rfl rfl ?_
    obtain ⟨h3, h⟩ := h
    refine j_iald 23 rfl dX5_cornerReached_22 ly_9 h3 ?_
    obtain ⟨h4, h⟩ := h
    refine j_aald 24 rfl dX5_cornerReached_23 ly_8 h4 (zCv_r h4) ?_
    refine j_aload_n 0 25 rfl dX5_cornerReached_24 rfl rfl ?_
    refine j_getR 28 rfl dX5_cornerReached_25 lf_X5_24 ly_7 rfl ?_
    refine j_iload_n 1 29 rfl dX5_cornerReached_28 rfl rfl ?_
    obtain ⟨h5, h⟩ := h
    refine j_iald 30 rfl dX5_cornerReached_29 ly_11 h5 ?_
    refine j_lload_n 2 31 rfl dX5_cornerReached_30 rfl rfl ?_
    refine j_lload 3 33 rfl dX5_cornerReached_31 rfl ?_
    refine j_callV (K' := kX0_cornerReached) (As := [.int (G1 11 v1.toNatClampNeg), .long v2, .long v4]) (S := []) dX5_cornerReached_33 ll_X5_48 ok_X0_cornerReached ⟨by decide, by decide⟩ (zCv_0 h4) rfl rfl (Nat.le_of_ble_eq_true rfl) rfl (CT.mono h (fun r G6 hr => ?_))
    obtain ⟨r7, rfl, h⟩ := hr
    show zJ kX5_cornerReached post 36 [(0, .ref 7), (1, .int v1), (2, .long v2), (4, .long v4)] [.int r7] G6
    exact j_iret dX5_cornerReached_36 rfl rfl h
  · have h := hbf hc
    refine j_iconst (-1 : Int32) 12 rfl dX5_cornerReached_11 (by decide) ?_
    exact j_iret dX5_cornerReached_12 rfl rfl h
theorem vX5_ticksAt (post : Option Value → GG → Prop) (v1 : Int32) (v2 : Int32) (G : GG) (h : (vp_in v1 30) ∧ ((vp_in (G 9 v1.toNatClampNeg) 8) ∧ ((vp_in v2 8) ∧ (post (some (.int (G (zCv (G 9 v1.toNatClampNeg) + 2) v2.toNatClampNeg))) G)))) : CT kX5_ticksAt [.ref 7, .int v1, .int v2] G post := by
  refine CT.of (by decide) (Nat.le_of_ble_eq_true rfl) ?_
  show zJ kX5_ticksAt post 0 [(0, .ref 7), (1, .int v1), (2, .int v2)] [] G
  refine j_aload_n 0 1 rfl dX5_ticksAt_0 rfl rfl ?_
  refine j_getR 4 rfl dX5_ticksAt_1 lf_X5_11 ly_7 rfl ?_
  refine j_aload_n 0 5 rfl dX5_ticksAt_4 rfl rfl ?_
  refine j_getR 8 rfl dX5_ticksAt_5 lf_X5_17 ly_7 rfl ?_
  refine j_iload_n 1 9 rfl dX5_ticksAt_8 rfl rfl ?_
  obtain ⟨h1, h⟩ := h
  refine j_iald 10 rfl dX5_ticksAt_9 ly_9 h1 ?_
  obtain ⟨h2, h⟩ := h
  refine j_aald 11 rfl dX5_ticksAt_10 ly_8 h2 (zCv_r h2) ?_
  refine j_getR 14 rfl dX5_ticksAt_11 lf_X5_52 (zCv_0 h2) rfl ?_
  refine j_iload_n 2 15 rfl dX5_ticksAt_14 rfl rfl ?_
  obtain ⟨h3, h⟩ := h
  refine j_iald 16 rfl dX5_ticksAt_15 (zCv_2 h2) h3 ?_
  exact j_iret dX5_ticksAt_16 rfl rfl h
theorem vX5_waitAt (post : Option Value → GG → Prop) (v1 : Int32) (v2 : Int64) (v4 : Int64) (G : GG) (h : CTi kX7_holds [.int (G 7 1), .int v1] G (fun r2 G1 => (¬ r2 = (0 : Int32) → ((vp_in v1 30) ∧ ((vp_in (G1 9 v1.toNatClampNeg) 8) ∧ ((vp_in v1 30) ∧ (CTi kX0_cornerReached [.ref (zCv (G1 9 v1.toNatClampNeg)), .int (G1 11 v1.toNatClampNeg), .long v2, .long v4] G1 (fun r7 G6 => (¬ r7 = (-1 : Int32) → ((vp_in v1 30) ∧ ((vp_in r7 8) ∧ (post (some (.int ((G6 10 v1.toNatClampNeg) * (G6 (zCv (G1 9 v1.toNatClampNeg) + 2) r7.toNatClampNeg)))) G6)))) ∧ (r7 = (-1 : Int32) → (post (some (.int (-1 : Int32))) G6)))))))) ∧ (r2 = (0 : Int32) → (post (some (.int (-1 : Int32))) G1)))) : CT kX5_waitAt [.ref 7, .int v1, .long v2, .long v4] G post := by
  refine CT.of (by decide) (Nat.le_of_ble_eq_true rfl) ?_
  show zJ kX5_waitAt post 0 [(0, .ref 7), (1, .int v1), (2, .long v2), (4, .long v4)] [] G
  refine j_aload_n 0 1 rfl dX5_waitAt_0 rfl rfl ?_
  refine j_getI 4 rfl dX5_waitAt_1 lf_X5_31 ly_7 rfl ?_
  refine j_iload_n 1 5 rfl dX5_waitAt_4 rfl rfl ?_
  refine j_callN (K' := kX7_holds) (As := [.int (G 7 1), .int v1]) (S := []) (host := RX7) dX5_waitAt_5 ln_X5_35 ok_X7_holds ⟨by decide, by decide⟩ rfl (Nat.le_of_ble_eq_true rfl) rfl (CT.mono h (fun r G1 hr => ?_))
  obtain ⟨r2, rfl, h⟩ := hr
  show zJ kX5_waitAt post 8 [(0, .ref 7), (1, .int v1), (2, .long v2), (4, .long v4)] [.int r2] G1
  obtain ⟨hbt, hbf⟩ := h
  refine j_if_ne 11 13 rfl (by decide) dX5_waitAt_8 (fun hc => ?_) (fun hc => ?_)
  · have h := hbt hc
    refine j_aload_n 0 14 rfl dX5_waitAt_13 rfl rfl ?_
    refine j_getR 17 rfl dX5_waitAt_14 lf_X5_11 ly_7 rfl ?_
    refine j_aload_n 0 18 rfl dX5_waitAt_17 rfl rfl ?_
    refine j_getR 21 rfl dX5_waitAt_18 lf_X5_17 ly_7 rfl ?_
    refine j_iload_n 1 22 rfl dX5_waitAt_21 rfl rfl ?_
    obtain ⟨h3, h⟩ := h
    refine j_iald 23 rfl dX5_waitAt_22 ly_9 h3 ?_
    obtain ⟨h4, h⟩ := h
    refine j_aald 24 rfl dX5_waitAt_23 ly_8 h4 (zCv_r h4) ?_
    refine j_astore [(0, .ref 7), (1, .int v1), (2, .long v2), (4, .long v4), (6, .ref (zCv (G1 9 v1.toNatClampNeg)))] 26 rfl dX5_waitAt_24 (by decide) rfl ?_
    refine j_aload 4 28 rfl dX5_waitAt_26 rfl ?_
    refine j_aload_n 0 29 rfl dX5_waitAt_28 rfl rfl ?_
    refine j_getR 32 rfl dX5_waitAt_29 lf_X5_24 ly_7 rfl ?_
    refine j_iload_n 1 33 rfl dX5_waitAt_32 rfl rfl ?_
    obtain ⟨h5, h⟩ := h
    refine j_iald 34 rfl dX5_waitAt_33 ly_11 h5 ?_
    refine j_lload_n 2 35 rfl dX5_waitAt_34 rfl rfl ?_
    refine j_lload 3 37 rfl dX5_waitAt_35 rfl ?_
    refine j_callV (K' := kX0_cornerReached) (As := [.int (G1 11 v1.toNatClampNeg), .long v2, .long v4]) (S := []) dX5_waitAt_37 ll_X5_48 ok_X0_cornerReached ⟨by decide, by decide⟩ (zCv_0 h4) rfl rfl (Nat.le_of_ble_eq_true rfl) rfl (CT.mono h (fun r G6 hr => ?_))
    obtain ⟨r7, rfl, h⟩ := hr
    show zJ kX5_waitAt post 40 [(0, .ref 7), (1, .int v1), (2, .long v2), (4, .long v4), (6, .ref (zCv (G1 9 v1.toNatClampNeg)))] [.int r7] G6
    refine j_istore [(0, .ref 7), (1, .int v1), (2, .long v2), (4, .long v4), (6, .ref (zCv (G1 9 v1.toNatClampNeg))), (7, .int r7)] 42 rfl dX5_waitAt_40 (by decide) rfl ?_
    refine j_iload 5 44 rfl dX5_waitAt_42 rfl ?_
    refine j_iconst (-1 : Int32) 45 rfl dX5_waitAt_44 (by decide) ?_
    obtain ⟨hbt, hbf⟩ := h
    refine j_icmp_ne 48 52 rfl (by decide) dX5_waitAt_45 (fun hc => ?_) (fun hc => ?_)
    · have h := hbt hc
      refine j_aload_n 0 53 rfl dX5_waitAt_52 rfl rfl ?_
      refine j_getR 56 rfl dX5_waitAt_53 lf_X5_21 ly_7 rfl ?_
      refine j_iload_n 1 57 rfl dX5_waitAt_56 rfl rfl ?_
      obtain ⟨h8, h⟩ := h
      refine j_iald 58 rfl dX5_waitAt_57 ly_10 h8 ?_
      refine j_aload 4 60 rfl dX5_waitAt_58 rfl ?_
      refine j_getR 63 rfl dX5_waitAt_60 lf_X5_52 (zCv_0 h4) rfl ?_
      refine j_iload 5 65 rfl dX5_waitAt_63 rfl ?_
      obtain ⟨h9, h⟩ := h
      refine j_iald 66 rfl dX5_waitAt_65 (zCv_2 h4) h9 ?_
      refine j_imul 67 rfl dX5_waitAt_66 ?_
      exact j_iret dX5_waitAt_67 rfl rfl h
    · have h := hbf hc
      refine j_iconst (-1 : Int32) 49 rfl dX5_waitAt_48 (by decide) ?_
      refine j_goto 67 (by decide) dX5_waitAt_49 ?_
      exact j_iret dX5_waitAt_67 rfl rfl h
  · have h := hbf hc
    refine j_iconst (-1 : Int32) 12 rfl dX5_waitAt_11 (by decide) ?_
    exact j_iret dX5_waitAt_12 rfl rfl h
theorem vX5_leastTenthsSeen (post : Option Value → GG → Prop) (v1 : Int32) (G : GG) (h : CTi kX5_isThere [.ref 7, .int v1] G (fun r2 G1 => (r2 = (0 : Int32) → (post (some (.long (-1 : Int64))) G1)) ∧ (¬ r2 = (0 : Int32) → ((vp_in v1 30) ∧ ((vp_in (G1 9 v1.toNatClampNeg) 8) ∧ ((¬ (G1 (zCv (G1 9 v1.toNatClampNeg)) 0) = (0 : Int32) → ((vp_in v1 30) ∧ ((vp_in v1 30) ∧ ((vp_in (G1 9 v1.toNatClampNeg) 8) ∧ ((vp_in (0 : Int32) 8) ∧ (post (some (.long ((G1 11 v1.toNatClampNeg).toInt64 * (G1 (zCv (G1 9 v1.toNatClampNeg) + 1) (0 : Int32).toNatClampNeg).toInt64))) G1)))))) ∧ ((G1 (zCv (G1 9 v1.toNatClampNeg)) 0) = (0 : Int32) → (post (some (.long (-1 : Int64))) G1)))))))) : CT kX5_leastTenthsSeen [.ref 7, .int v1] G post := by
  refine CT.of (by decide) (Nat.le_of_ble_eq_true rfl) ?_
  show zJ kX5_leastTenthsSeen post 0 [(0, .ref 7), (1, .int v1)] [] G
  refine j_aload_n 0 1 rfl dX5_leastTenthsSeen_0 rfl rfl ?_
  refine j_iload_n 1 2 rfl dX5_leastTenthsSeen_1 rfl rfl ?_
  refine j_callV (K' := kX5_isThere) (As := [.int v1]) (S := []) dX5_leastTenthsSeen_2 ll_X5_55 ok_X5_isThere ⟨by decide, by decide⟩ ly_7 rfl rfl (Nat.le_of_ble_eq_true rfl) rfl (CT.mono h (fun r G1 hr => ?_))
  obtain ⟨r2, rfl, h⟩ := hr
  show zJ kX5_leastTenthsSeen post 5 [(0, .ref 7), (1, .int v1)] [.int r2] G1
  obtain ⟨hbt, hbf⟩ := h
  refine j_if_eq 8 25 rfl (by decide) dX5_leastTenthsSeen_5 (fun hc => ?_) (fun hc => ?_)
  · have h := hbt hc
    refine j_ldc2_w (-1 : Int64) 28 rfl dX5_leastTenthsSeen_25 lc_X5_62 ?_
    exact j_lret dX5_leastTenthsSeen_28 rfl h
  · have h := hbf hc
    refine j_aload_n 0 9 rfl dX5_leastTenthsSeen_8 rfl rfl ?_
    refine j_getR 12 rfl dX5_leastTenthsSeen_9 lf_X5_11 ly_7 rfl ?_
    refine j_aload_n 0 13 rfl dX5_leastTenthsSeen_12 rfl rfl ?_
    refine j_getR 16 rfl dX5_leastTenthsSeen_13 lf_X5_17 ly_7 rfl ?_
    refine j_iload_n 1 17 rfl dX5_leastTenthsSeen_16 rfl rfl ?_
    obtain ⟨h3, h⟩ := h
    refine j_iald 18 rfl dX5_leastTenthsSeen_17 ly_9 h3 ?_
    obtain ⟨h4, h⟩ := h
    refine j_aald 19 rfl dX5_leastTenthsSeen_18 ly_8 h4 (zCv_r h4) ?_
    refine j_getI 22 rfl dX5_leastTenthsSeen_19 lf_X5_59 (zCv_0 h4) rfl ?_
    obtain ⟨hbt, hbf⟩ := h
    refine j_if_ne 25 29 rfl (by decide) dX5_leastTenthsSeen_22 (fun hc => ?_) (fun hc => ?_)
    · have h := hbt hc
      refine j_aload_n 0 30 rfl dX5_leastTenthsSeen_29 rfl rfl ?_
      refine j_getR 33 rfl dX5_leastTenthsSeen_30 lf_X5_24 ly_7 rfl ?_
      refine j_iload_n 1 34 rfl dX5_leastTenthsSeen_33 rfl rfl ?_
      obtain ⟨h5, h⟩ := h
      refine j_iald 35 rfl dX5_leastTenthsSeen_34 ly_11 h5 ?_
      refine j_i2l 36 rfl dX5_leastTenthsSeen_35 ?_
      refine j_aload_n 0 37 rfl dX5_leastTenthsSeen_36 rfl rfl ?_
      refine j_getR 40 rfl dX5_leastTenthsSeen_37 lf_X5_11 ly_7 rfl ?_
      refine j_aload_n 0 41 rfl dX5_leastTenthsSeen_40 rfl rfl ?_
      refine j_getR 44 rfl dX5_leastTenthsSeen_41 lf_X5_17 ly_7 rfl ?_
      refine j_iload_n 1 45 rfl dX5_leastTenthsSeen_44 rfl rfl ?_
      obtain ⟨h6, h⟩ := h
      refine j_iald 46 rfl dX5_leastTenthsSeen_45 ly_9 h6 ?_
      obtain ⟨h7, h⟩ := h
      refine j_aald 47 rfl dX5_leastTenthsSeen_46 ly_8 h7 (zCv_r h7) ?_
      refine j_getR 50 rfl dX5_leastTenthsSeen_47 lf_X5_64 (zCv_0 h7) rfl ?_
      refine j_iconst (0 : Int32) 51 rfl dX5_leastTenthsSeen_50 (by decide) ?_
      obtain ⟨h8, h⟩ := h
      refine j_iald 52 rfl dX5_leastTenthsSeen_51 (zCv_1 h7) h8 ?_
      refine j_i2l 53 rfl dX5_leastTenthsSeen_52 ?_
      refine j_lmul 54 rfl dX5_leastTenthsSeen_53 ?_
      exact j_lret dX5_leastTenthsSeen_54 rfl h
    · have h := hbf hc
      refine j_ldc2_w (-1 : Int64) 28 rfl dX5_leastTenthsSeen_25 lc_X5_62 ?_
      exact j_lret dX5_leastTenthsSeen_28 rfl h
theorem vX5_sumOfDials (post : Option Value → GG → Prop)  (G : GG) (h : zJ kX5_sumOfDials post 4 [(0, .ref 7), (1, .int (0 : Int32)), (2, .int (0 : Int32))] [] G) : CT kX5_sumOfDials [.ref 7] G post := by
  refine CT.of (by decide) (Nat.le_of_ble_eq_true rfl) ?_
  show zJ kX5_sumOfDials post 0 [(0, .ref 7)] [] G
  refine j_iconst (0 : Int32) 1 rfl dX5_sumOfDials_0 (by decide) ?_
  refine j_istore_n [(0, .ref 7), (1, .int (0 : Int32))] 2 rfl dX5_sumOfDials_1 rfl (by decide) rfl ?_
  refine j_iconst (0 : Int32) 3 rfl dX5_sumOfDials_2 (by decide) ?_
  refine j_istore_n [(0, .ref 7), (1, .int (0 : Int32)), (2, .int (0 : Int32))] 4 rfl dX5_sumOfDials_3 rfl (by decide) rfl ?_
  exact h
theorem vX5_sumOfDials_4 (post : Option Value → GG → Prop) (v1 : Int32) (v2 : Int32) (G : GG) (h : ((30 : Int32) ≤ v2 → (post (some (.int v1)) G)) ∧ (¬ (30 : Int32) ≤ v2 → (CTi kX5_isThere [.ref 7, .int v2] G (fun r2 G1 => (r2 = (0 : Int32) → (zJ kX5_sumOfDials post 4 [(0, .ref 7), (1, .int (v1 + (0 : Int32))), (2, .int (v2 + (1 : Int32)))] [] G1)) ∧ (¬ r2 = (0 : Int32) → ((vp_in v2 30) ∧ (zJ kX5_sumOfDials post 4 [(0, .ref 7), (1, .int (v1 + (G1 10 v2.toNatClampNeg))), (2, .int (v2 + (1 : Int32)))] [] G1))))))) : zJ kX5_sumOfDials post 4 [(0, .ref 7), (1, .int v1), (2, .int v2)] [] G := by
  refine j_iload_n 2 5 rfl dX5_sumOfDials_4 rfl rfl ?_
  refine j_bipush (30 : Int32) 7 rfl dX5_sumOfDials_5 (by decide) ?_
  obtain ⟨hbt, hbf⟩ := h
  refine j_icmp_ge 10 37 rfl (by decide) dX5_sumOfDials_7 (fun hc => ?_) (fun hc => ?_)
  · have h := hbt hc
    refine j_iload_n 1 38 rfl dX5_sumOfDials_37 rfl rfl ?_
    exact j_iret dX5_sumOfDials_38 rfl rfl h
  · have h := hbf hc
    refine j_iload_n 1 11 rfl dX5_sumOfDials_10 rfl rfl ?_
    refine j_aload_n 0 12 rfl dX5_sumOfDials_11 rfl rfl ?_
    refine j_iload_n 2 13 rfl dX5_sumOfDials_12 rfl rfl ?_
    refine j_callV (K' := kX5_isThere) (As := [.int v2]) (S := [.int v1]) dX5_sumOfDials_13 ll_X5_55 ok_X5_isThere ⟨by decide, by decide⟩ ly_7 rfl rfl (Nat.le_of_ble_eq_true rfl) rfl (CT.mono h (fun r G1 hr => ?_))
    obtain ⟨r2, rfl, h⟩ := hr
    show zJ kX5_sumOfDials post 16 [(0, .ref 7), (1, .int v1), (2, .int v2)] [.int r2, .int v1] G1
    obtain ⟨hbt, hbf⟩ := h
    refine j_if_eq 19 28 rfl (by decide) dX5_sumOfDials_16 (fun hc => ?_) (fun hc => ?_)
    · have h := hbt hc
      refine j_iconst (0 : Int32) 29 rfl dX5_sumOfDials_28 (by decide) ?_
      refine j_iadd 30 rfl dX5_sumOfDials_29 ?_
      refine j_istore_n [(0, .ref 7), (1, .int (v1 + (0 : Int32))), (2, .int v2)] 31 rfl dX5_sumOfDials_30 rfl (by decide) rfl ?_
      refine j_iinc 2 (v2 + (1 : Int32)) [(0, .ref 7), (1, .int (v1 + (0 : Int32))), (2, .int (v2 + (1 : Int32)))] 34 rfl dX5_sumOfDials_31 rfl rfl (by decide) rfl ?_
      refine j_goto 4 (by decide) dX5_sumOfDials_34 ?_
      exact h
    · have h := hbf hc
      refine j_aload_n 0 20 rfl dX5_sumOfDials_19 rfl rfl ?_
      refine j_getR 23 rfl dX5_sumOfDials_20 lf_X5_21 ly_7 rfl ?_
      refine j_iload_n 2 24 rfl dX5_sumOfDials_23 rfl rfl ?_
      obtain ⟨h3, h⟩ := h
      refine j_iald 25 rfl dX5_sumOfDials_24 ly_10 h3 ?_
      refine j_goto 29 (by decide) dX5_sumOfDials_25 ?_
      refine j_iadd 30 rfl dX5_sumOfDials_29 ?_
      refine j_istore_n [(0, .ref 7), (1, .int (v1 + (G1 10 v2.toNatClampNeg))), (2, .int v2)] 31 rfl dX5_sumOfDials_30 rfl (by decide) rfl ?_
      refine j_iinc 2 (v2 + (1 : Int32)) [(0, .ref 7), (1, .int (v1 + (G1 10 v2.toNatClampNeg))), (2, .int (v2 + (1 : Int32)))] 34 rfl dX5_sumOfDials_31 rfl rfl (by decide) rfl ?_
      refine j_goto 4 (by decide) dX5_sumOfDials_34 ?_
      exact h
theorem vX5_keepDialsAsGoal (post : Option Value → GG → Prop)  (G : GG) (h : zJ kX5_keepDialsAsGoal post 4 [(0, .ref 7), (1, .int (0 : Int32)), (2, .int (0 : Int32))] [] G) : CT kX5_keepDialsAsGoal [.ref 7] G post := by
  refine CT.of (by decide) (Nat.le_of_ble_eq_true rfl) ?_
  show zJ kX5_keepDialsAsGoal post 0 [(0, .ref 7)] [] G
  refine j_iconst (0 : Int32) 1 rfl dX5_keepDialsAsGoal_0 (by decide) ?_
  refine j_istore_n [(0, .ref 7), (1, .int (0 : Int32))] 2 rfl dX5_keepDialsAsGoal_1 rfl (by decide) rfl ?_
  refine j_iconst (0 : Int32) 3 rfl dX5_keepDialsAsGoal_2 (by decide) ?_
  refine j_istore_n [(0, .ref 7), (1, .int (0 : Int32)), (2, .int (0 : Int32))] 4 rfl dX5_keepDialsAsGoal_3 rfl (by decide) rfl ?_
  exact h
theorem vX5_keepDialsAsGoal_4 (post : Option Value → GG → Prop) (v1 : Int32) (v2 : Int32) (G : GG) (h : ((30 : Int32) ≤ v2 → (post (some (.int v1)) G)) ∧ (¬ (30 : Int32) ≤ v2 → (CTi kX5_isThere [.ref 7, .int v2] G (fun r2 G1 => (r2 = (0 : Int32) → (zJ kX5_keepDialsAsGoal post 33 [(0, .ref 7), (1, .int v1), (2, .int v2)] [.int (-1 : Int32), .int v2, .ref 12] G1)) ∧ (¬ r2 = (0 : Int32) → ((vp_in v2 30) ∧ (zJ kX5_keepDialsAsGoal post 33 [(0, .ref 7), (1, .int v1), (2, .int v2)] [.int (G1 10 v2.toNatClampNeg), .int v2, .ref 12] G1))))))) : zJ kX5_keepDialsAsGoal post 4 [(0, .ref 7), (1, .int v1), (2, .int v2)] [] G := by
  refine j_iload_n 2 5 rfl dX5_keepDialsAsGoal_4 rfl rfl ?_
  refine j_bipush (30 : Int32) 7 rfl dX5_keepDialsAsGoal_5 (by decide) ?_
  obtain ⟨hbt, hbf⟩ := h
  refine j_icmp_ge 10 56 rfl (by decide) dX5_keepDialsAsGoal_7 (fun hc => ?_) (fun hc => ?_)
  · have h := hbt hc
    refine j_iload_n 1 57 rfl dX5_keepDialsAsGoal_56 rfl rfl ?_
    exact j_iret dX5_keepDialsAsGoal_57 rfl rfl h
  · have h := hbf hc
    refine j_aload_n 0 11 rfl dX5_keepDialsAsGoal_10 rfl rfl ?_
    refine j_getR 14 rfl dX5_keepDialsAsGoal_11 lf_X5_27 ly_7 rfl ?_
    refine j_iload_n 2 15 rfl dX5_keepDialsAsGoal_14 rfl rfl ?_
    refine j_aload_n 0 16 rfl dX5_keepDialsAsGoal_15 rfl rfl ?_
    refine j_iload_n 2 17 rfl dX5_keepDialsAsGoal_16 rfl rfl ?_
    refine j_callV (K' := kX5_isThere) (As := [.int v2]) (S := [.int v2, .ref 12]) dX5_keepDialsAsGoal_17 ll_X5_55 ok_X5_isThere ⟨by decide, by decide⟩ ly_7 rfl rfl (Nat.le_of_ble_eq_true rfl) rfl (CT.mono h (fun r G1 hr => ?_))
    obtain ⟨r2, rfl, h⟩ := hr
    show zJ kX5_keepDialsAsGoal post 20 [(0, .ref 7), (1, .int v1), (2, .int v2)] [.int r2, .int v2, .ref 12] G1
    obtain ⟨hbt, hbf⟩ := h
    refine j_if_eq 23 32 rfl (by decide) dX5_keepDialsAsGoal_20 (fun hc => ?_) (fun hc => ?_)
    · have h := hbt hc
      refine j_iconst (-1 : Int32) 33 rfl dX5_keepDialsAsGoal_32 (by decide) ?_
      exact h
    · have h := hbf hc
      refine j_aload_n 0 24 rfl dX5_keepDialsAsGoal_23 rfl rfl ?_
      refine j_getR 27 rfl dX5_keepDialsAsGoal_24 lf_X5_21 ly_7 rfl ?_
      refine j_iload_n 2 28 rfl dX5_keepDialsAsGoal_27 rfl rfl ?_
      obtain ⟨h3, h⟩ := h
      refine j_iald 29 rfl dX5_keepDialsAsGoal_28 ly_10 h3 ?_
      refine j_goto 33 (by decide) dX5_keepDialsAsGoal_29 ?_
      exact h
theorem vX5_keepDialsAsGoal_33 (post : Option Value → GG → Prop) (v1 : Int32) (v2 : Int32) (s0 : Int32) (s1 : Int32) (G : GG) (h : (vp_in s1 30) ∧ (CTi kX5_isThere [.ref 7, .int v2] (gU G 12 s1.toNatClampNeg s0) (fun r3 G2 => (r3 = (0 : Int32) → (zJ kX5_keepDialsAsGoal post 4 [(0, .ref 7), (1, .int (v1 + (0 : Int32))), (2, .int (v2 + (1 : Int32)))] [] G2)) ∧ (¬ r3 = (0 : Int32) → (zJ kX5_keepDialsAsGoal post 4 [(0, .ref 7), (1, .int (v1 + (1 : Int32))), (2, .int (v2 + (1 : Int32)))] [] G2))))) : zJ kX5_keepDialsAsGoal post 33 [(0, .ref 7), (1, .int v1), (2, .int v2)] [.int s0, .int s1, .ref 12] G := by
  obtain ⟨h1, h⟩ := h
  refine j_iast 34 rfl dX5_keepDialsAsGoal_33 ly_12 h1 ?_
  refine j_iload_n 1 35 rfl dX5_keepDialsAsGoal_34 rfl rfl ?_
  refine j_aload_n 0 36 rfl dX5_keepDialsAsGoal_35 rfl rfl ?_
  refine j_iload_n 2 37 rfl dX5_keepDialsAsGoal_36 rfl rfl ?_
  refine j_callV (K' := kX5_isThere) (As := [.int v2]) (S := [.int v1]) dX5_keepDialsAsGoal_37 ll_X5_55 ok_X5_isThere ⟨by decide, by decide⟩ ly_7 rfl rfl (Nat.le_of_ble_eq_true rfl) rfl (CT.mono h (fun r G2 hr => ?_))
  obtain ⟨r3, rfl, h⟩ := hr
  show zJ kX5_keepDialsAsGoal post 40 [(0, .ref 7), (1, .int v1), (2, .int v2)] [.int r3, .int v1] G2
  obtain ⟨hbt, hbf⟩ := h
  refine j_if_eq 43 47 rfl (by decide) dX5_keepDialsAsGoal_40 (fun hc => ?_) (fun hc => ?_)
  · have h := hbt hc
    refine j_iconst (0 : Int32) 48 rfl dX5_keepDialsAsGoal_47 (by decide) ?_
    refine j_iadd 49 rfl dX5_keepDialsAsGoal_48 ?_
    refine j_istore_n [(0, .ref 7), (1, .int (v1 + (0 : Int32))), (2, .int v2)] 50 rfl dX5_keepDialsAsGoal_49 rfl (by decide) rfl ?_
    refine j_iinc 2 (v2 + (1 : Int32)) [(0, .ref 7), (1, .int (v1 + (0 : Int32))), (2, .int (v2 + (1 : Int32)))] 53 rfl dX5_keepDialsAsGoal_50 rfl rfl (by decide) rfl ?_
    refine j_goto 4 (by decide) dX5_keepDialsAsGoal_53 ?_
    exact h
  · have h := hbf hc
    refine j_iconst (1 : Int32) 44 rfl dX5_keepDialsAsGoal_43 (by decide) ?_
    refine j_goto 48 (by decide) dX5_keepDialsAsGoal_44 ?_
    refine j_iadd 49 rfl dX5_keepDialsAsGoal_48 ?_
    refine j_istore_n [(0, .ref 7), (1, .int (v1 + (1 : Int32))), (2, .int v2)] 50 rfl dX5_keepDialsAsGoal_49 rfl (by decide) rfl ?_
    refine j_iinc 2 (v2 + (1 : Int32)) [(0, .ref 7), (1, .int (v1 + (1 : Int32))), (2, .int (v2 + (1 : Int32)))] 53 rfl dX5_keepDialsAsGoal_50 rfl rfl (by decide) rfl ?_
    refine j_goto 4 (by decide) dX5_keepDialsAsGoal_53 ?_
    exact h
theorem vX6_resistancesAsked (post : Option Value → GG → Prop)  (G : GG) (h : (¬ (G 13 2) = (0 : Int32) → (post (some (.int (2 : Int32))) G)) ∧ ((G 13 2) = (0 : Int32) → (post (some (.int (1 : Int32))) G))) : CT kX6_resistancesAsked [.ref 13] G post := by
  refine CT.of (by decide) (Nat.le_of_ble_eq_true rfl) ?_
  show zJ kX6_resistancesAsked post 0 [(0, .ref 13)] [] G
  refine j_aload_n 0 1 rfl dX6_resistancesAsked_0 rfl rfl ?_
  refine j_getI 4 rfl dX6_resistancesAsked_1 lf_X6_19 ly_13 rfl ?_
  obtain ⟨hbt, hbf⟩ := h
  refine j_if_ne 7 11 rfl (by decide) dX6_resistancesAsked_4 (fun hc => ?_) (fun hc => ?_)
  · have h := hbt hc
    refine j_iconst (2 : Int32) 12 rfl dX6_resistancesAsked_11 (by decide) ?_
    exact j_iret dX6_resistancesAsked_12 rfl rfl h
  · have h := hbf hc
    refine j_iconst (1 : Int32) 8 rfl dX6_resistancesAsked_7 (by decide) ?_
    refine j_goto 12 (by decide) dX6_resistancesAsked_8 ?_
    exact j_iret dX6_resistancesAsked_12 rfl rfl h
theorem vX6_resistanceAsked (post : Option Value → GG → Prop) (v1 : Int32) (G : GG) (h : (¬ v1 = (0 : Int32) → (post (some (.int (G 13 2))) G)) ∧ (v1 = (0 : Int32) → (post (some (.int (0 : Int32))) G))) : CT kX6_resistanceAsked [.ref 13, .int v1] G post := by
  refine CT.of (by decide) (Nat.le_of_ble_eq_true rfl) ?_
  show zJ kX6_resistanceAsked post 0 [(0, .ref 13), (1, .int v1)] [] G
  refine j_iload_n 1 1 rfl dX6_resistanceAsked_0 rfl rfl ?_
  obtain ⟨hbt, hbf⟩ := h
  refine j_if_ne 4 8 rfl (by decide) dX6_resistanceAsked_1 (fun hc => ?_) (fun hc => ?_)
  · have h := hbt hc
    refine j_aload_n 0 9 rfl dX6_resistanceAsked_8 rfl rfl ?_
    refine j_getI 12 rfl dX6_resistanceAsked_9 lf_X6_19 ly_13 rfl ?_
    exact j_iret dX6_resistanceAsked_12 rfl rfl h
  · have h := hbf hc
    refine j_iconst (0 : Int32) 5 rfl dX6_resistanceAsked_4 (by decide) ?_
    refine j_goto 12 (by decide) dX6_resistanceAsked_5 ?_
    exact j_iret dX6_resistanceAsked_12 rfl rfl h
theorem vJ6_numberOfLeadingZeros_0f7a4 (post : Option Value → GG → Prop) (v0 : Int32) (G : GG) (h : ((0 : Int32) < v0 → ((v0 < (65536 : Int32) → (zJ kJ6_numberOfLeadingZeros_0f7a4 post 33 [(0, .int v0), (1, .int (31 : Int32))] [] G)) ∧ (¬ v0 < (65536 : Int32) → (zJ kJ6_numberOfLeadingZeros_0f7a4 post 33 [(0, .int ((v0.toUInt32 >>> ((16 : Int32).toUInt32 &&& Int32.toUInt32 31)).toInt32)), (1, .int ((31 : Int32) + (-16 : Int32)))] [] G)))) ∧ (¬ (0 : Int32) < v0 → ((¬ v0 = (0 : Int32) → (post (some (.int (0 : Int32))) G)) ∧ (v0 = (0 : Int32) → (post (some (.int (32 : Int32))) G))))) : CT kJ6_numberOfLeadingZeros_0f7a4 [.int v0] G post := by
  refine CT.of (by decide) (Nat.le_of_ble_eq_true rfl) ?_
  show zJ kJ6_numberOfLeadingZeros_0f7a4 post 0 [(0, .int v0)] [] G
  refine j_iload_n 0 1 rfl dJ6_numberOfLeadingZeros_0f7a4_0 rfl rfl ?_
  obtain ⟨hbt, hbf⟩ := h
  refine j_if_gt 4 15 rfl (by decide) dJ6_numberOfLeadingZeros_0f7a4_1 (fun hc => ?_) (fun hc => ?_)
  · have h := hbt hc
    refine j_bipush (31 : Int32) 17 rfl dJ6_numberOfLeadingZeros_0f7a4_15 (by decide) ?_
    refine j_istore_n [(0, .int v0), (1, .int (31 : Int32))] 18 rfl dJ6_numberOfLeadingZeros_0f7a4_17 rfl (by decide) rfl ?_
    refine j_iload_n 0 19 rfl dJ6_numberOfLeadingZeros_0f7a4_18 rfl rfl ?_
    refine j_ldc_w (65536 : Int32) 22 rfl dJ6_numberOfLeadingZeros_0f7a4_19 lc_J6_264 ?_
    obtain ⟨hbt, hbf⟩ := h
    refine j_icmp_lt 25 33 rfl (by decide) dJ6_numberOfLeadingZeros_0f7a4_22 (fun hc => ?_) (fun hc => ?_)
    · have h := hbt hc
      exact h
    · have h := hbf hc
      refine j_iinc 1 ((31 : Int32) + (-16 : Int32)) [(0, .int v0), (1, .int ((31 : Int32) + (-16 : Int32)))] 28 rfl dJ6_numberOfLeadingZeros_0f7a4_25 rfl rfl (by decide) rfl ?_
      refine j_iload_n 0 29 rfl dJ6_numberOfLeadingZeros_0f7a4_28 rfl rfl ?_
      refine j_bipush (16 : Int32) 31 rfl dJ6_numberOfLeadingZeros_0f7a4_29 (by decide) ?_
      refine j_iushr 32 rfl dJ6_numberOfLeadingZeros_0f7a4_31 ?_
      refine j_istore_n [(0, .int ((v0.toUInt32 >>> ((16 : Int32).toUInt32 &&& Int32.toUInt32 31)).toInt32)), (1, .int ((31 : Int32) + (-16 : Int32)))] 33 rfl dJ6_numberOfLeadingZeros_0f7a4_32 rfl (by decide) rfl ?_
      exact h
  · have h := hbf hc
    refine j_iload_n 0 5 rfl dJ6_numberOfLeadingZeros_0f7a4_4 rfl rfl ?_
    obtain ⟨hbt, hbf⟩ := h
    refine j_if_ne 8 13 rfl (by decide) dJ6_numberOfLeadingZeros_0f7a4_5 (fun hc => ?_) (fun hc => ?_)
    · have h := hbt hc
      refine j_iconst (0 : Int32) 14 rfl dJ6_numberOfLeadingZeros_0f7a4_13 (by decide) ?_
      exact j_iret dJ6_numberOfLeadingZeros_0f7a4_14 rfl rfl h
    · have h := hbf hc
      refine j_bipush (32 : Int32) 10 rfl dJ6_numberOfLeadingZeros_0f7a4_8 (by decide) ?_
      refine j_goto 14 (by decide) dJ6_numberOfLeadingZeros_0f7a4_10 ?_
      exact j_iret dJ6_numberOfLeadingZeros_0f7a4_14 rfl rfl h
theorem vJ6_numberOfLeadingZeros_0f7a4_33 (post : Option Value → GG → Prop) (v0 : Int32) (v1 : Int32) (G : GG) (h : (v0 < (256 : Int32) → (zJ kJ6_numberOfLeadingZeros_0f7a4 post 48 [(0, .int v0), (1, .int v1)] [] G)) ∧ (¬ v0 < (256 : Int32) → (zJ kJ6_numberOfLeadingZeros_0f7a4 post 48 [(0, .int ((v0.toUInt32 >>> ((8 : Int32).toUInt32 &&& Int32.toUInt32 31)).toInt32)), (1, .int (v1 + (-8 : Int32)))] [] G))) : zJ kJ6_numberOfLeadingZeros_0f7a4 post 33 [(0, .int v0), (1, .int v1)] [] G := by
  refine j_iload_n 0 34 rfl dJ6_numberOfLeadingZeros_0f7a4_33 rfl rfl ?_
  refine j_sipush (256 : Int32) 37 rfl dJ6_numberOfLeadingZeros_0f7a4_34 (by decide) ?_
  obtain ⟨hbt, hbf⟩ := h
  refine j_icmp_lt 40 48 rfl (by decide) dJ6_numberOfLeadingZeros_0f7a4_37 (fun hc => ?_) (fun hc => ?_)
  · have h := hbt hc
    exact h
  · have h := hbf hc
    refine j_iinc 1 (v1 + (-8 : Int32)) [(0, .int v0), (1, .int (v1 + (-8 : Int32)))] 43 rfl dJ6_numberOfLeadingZeros_0f7a4_40 rfl rfl (by decide) rfl ?_
    refine j_iload_n 0 44 rfl dJ6_numberOfLeadingZeros_0f7a4_43 rfl rfl ?_
    refine j_bipush (8 : Int32) 46 rfl dJ6_numberOfLeadingZeros_0f7a4_44 (by decide) ?_
    refine j_iushr 47 rfl dJ6_numberOfLeadingZeros_0f7a4_46 ?_
    refine j_istore_n [(0, .int ((v0.toUInt32 >>> ((8 : Int32).toUInt32 &&& Int32.toUInt32 31)).toInt32)), (1, .int (v1 + (-8 : Int32)))] 48 rfl dJ6_numberOfLeadingZeros_0f7a4_47 rfl (by decide) rfl ?_
    exact h
theorem vJ6_numberOfLeadingZeros_0f7a4_48 (post : Option Value → GG → Prop) (v0 : Int32) (v1 : Int32) (G : GG) (h : (v0 < (16 : Int32) → (zJ kJ6_numberOfLeadingZeros_0f7a4 post 61 [(0, .int v0), (1, .int v1)] [] G)) ∧ (¬ v0 < (16 : Int32) → (zJ kJ6_numberOfLeadingZeros_0f7a4 post 61 [(0, .int ((v0.toUInt32 >>> ((4 : Int32).toUInt32 &&& Int32.toUInt32 31)).toInt32)), (1, .int (v1 + (-4 : Int32)))] [] G))) : zJ kJ6_numberOfLeadingZeros_0f7a4 post 48 [(0, .int v0), (1, .int v1)] [] G := by
  refine j_iload_n 0 49 rfl dJ6_numberOfLeadingZeros_0f7a4_48 rfl rfl ?_
  refine j_bipush (16 : Int32) 51 rfl dJ6_numberOfLeadingZeros_0f7a4_49 (by decide) ?_
  obtain ⟨hbt, hbf⟩ := h
  refine j_icmp_lt 54 61 rfl (by decide) dJ6_numberOfLeadingZeros_0f7a4_51 (fun hc => ?_) (fun hc => ?_)
  · have h := hbt hc
    exact h
  · have h := hbf hc
    refine j_iinc 1 (v1 + (-4 : Int32)) [(0, .int v0), (1, .int (v1 + (-4 : Int32)))] 57 rfl dJ6_numberOfLeadingZeros_0f7a4_54 rfl rfl (by decide) rfl ?_
    refine j_iload_n 0 58 rfl dJ6_numberOfLeadingZeros_0f7a4_57 rfl rfl ?_
    refine j_iconst (4 : Int32) 59 rfl dJ6_numberOfLeadingZeros_0f7a4_58 (by decide) ?_
    refine j_iushr 60 rfl dJ6_numberOfLeadingZeros_0f7a4_59 ?_
    refine j_istore_n [(0, .int ((v0.toUInt32 >>> ((4 : Int32).toUInt32 &&& Int32.toUInt32 31)).toInt32)), (1, .int (v1 + (-4 : Int32)))] 61 rfl dJ6_numberOfLeadingZeros_0f7a4_60 rfl (by decide) rfl ?_
    exact h
theorem vJ6_numberOfLeadingZeros_0f7a4_61 (post : Option Value → GG → Prop) (v0 : Int32) (v1 : Int32) (G : GG) (h : (v0 < (4 : Int32) → (post (some (.int (v1 - ((v0.toUInt32 >>> ((1 : Int32).toUInt32 &&& Int32.toUInt32 31)).toInt32)))) G)) ∧ (¬ v0 < (4 : Int32) → (post (some (.int ((v1 + (-2 : Int32)) - ((((v0.toUInt32 >>> ((2 : Int32).toUInt32 &&& Int32.toUInt32 31)).toInt32).toUInt32 >>> ((1 : Int32).toUInt32 &&& Int32.toUInt32 31)).toInt32)))) G))) : zJ kJ6_numberOfLeadingZeros_0f7a4 post 61 [(0, .int v0), (1, .int v1)] [] G := by
  refine j_iload_n 0 62 rfl dJ6_numberOfLeadingZeros_0f7a4_61 rfl rfl ?_
  refine j_iconst (4 : Int32) 63 rfl dJ6_numberOfLeadingZeros_0f7a4_62 (by decide) ?_
  obtain ⟨hbt, hbf⟩ := h
  refine j_icmp_lt 66 73 rfl (by decide) dJ6_numberOfLeadingZeros_0f7a4_63 (fun hc => ?_) (fun hc => ?_)
  · have h := hbt hc
    refine j_iload_n 1 74 rfl dJ6_numberOfLeadingZeros_0f7a4_73 rfl rfl ?_
    refine j_iload_n 0 75 rfl dJ6_numberOfLeadingZeros_0f7a4_74 rfl rfl ?_
    refine j_iconst (1 : Int32) 76 rfl dJ6_numberOfLeadingZeros_0f7a4_75 (by decide) ?_
    refine j_iushr 77 rfl dJ6_numberOfLeadingZeros_0f7a4_76 ?_
    refine j_isub 78 rfl dJ6_numberOfLeadingZeros_0f7a4_77 ?_
    exact j_iret dJ6_numberOfLeadingZeros_0f7a4_78 rfl rfl h
  · have h := hbf hc
    refine j_iinc 1 (v1 + (-2 : Int32)) [(0, .int v0), (1, .int (v1 + (-2 : Int32)))] 69 rfl dJ6_numberOfLeadingZeros_0f7a4_66 rfl rfl (by decide) rfl ?_
    refine j_iload_n 0 70 rfl dJ6_numberOfLeadingZeros_0f7a4_69 rfl rfl ?_
    refine j_iconst (2 : Int32) 71 rfl dJ6_numberOfLeadingZeros_0f7a4_70 (by decide) ?_
    refine j_iushr 72 rfl dJ6_numberOfLeadingZeros_0f7a4_71 ?_
    refine j_istore_n [(0, .int ((v0.toUInt32 >>> ((2 : Int32).toUInt32 &&& Int32.toUInt32 31)).toInt32)), (1, .int (v1 + (-2 : Int32)))] 73 rfl dJ6_numberOfLeadingZeros_0f7a4_72 rfl (by decide) rfl ?_
    refine j_iload_n 1 74 rfl dJ6_numberOfLeadingZeros_0f7a4_73 rfl rfl ?_
    refine j_iload_n 0 75 rfl dJ6_numberOfLeadingZeros_0f7a4_74 rfl rfl ?_
    refine j_iconst (1 : Int32) 76 rfl dJ6_numberOfLeadingZeros_0f7a4_75 (by decide) ?_
    refine j_iushr 77 rfl dJ6_numberOfLeadingZeros_0f7a4_76 ?_
    refine j_isub 78 rfl dJ6_numberOfLeadingZeros_0f7a4_77 ?_
    exact j_iret dJ6_numberOfLeadingZeros_0f7a4_78 rfl rfl h
theorem vJ6_bitCount_0f7a4 (post : Option Value → GG → Prop) (v0 : Int32) (G : GG) (h : post (some (.int ((((((((v0 - (((v0.toUInt32 >>> ((1 : Int32).toUInt32 &&& Int32.toUInt32 31)).toInt32) &&& (1431655765 : Int32))) &&& (858993459 : Int32)) + ((((v0 - (((v0.toUInt32 >>> ((1 : Int32).toUInt32 &&& Int32.toUInt32 31)).toInt32) &&& (1431655765 : Int32))).toUInt32 >>> ((2 : Int32).toUInt32 &&& Int32.toUInt32 31)).toInt32) &&& (858993459 : Int32))) + (((((v0 - (((v0.toUInt32 >>> ((1 : Int32).toUInt32 &&& Int32.toUInt32 31)).toInt32) &&& (1431655765 : Int32))) &&& (858993459 : Int32)) + ((((v0 - (((v0.toUInt32 >>> ((1 : Int32).toUInt32 &&& Int32.toUInt32 31)).toInt32) &&& (1431655765 : Int32))).toUInt32 >>> ((2 : Int32).toUInt32 &&& Int32.toUInt32 31)).toInt32) &&& (858993459 : Int32))).toUInt32 >>> ((4 : Int32).toUInt32 &&& Int32.toUInt32 31)).toInt32)) &&& (252645135 : Int32)) + (((((((v0 - (((v0.toUInt32 >>> ((1 : Int32).toUInt32 &&& Int32.toUInt32 31)).toInt32) &&& (1431655765 : Int32))) &&& (858993459 : Int32)) + ((((v0 - (((v0.toUInt32 >>> ((1 : Int32).toUInt32 &&& Int32.toUInt32 31)).toInt32) &&& (1431655765 : Int32))).toUInt32 >>> ((2 : Int32).toUInt32 &&& Int32.toUInt32 31)).toInt32) &&& (858993459 : Int32))) + (((((v0 - (((v0.toUInt32 >>> ((1 : Int32).toUInt32 &&& Int32.toUInt32 31)).toInt32) &&& (1431655765 : Int32))) &&& (858993459 : Int32)) + ((((v0 - (((v0.toUInt32 >>> ((1 : Int32).toUInt32 &&& Int32.toUInt32 31)).toInt32) &&& (1431655765 : Int32))).toUInt32 >>> ((2 : Int32).toUInt32 &&& Int32.toUInt32 31)).toInt32) &&& (858993459 : Int32))).toUInt32 >>> ((4 : Int32).toUInt32 &&& Int32.toUInt32 31)).toInt32)) &&& (252645135 : Int32)).toUInt32 >>> ((8 : Int32).toUInt32 &&& Int32.toUInt32 31)).toInt32)) + ((((((((v0 - (((v0.toUInt32 >>> ((1 : Int32).toUInt32 &&& Int32.toUInt32 31)).toInt32) &&& (1431655765 : Int32))) &&& (858993459 : Int32)) + ((((v0 - (((v0.toUInt32 >>> ((1 : Int32).toUInt32 &&& Int32.toUInt32 31)).toInt32) &&& (1431655765 : Int32))).toUInt32 >>> ((2 : Int32).toUInt32 &&& Int32.toUInt32 31)).toInt32) &&& (858993459 : Int32))) + (((((v0 - (((v0.toUInt32 >>> ((1 : Int32).toUInt32 &&& Int32.toUInt32 31)).toInt32) &&& (1431655765 : Int32))) &&& (858993459 : Int32)) + ((((v0 - (((v0.toUInt32 >>> ((1 : Int32).toUInt32 &&& Int32.toUInt32 31)).toInt32) &&& (1431655765 : Int32))).toUInt32 >>> ((2 : Int32).toUInt32 &&& Int32.toUInt32 31)).toInt32) &&& (858993459 : Int32))).toUInt32 >>> ((4 : Int32).toUInt32 &&& Int32.toUInt32 31)).toInt32)) &&& (252645135 : Int32)) + (((((((v0 - (((v0.toUInt32 >>> ((1 : Int32).toUInt32 &&& Int32.toUInt32 31)).toInt32) &&& (1431655765 : Int32))) &&& (858993459 : Int32)) + ((((v0 - (((v0.toUInt32 >>> ((1 : Int32).toUInt32 &&& Int32.toUInt32 31)).toInt32) &&& (1431655765 : Int32))).toUInt32 >>> ((2 : Int32).toUInt32 &&& Int32.toUInt32 31)).toInt32) &&& (858993459 : Int32))) + (((((v0 - (((v0.toUInt32 >>> ((1 : Int32).toUInt32 &&& Int32.toUInt32 31)).toInt32) &&& (1431655765 : Int32))) &&& (858993459 : Int32)) + ((((v0 - (((v0.toUInt32 >>> ((1 : Int32).toUInt32 &&& Int32.toUInt32 31)).toInt32) &&& (1431655765 : Int32))).toUInt32 >>> ((2 : Int32).toUInt32 &&& Int32.toUInt32 31)).toInt32) &&& (858993459 : Int32))).toUInt32 >>> ((4 : Int32).toUInt32 &&& Int32.toUInt32 31)).toInt32)) &&& (252645135 : Int32)).toUInt32 >>> ((8 : Int32).toUInt32 &&& Int32.toUInt32 31)).toInt32)).toUInt32 >>> ((16 : Int32).toUInt32 &&& Int32.toUInt32 31)).toInt32)) &&& (63 : Int32)))) G) : CT kJ6_bitCount_0f7a4 [.int v0] G post := by
  refine CT.of (by decide) (Nat.le_of_ble_eq_true rfl) ?_
  show zJ kJ6_bitCount_0f7a4 post 0 [(0, .int v0)] [] G
  refine j_iload_n 0 1 rfl dJ6_bitCount_0f7a4_0 rfl rfl ?_
  refine j_iload_n 0 2 rfl dJ6_bitCount_0f7a4_1 rfl rfl ?_
  refine j_iconst (1 : Int32) 3 rfl dJ6_bitCount_0f7a4_2 (by decide) ?_
  refine j_iushr 4 rfl dJ6_bitCount_0f7a4_3 ?_
  refine j_ldc_w (1431655765 : Int32) 7 rfl dJ6_bitCount_0f7a4_4 lc_J6_265 ?_
  refine j_iand 8 rfl dJ6_bitCount_0f7a4_7 ?_
  refine j_isub 9 rfl dJ6_bitCount_0f7a4_8 ?_
  refine j_istore_n [(0, .int (v0 - (((v0.toUInt32 >>> ((1 : Int32).toUInt32 &&& Int32.toUInt32 31)).toInt32) &&& (1431655765 : Int32))))] 10 rfl dJ6_bitCount_0f7a4_9 rfl (by decide) rfl ?_
  refine j_iload_n 0 11 rfl dJ6_bitCount_0f7a4_10 rfl rfl ?_
  refine j_ldc_w (858993459 : Int32) 14 rfl dJ6_bitCount_0f7a4_11 lc_J6_266 ?_
  refine j_iand 15 rfl dJ6_bitCount_0f7a4_14 ?_
  refine j_iload_n 0 16 rfl dJ6_bitCount_0f7a4_15 rfl rfl ?_
  refine j_iconst (2 : Int32) 17 rfl dJ6_bitCount_0f7a4_16 (by decide) ?_
  refine j_iushr 18 rfl dJ6_bitCount_0f7a4_17 ?_
  refine j_ldc_w (858993459 : Int32) 21 rfl dJ6_bitCount_0f7a4_18 lc_J6_266 ?_
  refine j_iand 22 rfl dJ6_bitCount_0f7a4_21 ?_
  refine j_iadd 23 rfl dJ6_bitCount_0f7a4_22 ?_
  refine j_istore_n [(0, .int (((v0 - (((v0.toUInt32 >>> ((1 : Int32).toUInt32 &&& Int32.toUInt32 31)).toInt32) &&& (1431655765 : Int32))) &&& (858993459 : Int32)) + ((((v0 - (((v0.toUInt32 >>> ((1 : Int32).toUInt32 &&& Int32.toUInt32 31)).toInt32) &&& (1431655765 : Int32))).toUInt32 >>> ((2 : Int32).toUInt32 &&& Int32.toUInt32 31)).toInt32) &&& (858993459 : Int32))))] 24 rfl dJ6_bitCount_0f7a4_23 rfl (by decide) rfl ?_
  refine j_iload_n 0 25 rfl dJ6_bitCount_0f7a4_24 rfl rfl ?_
  refine j_iload_n 0 26 rfl dJ6_bitCount_0f7a4_25 rfl rfl ?_
  refine j_iconst (4 : Int32) 27 rfl dJ6_bitCount_0f7a4_26 (by decide) ?_
  refine j_iushr 28 rfl dJ6_bitCount_0f7a4_27 ?_
  refine j_iadd 29 rfl dJ6_bitCount_0f7a4_28 ?_
  refine j_ldc_w (252645135 : Int32) 32 rfl dJ6_bitCount_0f7a4_29 lc_J6_267 ?_
  refine j_iand 33 rfl dJ6_bitCount_0f7a4_32 ?_
  refine j_istore_n [(0, .int (((((v0 - (((v0.toUInt32 >>> ((1 : Int32).toUInt32 &&& Int32.toUInt32 31)).toInt32) &&& (1431655765 : Int32))) &&& (858993459 : Int32)) + ((((v0 - (((v0.toUInt32 >>> ((1 : Int32).toUInt32 &&& Int32.toUInt32 31)).toInt32) &&& (1431655765 : Int32))).toUInt32 >>> ((2 : Int32).toUInt32 &&& Int32.toUInt32 31)).toInt32) &&& (858993459 : Int32))) + (((((v0 - (((v0.toUInt32 >>> ((1 : Int32).toUInt32 &&& Int32.toUInt32 31)).toInt32) &&& (1431655765 : Int32))) &&& (858993459 : Int32)) + ((((v0 - (((v0.toUInt32 >>> ((1 : Int32).toUInt32 &&& Int32.toUInt32 31)).toInt32) &&& (1431655765 : Int32))).toUInt32 >>> ((2 : Int32).toUInt32 &&& Int32.toUInt32 31)).toInt32) &&& (858993459 : Int32))).toUInt32 >>> ((4 : Int32).toUInt32 &&& Int32.toUInt32 31)).toInt32)) &&& (252645135 : Int32)))] 34 rfl dJ6_bitCount_0f7a4_33 rfl (by decide) rfl ?_
  refine j_iload_n 0 35 rfl dJ6_bitCount_0f7a4_34 rfl rfl ?_
  refine j_iload_n 0 36 rfl dJ6_bitCount_0f7a4_35 rfl rfl ?_
  refine j_bipush (8 : Int32) 38 rfl dJ6_bitCount_0f7a4_36 (by decide) ?_
  refine j_iushr 39 rfl dJ6_bitCount_0f7a4_38 ?_
  refine j_iadd 40 rfl dJ6_bitCount_0f7a4_39 ?_
  refine j_istore_n [(0, .int ((((((v0 - (((v0.toUInt32 >>> ((1 : Int32).toUInt32 &&& Int32.toUInt32 31)).toInt32) &&& (1431655765 : Int32))) &&& (858993459 : Int32)) + ((((v0 - (((v0.toUInt32 >>> ((1 : Int32).toUInt32 &&& Int32.toUInt32 31)).toInt32) &&& (1431655765 : Int32))).toUInt32 >>> ((2 : Int32).toUInt32 &&& Int32.toUInt32 31)).toInt32) &&& (858993459 : Int32))) + (((((v0 - (((v0.toUInt32 >>> ((1 : Int32).toUInt32 &&& Int32.toUInt32 31)).toInt32) &&& (1431655765 : Int32))) &&& (858993459 : Int32)) + ((((v0 - (((v0.toUInt32 >>> ((1 : Int32).toUInt32 &&& Int32.toUInt32 31)).toInt32) &&& (1431655765 : Int32))).toUInt32 >>> ((2 : Int32).toUInt32 &&& Int32.toUInt32 31)).toInt32) &&& (858993459 : Int32))).toUInt32 >>> ((4 : Int32).toUInt32 &&& Int32.toUInt32 31)).toInt32)) &&& (252645135 : Int32)) + (((((((v0 - (((v0.toUInt32 >>> ((1 : Int32).toUInt32 &&& Int32.toUInt32 31)).toInt32) &&& (1431655765 : Int32))) &&& (858993459 : Int32)) + ((((v0 - (((v0.toUInt32 >>> ((1 : Int32).toUInt32 &&& Int32.toUInt32 31)).toInt32) &&& (1431655765 : Int32))).toUInt32 >>> ((2 : Int32).toUInt32 &&& Int32.toUInt32 31)).toInt32) &&& (858993459 : Int32))) + (((((v0 - (((v0.toUInt32 >>> ((1 : Int32).toUInt32 &&& Int32.toUInt32 31)).toInt32) &&& (1431655765 : Int32))) &&& (858993459 : Int32)) + ((((v0 - (((v0.toUInt32 >>> ((1 : Int32).toUInt32 &&& Int32.toUInt32 31)).toInt32) &&& (1431655765 : Int32))).toUInt32 >>> ((2 : Int32).toUInt32 &&& Int32.toUInt32 31)).toInt32) &&& (858993459 : Int32))).toUInt32 >>> ((4 : Int32).toUInt32 &&& Int32.toUInt32 31)).toInt32)) &&& (252645135 : Int32)).toUInt32 >>> ((8 : Int32).toUInt32 &&& Int32.toUInt32 31)).toInt32)))] 41 rfl dJ6_bitCount_0f7a4_40 rfl (by decide) rfl ?_
  refine j_iload_n 0 42 rfl dJ6_bitCount_0f7a4_41 rfl rfl ?_
  refine j_iload_n 0 43 rfl dJ6_bitCount_0f7a4_42 rfl rfl ?_
  refine j_bipush (16 : Int32) 45 rfl dJ6_bitCount_0f7a4_43 (by decide) ?_
  refine j_iushr 46 rfl dJ6_bitCount_0f7a4_45 ?_
  refine j_iadd 47 rfl dJ6_bitCount_0f7a4_46 ?_
  refine j_istore_n [(0, .int (((((((v0 - (((v0.toUInt32 >>> ((1 : Int32).toUInt32 &&& Int32.toUInt32 31)).toInt32) &&& (1431655765 : Int32))) &&& (858993459 : Int32)) + ((((v0 - (((v0.toUInt32 >>> ((1 : Int32).toUInt32 &&& Int32.toUInt32 31)).toInt32) &&& (1431655765 : Int32))).toUInt32 >>> ((2 : Int32).toUInt32 &&& Int32.toUInt32 31)).toInt32) &&& (858993459 : Int32))) + (((((v0 - (((v0.toUInt32 >>> ((1 : Int32).toUInt32 &&& Int32.toUInt32 31)).toInt32) &&& (1431655765 : Int32))) &&& (858993459 : Int32)) + ((((v0 - (((v0.toUInt32 >>> ((1 : Int32).toUInt32 &&& Int32.toUInt32 31)).toInt32) &&& (1431655765 : Int32))).toUInt32 >>> ((2 : Int32).toUInt32 &&& Int32.toUInt32 31)).toInt32) &&& (858993459 : Int32))).toUInt32 >>> ((4 : Int32).toUInt32 &&& Int32.toUInt32 31)).toInt32)) &&& (252645135 : Int32)) + (((((((v0 - (((v0.toUInt32 >>> ((1 : Int32).toUInt32 &&& Int32.toUInt32 31)).toInt32) &&& (1431655765 : Int32))) &&& (858993459 : Int32)) + ((((v0 - (((v0.toUInt32 >>> ((1 : Int32).toUInt32 &&& Int32.toUInt32 31)).toInt32) &&& (1431655765 : Int32))).toUInt32 >>> ((2 : Int32).toUInt32 &&& Int32.toUInt32 31)).toInt32) &&& (858993459 : Int32))) + (((((v0 - (((v0.toUInt32 >>> ((1 : Int32).toUInt32 &&& Int32.toUInt32 31)).toInt32) &&& (1431655765 : Int32))) &&& (858993459 : Int32)) + ((((v0 - (((v0.toUInt32 >>> ((1 : Int32).toUInt32 &&& Int32.toUInt32 31)).toInt32) &&& (1431655765 : Int32))).toUInt32 >>> ((2 : Int32).toUInt32 &&& Int32.toUInt32 31)).toInt32) &&& (858993459 : Int32))).toUInt32 >>> ((4 : Int32).toUInt32 &&& Int32.toUInt32 31)).toInt32)) &&& (252645135 : Int32)).toUInt32 >>> ((8 : Int32).toUInt32 &&& Int32.toUInt32 31)).toInt32)) + ((((((((v0 - (((v0.toUInt32 >>> ((1 : Int32).toUInt32 &&& Int32.toUInt32 31)).toInt32) &&& (1431655765 : Int32))) &&& (858993459 : Int32)) + ((((v0 - (((v0.toUInt32 >>> ((1 : Int32).toUInt32 &&& Int32.toUInt32 31)).toInt32) &&& (1431655765 : Int32))).toUInt32 >>> ((2 : Int32).toUInt32 &&& Int32.toUInt32 31)).toInt32) &&& (858993459 : Int32))) + (((((v0 - (((v0.toUInt32 >>> ((1 : Int32).toUInt32 &&& Int32.toUInt32 31)).toInt32) &&& (1431655765 : Int32))) &&& (858993459 : Int32)) + ((((v0 - (((v0.toUInt32 >>> ((1 : Int32).toUInt32 &&& Int32.toUInt32 31)).toInt32) &&& (1431655765 : Int32))).toUInt32 >>> ((2 : Int32).toUInt32 &&& Int32.toUInt32 31)).toInt32) &&& (858993459 : Int32))).toUInt32 >>> ((4 : Int32).toUInt32 &&& Int32.toUInt32 31)).toInt32)) &&& (252645135 : Int32)) + (((((((v0 - (((v0.toUInt32 >>> ((1 : Int32).toUInt32 &&& Int32.toUInt32 31)).toInt32) &&& (1431655765 : Int32))) &&& (858993459 : Int32)) + ((((v0 - (((v0.toUInt32 >>> ((1 : Int32).toUInt32 &&& Int32.toUInt32 31)).toInt32) &&& (1431655765 : Int32))).toUInt32 >>> ((2 : Int32).toUInt32 &&& Int32.toUInt32 31)).toInt32) &&& (858993459 : Int32))) + (((((v0 - (((v0.toUInt32 >>> ((1 : Int32).toUInt32 &&& Int32.toUInt32 31)).toInt32) &&& (1431655765 : Int32))) &&& (858993459 : Int32)) + ((((v0 - (((v0.toUInt32 >>> ((1 : Int32).toUInt32 &&& Int32.toUInt32 31)).toInt32) &&& (1431655765 : Int32))).toUInt32 >>> ((2 : Int32).toUInt32 &&& Int32.toUInt32 31)).toInt32) &&& (858993459 : Int32))).toUInt32 >>> ((4 : Int32).toUInt32 &&& Int32.toUInt32 31)).toInt32)) &&& (252645135 : Int32)).toUInt32 >>> ((8 : Int32).toUInt32 &&& Int32.toUInt32 31)).toInt32)).toUInt32 >>> ((16 : Int32).toUInt32 &&& Int32.toUInt32 31)).toInt32)))] 48 rfl dJ6_bitCount_0f7a4_47 rfl (by decide) rfl ?_
  refine j_iload_n 0 49 rfl dJ6_bitCount_0f7a4_48 rfl rfl ?_
  refine j_bipush (63 : Int32) 51 rfl dJ6_bitCount_0f7a4_49 (by decide) ?_
  refine j_iand 52 rfl dJ6_bitCount_0f7a4_51 ?_
  exact j_iret dJ6_bitCount_0f7a4_52 rfl rfl h
