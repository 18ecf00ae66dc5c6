theorem vX8_isIn (post : Option Value → GG → Prop) (v0 : Int32) (v1 : Int32) (v2 : Int32) (G : GG) (h : (v0 < v1 → (post (some (.int (0 : Int32))) G)) ∧ (¬ v0 < v1 → ((v2 < v0 → (post (some (.int (0 : Int32))) G)) ∧ (¬ v2 < v0 → (post (some (.int (1 : Int32))) G))))) : CT kX8_isIn [.int v0, .int v1, .int v2] G post := by
  refine CT.of (by decide) (Nat.le_of_ble_eq_true rfl) ?_
  show zJ kX8_isIn post 0 [(0, .int v0), (1, .int v1), (2, .int v2)] [] G
  refine j_iload_n 0 1 rfl dX8_isIn_0 rfl rfl ?_
  refine j_iload_n 1 2 rfl dX8_isIn_1 rfl rfl ?_
  obtain ⟨hbt, hbf⟩ := h
  refine j_icmp_lt 5 14 rfl (by decide) dX8_isIn_2 (fun hc => ?_) (fun hc => ?_)
  · have h := hbt hc
    refine j_iconst (0 : Int32) 15 rfl dX8_isIn_14 (by decide) ?_
    exact j_iret dX8_isIn_15 rfl rfl h
  · have h := hbf hc
    refine j_iload_n 0 6 rfl dX8_isIn_5 rfl rfl ?_
    refine j_iload_n 2 7 rfl dX8_isIn_6 rfl rfl ?_
    obtain ⟨hbt, hbf⟩ := h
    refine j_icmp_gt 10 14 rfl (by decide) dX8_isIn_7 (fun hc => ?_) (fun hc => ?_)
    · have h := hbt hc
      refine j_iconst (0 : Int32) 15 rfl dX8_isIn_14 (by decide) ?_
      exact j_iret dX8_isIn_15 rfl rfl h
    · have h := hbf hc
      refine j_iconst (1 : Int32) 11 rfl dX8_isIn_10 (by decide) ?_
      refine j_goto 15 (by decide) dX8_isIn_11 ?_
      exact j_iret dX8_isIn_15 rfl rfl h
theorem vX8_isLine (post : Option Value → GG → Prop) (v1 : Int32) (G : GG) (h : CTi kX8_isIn [.int v1, .int (1 : Int32), .int ((G 49 0) - (1 : Int32))] G (fun r2 G1 => (zBo r2) ∧ (post (some (.int r2)) G1))) : CT kX8_isLine [.ref 49, .int v1] G post := by
  refine CT.of (by decide) (Nat.le_of_ble_eq_true rfl) ?_
  show zJ kX8_isLine post 0 [(0, .ref 49), (1, .int v1)] [] G
  refine j_iload_n 1 1 rfl dX8_isLine_0 rfl rfl ?_
  refine j_iconst (1 : Int32) 2 rfl dX8_isLine_1 (by decide) ?_
  refine j_aload_n 0 3 rfl dX8_isLine_2 rfl rfl ?_
  refine j_getI 6 rfl dX8_isLine_3 lf_X8_7 ly_49 rfl ?_
  refine j_iconst (1 : Int32) 7 rfl dX8_isLine_6 (by decide) ?_
  refine j_isub 8 rfl dX8_isLine_7 ?_
  refine j_callS (K' := kX8_isIn) (As := [.int v1, .int (1 : Int32), .int ((G 49 0) - (1 : Int32))]) (S := []) dX8_isLine_8 ll_X8_83 ok_X8_isIn ⟨by decide, by decide⟩ rfl (Nat.le_of_ble_eq_true rfl) rfl (CT.mono h (fun r G1 hr => ?_))
  obtain ⟨r2, rfl, h⟩ := hr
  show zJ kX8_isLine post 11 [(0, .ref 49), (1, .int v1)] [.int r2] G1
  obtain ⟨hbo, h⟩ := h
  exact j_iret dX8_isLine_11 rfl (zBo_n hbo) h
theorem vX8_isBreaker (post : Option Value → GG → Prop) (v1 : Int32) (G : GG) (h : CTi kX8_isLine [.ref 49, .int v1] G (fun r2 G1 => (r2 = (0 : Int32) → (post (some (.int (0 : Int32))) G1)) ∧ (¬ r2 = (0 : Int32) → ((vp_in v1 30) ∧ (((G1 56 v1.toNatClampNeg) = (0 : Int32) → (post (some (.int (0 : Int32))) G1)) ∧ (¬ (G1 56 v1.toNatClampNeg) = (0 : Int32) → (post (some (.int (1 : Int32))) G1))))))) : CT kX8_isBreaker [.ref 49, .int v1] G post := by
  refine CT.of (by decide) (Nat.le_of_ble_eq_true rfl) ?_
  show zJ kX8_isBreaker post 0 [(0, .ref 49), (1, .int v1)] [] G
  refine j_aload_n 0 1 rfl dX8_isBreaker_0 rfl rfl ?_
  refine j_iload_n 1 2 rfl dX8_isBreaker_1 rfl rfl ?_
  refine j_callV (K' := kX8_isLine) (As := [.int v1]) (S := []) dX8_isBreaker_2 ll_X8_87 ok_X8_isLine ⟨by decide, by decide⟩ ly_49 rfl rfl (Nat.le_of_ble_eq_true rfl) rfl (CT.mono h (fun r G1 hr => ?_))
  obtain ⟨r2, rfl, h⟩ := hr
  show zJ kX8_isBreaker post 5 [(0, .ref 49), (1, .int v1)] [.int r2] G1
  obtain ⟨hbt, hbf⟩ := h
  refine j_if_eq 8 21 rfl (by decide) dX8_isBreaker_5 (fun hc => ?_) (fun hc => ?_)
  · have h := hbt hc
    refine j_iconst (0 : Int32) 22 rfl dX8_isBreaker_21 (by decide) ?_
    exact j_iret dX8_isBreaker_22 rfl rfl h
  · have h := hbf hc
    refine j_aload_n 0 9 rfl dX8_isBreaker_8 rfl rfl ?_
    refine j_getR 12 rfl dX8_isBreaker_9 lf_X8_45 ly_49 rfl ?_
    refine j_iload_n 1 13 rfl dX8_isBreaker_12 rfl rfl ?_
    obtain ⟨h3, h⟩ := h
    refine j_zald 14 rfl dX8_isBreaker_13 ly_56 h3 ?_
    obtain ⟨hbt, hbf⟩ := h
    refine j_if_eq 17 21 rfl (by decide) dX8_isBreaker_14 (fun hc => ?_) (fun hc => ?_)
    · have h := hbt hc
      refine j_iconst (0 : Int32) 22 rfl dX8_isBreaker_21 (by decide) ?_
      exact j_iret dX8_isBreaker_22 rfl rfl h
    · have h := hbf hc
      refine j_iconst (1 : Int32) 18 rfl dX8_isBreaker_17 (by decide) ?_
      refine j_goto 22 (by decide) dX8_isBreaker_18 ?_
      exact j_iret dX8_isBreaker_22 rfl rfl h
theorem vX8_isFault (post : Option Value → GG → Prop) (v1 : Int32) (v2 : Int32) (v3 : Int32) (G : GG) (h : CTi kX8_isLine [.ref 49, .int v1] G (fun r2 G1 => (r2 = (0 : Int32) → (post (some (.int (0 : Int32))) G1)) ∧ (¬ r2 = (0 : Int32) → (CTi kX8_isIn [.int v2, .int (0 : Int32), .int (16 : Int32)] G1 (fun r4 G3 => (r4 = (0 : Int32) → (post (some (.int (0 : Int32))) G3)) ∧ (¬ r4 = (0 : Int32) → (CTi kX8_isIn [.int v3, .int (0 : Int32), .int (1000 : Int32)] G3 (fun r6 G5 => (r6 = (0 : Int32) → (post (some (.int (0 : Int32))) G5)) ∧ (¬ r6 = (0 : Int32) → (post (some (.int (1 : Int32))) G5)))))))))) : CT kX8_isFault [.ref 49, .int v1, .int v2, .int v3] G post := by
  refine CT.of (by decide) (Nat.le_of_ble_eq_true rfl) ?_
  show zJ kX8_isFault post 0 [(0, .ref 49), (1, .int v1), (2, .int v2), (3, .int v3)] [] G
  refine j_aload_n 0 1 rfl dX8_isFault_0 rfl rfl ?_
  refine j_iload_n 1 2 rfl dX8_isFault_1 rfl rfl ?_
  refine j_callV (K' := kX8_isLine) (As := [.int v1]) (S := []) dX8_isFault_2 ll_X8_87 ok_X8_isLine ⟨by decide, by decide⟩ ly_49 rfl rfl (Nat.le_of_ble_eq_true rfl) rfl (CT.mono h (fun r G1 hr => ?_))
  obtain ⟨r2, rfl, h⟩ := hr
  show zJ kX8_isFault post 5 [(0, .ref 49), (1, .int v1), (2, .int v2), (3, .int v3)] [.int r2] G1
  obtain ⟨hbt, hbf⟩ := h
  refine j_if_eq 8 33 rfl (by decide) dX8_isFault_5 (fun hc => ?_) (fun hc => ?_)
  · have h := hbt hc
    refine j_iconst (0 : Int32) 34 rfl dX8_isFault_33 (by decide) ?_
    exact j_iret dX8_isFault_34 rfl rfl h
  · have h := hbf hc
    refine j_iload_n 2 9 rfl dX8_isFault_8 rfl rfl ?_
    refine j_iconst (0 : Int32) 10 rfl dX8_isFault_9 (by decide) ?_
    refine j_bipush (16 : Int32) 12 rfl dX8_isFault_10 (by decide) ?_
    refine j_callS (K' := kX8_isIn) (As := [.int v2, .int (0 : Int32), .int (16 : Int32)]) (S := []) dX8_isFault_12 ll_X8_83 ok_X8_isIn ⟨by decide, by decide⟩ rfl (Nat.le_of_ble_eq_true rfl) rfl (CT.mono h (fun r G3 hr => ?_))
    obtain ⟨r4, rfl, h⟩ := hr
    show zJ kX8_isFault post 15 [(0, .ref 49), (1, .int v1), (2, .int v2), (3, .int v3)] [.int r4] G3
    obtain ⟨hbt, hbf⟩ := h
    refine j_if_eq 18 33 rfl (by decide) dX8_isFault_15 (fun hc => ?_) (fun hc => ?_)
    · have h := hbt hc
      refine j_iconst (0 : Int32) 34 rfl dX8_isFault_33 (by decide) ?_
      exact j_iret dX8_isFault_34 rfl rfl h
    · have h := hbf hc
      refine j_iload_n 3 19 rfl dX8_isFault_18 rfl rfl ?_
      refine j_iconst (0 : Int32) 20 rfl dX8_isFault_19 (by decide) ?_
      refine j_sipush (1000 : Int32) 23 rfl dX8_isFault_20 (by decide) ?_
      refine j_callS (K' := kX8_isIn) (As := [.int v3, .int (0 : Int32), .int (1000 : Int32)]) (S := []) dX8_isFault_23 ll_X8_83 ok_X8_isIn ⟨by decide, by decide⟩ rfl (Nat.le_of_ble_eq_true rfl) rfl (CT.mono h (fun r G5 hr => ?_))
      obtain ⟨r6, rfl, h⟩ := hr
      show zJ kX8_isFault post 26 [(0, .ref 49), (1, .int v1), (2, .int v2), (3, .int v3)] [.int r6] G5
      obtain ⟨hbt, hbf⟩ := h
      refine j_if_eq 29 33 rfl (by decide) dX8_isFault_26 (fun hc => ?_) (fun hc => ?_)
      · have h := hbt hc
        refine j_iconst (0 : Int32) 34 rfl dX8_isFault_33 (by decide) ?_
        exact j_iret dX8_isFault_34 rfl rfl h
      · have h := hbf hc
        refine j_iconst (1 : Int32) 30 rfl dX8_isFault_29 (by decide) ?_
        refine j_goto 34 (by decide) dX8_isFault_30 ?_
        exact j_iret dX8_isFault_34 rfl rfl h
theorem vX8_source (post : Option Value → GG → Prop) (v1 : Int32) (v2 : Int32) (G : GG) (h : CTi kX8_isIn [.int v1, .int (1 : Int32), .int (10000 : Int32)] G (fun r2 G1 => (r2 = (0 : Int32) → (post (some (.int (0 : Int32))) G1)) ∧ (¬ r2 = (0 : Int32) → (CTi kX8_isIn [.int v2, .int (1 : Int32), .int (1000 : Int32)] G1 (fun r4 G3 => (¬ r4 = (0 : Int32) → (post (some (.int (1 : Int32))) (gU (gU (gU G3 49 1 v1) 49 2 v2) 49 19 (0 : Int32)))) ∧ (r4 = (0 : Int32) → (post (some (.int (0 : Int32))) G3))))))) : CT kX8_source [.ref 49, .int v1, .int v2] G post := by
  refine CT.of (by decide) (Nat.le_of_ble_eq_true rfl) ?_
  show zJ kX8_source post 0 [(0, .ref 49), (1, .int v1), (2, .int v2)] [] G
  refine j_iload_n 1 1 rfl dX8_source_0 rfl rfl ?_
  refine j_iconst (1 : Int32) 2 rfl dX8_source_1 (by decide) ?_
  refine j_sipush (10000 : Int32) 5 rfl dX8_source_2 (by decide) ?_
  refine j_callS (K' := kX8_isIn) (As := [.int v1, .int (1 : Int32), .int (10000 : Int32)]) (S := []) dX8_source_5 ll_X8_83 ok_X8_isIn ⟨by decide, by decide⟩ rfl (Nat.le_of_ble_eq_true rfl) rfl (CT.mono h (fun r G1 hr => ?_))
  obtain ⟨r2, rfl, h⟩ := hr
  show zJ kX8_source post 8 [(0, .ref 49), (1, .int v1), (2, .int v2)] [.int r2] G1
  obtain ⟨hbt, hbf⟩ := h
  refine j_if_eq 11 22 rfl (by decide) dX8_source_8 (fun hc => ?_) (fun hc => ?_)
  · have h := hbt hc
    refine j_iconst (0 : Int32) 23 rfl dX8_source_22 (by decide) ?_
    exact j_iret dX8_source_23 rfl rfl h
  · have h := hbf hc
    refine j_iload_n 2 12 rfl dX8_source_11 rfl rfl ?_
    refine j_iconst (1 : Int32) 13 rfl dX8_source_12 (by decide) ?_
    refine j_sipush (1000 : Int32) 16 rfl dX8_source_13 (by decide) ?_
    refine j_callS (K' := kX8_isIn) (As := [.int v2, .int (1 : Int32), .int (1000 : Int32)]) (S := []) dX8_source_16 ll_X8_83 ok_X8_isIn ⟨by decide, by decide⟩ rfl (Nat.le_of_ble_eq_true rfl) rfl (CT.mono h (fun r G3 hr => ?_))
    obtain ⟨r4, rfl, h⟩ := hr
    show zJ kX8_source post 19 [(0, .ref 49), (1, .int v1), (2, .int v2)] [.int r4] G3
    obtain ⟨hbt, hbf⟩ := h
    refine j_if_ne 22 24 rfl (by decide) dX8_source_19 (fun hc => ?_) (fun hc => ?_)
    · have h := hbt hc
      refine j_aload_n 0 25 rfl dX8_source_24 rfl rfl ?_
      refine j_iload_n 1 26 rfl dX8_source_25 rfl rfl ?_
      refine j_put 29 rfl dX8_source_26 lp_X8_13 ly_49 rfl rfl rfl ?_
      refine j_aload_n 0 30 rfl dX8_source_29 rfl rfl ?_
      refine j_iload_n 2 31 rfl dX8_source_30 rfl rfl ?_
      refine j_put 34 rfl dX8_source_31 lp_X8_16 ly_49 rfl rfl rfl ?_
      refine j_aload_n 0 35 rfl dX8_source_34 rfl rfl ?_
      refine j_iconst (0 : Int32) 36 rfl dX8_source_35 (by decide) ?_
      refine j_put 39 rfl dX8_source_36 lp_X8_91 ly_49 rfl rfl rfl ?_
      refine j_iconst (1 : Int32) 40 rfl dX8_source_39 (by decide) ?_
      exact j_iret dX8_source_40 rfl rfl h
    · have h := hbf hc
      refine j_iconst (0 : Int32) 23 rfl dX8_source_22 (by decide) ?_
      exact j_iret dX8_source_23 rfl rfl h
theorem vX8_line (post : Option Value → GG → Prop) (v1 : Int32) (v2 : Int32) (G : GG) (h : CTi kX8_isIn [.int v1, .int (0 : Int32), .int ((G 49 0) - (1 : Int32))] G (fun r2 G1 => (r2 = (0 : Int32) → (post (some (.int (-1 : Int32))) G1)) ∧ (¬ r2 = (0 : Int32) → (CTi kX8_isIn [.int v2, .int (1 : Int32), .int (1000 : Int32)] G1 (fun r4 G3 => (r4 = (0 : Int32) → (post (some (.int (-1 : Int32))) G3)) ∧ (¬ r4 = (0 : Int32) → ((¬ (G3 49 0) = (30 : Int32) → ((vp_in (G3 49 0) 30) ∧ ((vp_in ((gU G3 50 (G3 49 0).toNatClampNeg v1) 49 0) 30) ∧ (post (some (.int (((gU (gU (gU (gU G3 50 (G3 49 0).toNatClampNeg v1) 51 ((gU G3 50 (G3 49 0).toNatClampNeg v1) 49 0).toNatClampNeg v2) 49 0 (((gU (gU G3 50 (G3 49 0).toNatClampNeg v1) 51 ((gU G3 50 (G3 49 0).toNatClampNeg v1) 49 0).toNatClampNeg v2) 49 0) + (1 : Int32))) 49 19 (0 : Int32)) 49 0) - (1 : Int32)))) (gU (gU (gU (gU G3 50 (G3 49 0).toNatClampNeg v1) 51 ((gU G3 50 (G3 49 0).toNatClampNeg v1) 49 0).toNatClampNeg v2) 49 0 (((gU (gU G3 50 (G3 49 0).toNatClampNeg v1) 51 ((gU G3 50 (G3 49 0).toNatClampNeg v1) 49 0).toNatClampNeg v2) 49 0) + (1 : Int32))) 49 19 (0 : Int32)))))) ∧ ((G3 49 0) = (30 : Int32) → (post (some (.int (-1 : Int32))) G3))))))))) : CT kX8_line [.ref 49, .int v1, .int v2] G post := by
  refine CT.of (by decide) (Nat.le_of_ble_eq_true rfl) ?_
  show zJ kX8_line post 0 [(0, .ref 49), (1, .int v1), (2, .int v2)] [] G
  refine j_iload_n 1 1 rfl dX8_line_0 rfl rfl ?_
  refine j_iconst (0 : Int32) 2 rfl dX8_line_1 (by decide) ?_
  refine j_aload_n 0 3 rfl dX8_line_2 rfl rfl ?_
  refine j_getI 6 rfl dX8_line_3 lf_X8_7 ly_49 rfl ?_
  refine j_iconst (1 : Int32) 7 rfl dX8_line_6 (by decide) ?_
  refine j_isub 8 rfl dX8_line_7 ?_
  refine j_callS (K' := kX8_isIn) (As := [.int v1, .int (0 : Int32), .int ((G 49 0) - (1 : Int32))]) (S := []) dX8_line_8 ll_X8_83 ok_X8_isIn ⟨by decide, by decide⟩ rfl (Nat.le_of_ble_eq_true rfl) rfl (CT.mono h (fun r G1 hr => ?_))
  obtain ⟨r2, rfl, h⟩ := hr
  show zJ kX8_line post 11 [(0, .ref 49), (1, .int v1), (2, .int v2)] [.int r2] G1
  obtain ⟨hbt, hbf⟩ := h
  refine j_if_eq 14 34 rfl (by decide) dX8_line_11 (fun hc => ?_) (fun hc => ?_)
  · have h := hbt hc
    refine j_iconst (-1 : Int32) 35 rfl dX8_line_34 (by decide) ?_
    exact j_iret dX8_line_35 rfl rfl h
  · have h := hbf hc
    refine j_iload_n 2 15 rfl dX8_line_14 rfl rfl ?_
    refine j_iconst (1 : Int32) 16 rfl dX8_line_15 (by decide) ?_
    refine j_sipush (1000 : Int32) 19 rfl dX8_line_16 (by decide) ?_
    refine j_callS (K' := kX8_isIn) (As := [.int v2, .int (1 : Int32), .int (1000 : Int32)]) (S := []) dX8_line_19 ll_X8_83 ok_X8_isIn ⟨by decide, by decide⟩ rfl (Nat.le_of_ble_eq_true rfl) rfl (CT.mono h (fun r G3 hr => ?_))
    obtain ⟨r4, rfl, h⟩ := hr
    show zJ kX8_line post 22 [(0, .ref 49), (1, .int v1), (2, .int v2)] [.int r4] G3
    obtain ⟨hbt, hbf⟩ := h
    refine j_if_eq 25 34 rfl (by decide) dX8_line_22 (fun hc => ?_) (fun hc => ?_)
    · have h := hbt hc
      refine j_iconst (-1 : Int32) 35 rfl dX8_line_34 (by decide) ?_
      exact j_iret dX8_line_35 rfl rfl h
    · have h := hbf hc
      refine j_aload_n 0 26 rfl dX8_line_25 rfl rfl ?_
      refine j_getI 29 rfl dX8_line_26 lf_X8_7 ly_49 rfl ?_
      refine j_bipush (30 : Int32) 31 rfl dX8_line_29 (by decide) ?_
      obtain ⟨hbt, hbf⟩ := h
      refine j_icmp_ne 34 36 rfl (by decide) dX8_line_31 (fun hc => ?_) (fun hc => ?_)
      · have h := hbt hc
        refine j_aload_n 0 37 rfl dX8_line_36 rfl rfl ?_
        refine j_getR 40 rfl dX8_line_37 lf_X8_26 ly_49 rfl ?_
        refine j_aload_n 0 41 rfl dX8_line_40 rfl rfl ?_
        refine j_getI 44 rfl dX8_line_41 lf_X8_7 ly_49 rfl ?_
        refine j_iload_n 1 45 rfl dX8_line_44 rfl rfl ?_
        obtain ⟨h5, h⟩ := h
        refine j_iast 46 rfl dX8_line_45 ly_50 h5 ?_
        refine j_aload_n 0 47 rfl dX8_line_46 rfl rfl ?_
        refine j_getR 50 rfl dX8_line_47 lf_X8_30 ly_49 rfl ?_
        refine j_aload_n 0 51 rfl dX8_line_50 rfl rfl ?_
        refine j_getI 54 rfl dX8_line_51 lf_X8_7 ly_49 rfl ?_
        refine j_iload_n 2 55 rfl dX8_line_54 rfl rfl ?_
        obtain ⟨h6, h⟩ := h
        refine j_iast 56 rfl dX8_line_55 ly_51 h6 ?_
        refine j_aload_n 0 57 rfl dX8_line_56 rfl rfl ?_
        refine j_dup 58 rfl dX8_line_57 rfl ?_
        refine j_getI 61 rfl dX8_line_58 lf_X8_7 ly_49 rfl ?_
        refine j_iconst (1 : Int32) 62 rfl dX8_line_61 (by decide) ?_
        refine j_iadd 63 rfl dX8_line_62 ?_
        refine j_put 66 rfl dX8_line_63 lp_X8_7 ly_49 rfl rfl rfl ?_
        refine j_aload_n 0 67 rfl dX8_line_66 rfl rfl ?_
        refine j_iconst (0 : Int32) 68 rfl dX8_line_67 (by decide) ?_
        refine j_put 71 rfl dX8_line_68 lp_X8_91 ly_49 rfl rfl rfl ?_
        refine j_aload_n 0 72 rfl dX8_line_71 rfl rfl ?_
        refine j_getI 75 rfl dX8_line_72 lf_X8_7 ly_49 rfl ?_
        refine j_iconst (1 : Int32) 76 rfl dX8_line_75 (by decide) ?_
        refine j_isub 77 rfl dX8_line_76 ?_
        exact j_iret dX8_line_77 rfl rfl h
      · have h := hbf hc
        refine j_iconst (-1 : Int32) 35 rfl dX8_line_34 (by decide) ?_
        exact j_iret dX8_line_35 rfl rfl h
theorem vX8_load (post : Option Value → GG → Prop) (v1 : Int32) (v2 : Int32) (G : GG) (h : CTi kX8_isIn [.int v1, .int (0 : Int32), .int ((G 49 0) - (1 : Int32))] G (fun r2 G1 => (r2 = (0 : Int32) → (post (some (.int (0 : Int32))) G1)) ∧ (¬ r2 = (0 : Int32) → (CTi kX8_isIn [.int v2, .int (0 : Int32), .int (1000 : Int32)] G1 (fun r4 G3 => (¬ r4 = (0 : Int32) → ((vp_in v1 30) ∧ (post (some (.int (1 : Int32))) (gU (gU G3 52 v1.toNatClampNeg v2) 49 19 (0 : Int32))))) ∧ (r4 = (0 : Int32) → (post (some (.int (0 : Int32))) G3))))))) : CT kX8_load [.ref 49, .int v1, .int v2] G post := by
  refine CT.of (by decide) (Nat.le_of_ble_eq_true rfl) ?_
  show zJ kX8_load post 0 [(0, .ref 49), (1, .int v1), (2, .int v2)] [] G
  refine j_iload_n 1 1 rfl dX8_load_0 rfl rfl ?_
  refine j_iconst (0 : Int32) 2 rfl dX8_load_1 (by decide) ?_
  refine j_aload_n 0 3 rfl dX8_load_2 rfl rfl ?_
  refine j_getI 6 rfl dX8_load_3 lf_X8_7 ly_49 rfl ?_
  refine j_iconst (1 : Int32) 7 rfl dX8_load_6 (by decide) ?_
  refine j_isub 8 rfl dX8_load_7 ?_
  refine j_callS (K' := kX8_isIn) (As := [.int v1, .int (0 : Int32), .int ((G 49 0) - (1 : Int32))]) (S := []) dX8_load_8 ll_X8_83 ok_X8_isIn ⟨by decide, by decide⟩ rfl (Nat.le_of_ble_eq_true rfl) rfl (CT.mono h (fun r G1 hr => ?_))
  obtain ⟨r2, rfl, h⟩ := hr
  show zJ kX8_load post 11 [(0, .ref 49), (1, .int v1), (2, .int v2)] [.int r2] G1
  obtain ⟨hbt, hbf⟩ := h
  refine j_if_eq 14 25 rfl (by decide) dX8_load_11 (fun hc => ?_) (fun hc => ?_)
  · have h := hbt hc
    refine j_iconst (0 : Int32) 26 rfl dX8_load_25 (by decide) ?_
    exact j_iret dX8_load_26 rfl rfl h
  · have h := hbf hc
    refine j_iload_n 2 15 rfl dX8_load_14 rfl rfl ?_
    refine j_iconst (0 : Int32) 16 rfl dX8_load_15 (by decide) ?_
    refine j_sipush (1000 : Int32) 19 rfl dX8_load_16 (by decide) ?_
    refine j_callS (K' := kX8_isIn) (As := [.int v2, .int (0 : Int32), .int (1000 : Int32)]) (S := []) dX8_load_19 ll_X8_83 ok_X8_isIn ⟨by decide, by decide⟩ rfl (Nat.le_of_ble_eq_true rfl) rfl (CT.mono h (fun r G3 hr => ?_))
    obtain ⟨r4, rfl, h⟩ := hr
    show zJ kX8_load post 22 [(0, .ref 49), (1, .int v1), (2, .int v2)] [.int r4] G3
    obtain ⟨hbt, hbf⟩ := h
    refine j_if_ne 25 27 rfl (by decide) dX8_load_22 (fun hc => ?_) (fun hc => ?_)
    · have h := hbt hc
      refine j_aload_n 0 28 rfl dX8_load_27 rfl rfl ?_
      refine j_getR 31 rfl dX8_load_28 lf_X8_33 ly_49 rfl ?_
      refine j_iload_n 1 32 rfl dX8_load_31 rfl rfl ?_
      refine j_iload_n 2 33 rfl dX8_load_32 rfl rfl ?_
      obtain ⟨h5, h⟩ := h
      refine j_iast 34 rfl dX8_load_33 ly_52 h5 ?_
      refine j_aload_n 0 35 rfl dX8_load_34 rfl rfl ?_
      refine j_iconst (0 : Int32) 36 rfl dX8_load_35 (by decide) ?_
      refine j_put 39 rfl dX8_load_36 lp_X8_91 ly_49 rfl rfl rfl ?_
      refine j_iconst (1 : Int32) 40 rfl dX8_load_39 (by decide) ?_
      exact j_iret dX8_load_40 rfl rfl h
    · have h := hbf hc
      refine j_iconst (0 : Int32) 26 rfl dX8_load_25 (by decide) ?_
      exact j_iret dX8_load_26 rfl rfl h
theorem vX8_corner (post : Option Value → GG → Prop) (v1 : Int32) (v2 : Int32) (v3 : Int32) (G : GG) (h : CTi kX8_isIn [.int v1, .int (0 : Int32), .int (7 : Int32)] G (fun r2 G1 => (r2 = (0 : Int32) → (post (some (.int (-1 : Int32))) G1)) ∧ (¬ r2 = (0 : Int32) → (CTi kX8_isIn [.int v2, .int (10 : Int32), .int (1000 : Int32)] G1 (fun r4 G3 => (r4 = (0 : Int32) → (post (some (.int (-1 : Int32))) G3)) ∧ (¬ r4 = (0 : Int32) → (CTi kX8_isIn [.int v3, .int (1 : Int32), .int (1000 : Int32)] G3 (fun r6 G5 => (r6 = (0 : Int32) → (post (some (.int (-1 : Int32))) G5)) ∧ (¬ r6 = (0 : Int32) → ((vp_in v1 8) ∧ ((¬ (G5 53 v1.toNatClampNeg) = (8 : Int32) → ((vp_in v1 8) ∧ ((vp_in v1 8) ∧ (((G5 53 v1.toNatClampNeg) ≤ (0 : Int32) → (zJ kX8_corner post 96 [(0, .ref 49), (1, .int v1), (2, .int v2), (3, .int v3), (4, .int (((8 : Int32) * v1) + (G5 53 v1.toNatClampNeg)))] [] G5)) ∧ (¬ (G5 53 v1.toNatClampNeg) ≤ (0 : Int32) → ((vp_in ((((8 : Int32) * v1) + (G5 53 v1.toNatClampNeg)) - (1 : Int32)) 64) ∧ ((v2 ≤ (G5 54 ((((8 : Int32) * v1) + (G5 53 v1.toNatClampNeg)) - (1 : Int32)).toNatClampNeg) → (post (some (.int (-1 : Int32))) G5)) ∧ (¬ v2 ≤ (G5 54 ((((8 : Int32) * v1) + (G5 53 v1.toNatClampNeg)) - (1 : Int32)).toNatClampNeg) → ((vp_in ((((8 : Int32) * v1) + (G5 53 v1.toNatClampNeg)) - (1 : Int32)) 64) ∧ ((v3 < (G5 55 ((((8 : Int32) * v1) + (G5 53 v1.toNatClampNeg)) - (1 : Int32)).toNatClampNeg) → (zJ kX8_corner post 96 [(0, .ref 49), (1, .int v1), (2, .int v2), (3, .int v3), (4, .int (((8 : Int32) * v1) + (G5 53 v1.toNatClampNeg)))] [] G5)) ∧ (¬ v3 < (G5 55 ((((8 : Int32) * v1) + (G5 53 v1.toNatClampNeg)) - (1 : Int32)).toNatClampNeg) → (post (some (.int (-1 : Int32))) G5)))))))))))) ∧ ((G5 53 v1.toNatClampNeg) = (8 : Int32) → (post (some (.int (-1 : Int32))) G5))))))))))))) : CT kX8_corner [.ref 49, .int v1, .int v2, .int v3] G post := by
  refine CT.of (by decide) (Nat.le_of_ble_eq_true rfl) ?_
  show zJ kX8_corner post 0 [(0, .ref 49), (1, .int v1), (2, .int v2), (3, .int v3)] [] G
  refine j_iload_n 1 1 rfl dX8_corner_0 rfl rfl ?_
  refine j_iconst (0 : Int32) 2 rfl dX8_corner_1 (by decide) ?_
  refine j_bipush (7 : Int32) 4 rfl dX8_corner_2 (by decide) ?_
  refine j_callS (K' := kX8_isIn) (As := [.int v1, .int (0 : Int32), .int (7 : Int32)]) (S := []) dX8_corner_4 ll_X8_83 ok_X8_isIn ⟨by decide, by decide⟩ rfl (Nat.le_of_ble_eq_true rfl) rfl (CT.mono h (fun r G1 hr => ?_))
  obtain ⟨r2, rfl, h⟩ := hr
  show zJ kX8_corner post 7 [(0, .ref 49), (1, .int v1), (2, .int v2), (3, .int v3)] [.int r2] G1
  obtain ⟨hbt, hbf⟩ := h
  refine j_if_eq 10 44 rfl (by decide) dX8_corner_7 (fun hc => ?_) (fun hc => ?_)
  · have h := hbt hc
    refine j_iconst (-1 : Int32) 45 rfl dX8_corner_44 (by decide) ?_
    exact j_iret dX8_corner_45 rfl rfl h
  · have h := hbf hc
    refine j_iload_n 2 11 rfl dX8_corner_10 rfl rfl ?_
    refine j_bipush (10 : Int32) 13 rfl dX8_corner_11 (by decide) ?_
    refine j_sipush (1000 : Int32) 16 rfl dX8_corner_13 (by decide) ?_
    refine j_callS (K' := kX8_isIn) (As := [.int v2, .int (10 : Int32), .int (1000 : Int32)]) (S := []) dX8_corner_16 ll_X8_83 ok_X8_isIn ⟨by decide, by decide⟩ rfl (Nat.le_of_ble_eq_true rfl) rfl (CT.mono h (fun r G3 hr => ?_))
    obtain ⟨r4, rfl, h⟩ := hr
    show zJ kX8_corner post 19 [(0, .ref 49), (1, .int v1), (2, .int v2), (3, .int v3)] [.int r4] G3
    obtain ⟨hbt, hbf⟩ := h
    refine j_if_eq 22 44 rfl (by decide) dX8_corner_19 (fun hc => ?_) (fun hc => ?_)
    · have h := hbt hc
      refine j_iconst (-1 : Int32) 45 rfl dX8_corner_44 (by decide) ?_
      exact j_iret dX8_corner_45 rfl rfl h
    · have h := hbf hc
      refine j_iload_n 3 23 rfl dX8_corner_22 rfl rfl ?_
      refine j_iconst (1 : Int32) 24 rfl dX8_corner_23 (by decide) ?_
      refine j_sipush (1000 : Int32) 27 rfl dX8_corner_24 (by decide) ?_
      refine j_callS (K' := kX8_isIn) (As := [.int v3, .int (1 : Int32), .int (1000 : Int32)]) (S := []) dX8_corner_27 ll_X8_83 ok_X8_isIn ⟨by decide, by decide⟩ rfl (Nat.le_of_ble_eq_true rfl) rfl (CT.mono h (fun r G5 hr => ?_))
      obtain ⟨r6, rfl, h⟩ := hr
      show zJ kX8_corner post 30 [(0, .ref 49), (1, .int v1), (2, .int v2), (3, .int v3)] [.int r6] G5
      obtain ⟨hbt, hbf⟩ := h
      refine j_if_eq 33 44 rfl (by decide) dX8_corner_30 (fun hc => ?_) (fun hc => ?_)
      · have h := hbt hc
        refine j_iconst (-1 : Int32) 45 rfl dX8_corner_44 (by decide) ?_
        exact j_iret dX8_corner_45 rfl rfl h
      · have h := hbf hc
        refine j_aload_n 0 34 rfl dX8_corner_33 rfl rfl ?_
        refine j_getR 37 rfl dX8_corner_34 lf_X8_36 ly_49 rfl ?_
        refine j_iload_n 1 38 rfl dX8_corner_37 rfl rfl ?_
        obtain ⟨h7, h⟩ := h
        refine j_iald 39 rfl dX8_corner_38 ly_53 h7 ?_
        refine j_bipush (8 : Int32) 41 rfl dX8_corner_39 (by decide) ?_
        obtain ⟨hbt, hbf⟩ := h
        refine j_icmp_ne 44 46 rfl (by decide) dX8_corner_41 (fun hc => ?_) (fun hc => ?_)
        · have h := hbt hc
          refine j_bipush (8 : Int32) 48 rfl dX8_corner_46 (by decide) ?_
          refine j_iload_n 1 49 rfl dX8_corner_48 rfl rfl ?_
          refine j_imul 50 rfl dX8_corner_49 ?_
          refine j_aload_n 0 51 rfl dX8_corner_50 rfl rfl ?_
          refine j_getR 54 rfl dX8_corner_51 lf_X8_36 ly_49 rfl ?_
          refine j_iload_n 1 55 rfl dX8_corner_54 rfl rfl ?_
          obtain ⟨h8, h⟩ := h
          refine j_iald 56 rfl dX8_corner_55 ly_53 h8 ?_
          refine j_iadd 57 rfl dX8_corner_56 ?_
          refine j_istore [(0, .ref 49), (1, .int v1), (2, .int v2), (3, .int v3), (4, .int (((8 : Int32) * v1) + (G5 53 v1.toNatClampNeg)))] 59 rfl dX8_corner_57 (by decide) rfl ?_
          refine j_aload_n 0 60 rfl dX8_corner_59 rfl rfl ?_
          refine j_getR 63 rfl dX8_corner_60 lf_X8_36 ly_49 rfl ?_
          refine j_iload_n 1 64 rfl dX8_corner_63 rfl rfl ?_
          obtain ⟨h9, h⟩ := h
          refine j_iald 65 rfl dX8_corner_64 ly_53 h9 ?_
          obtain ⟨hbt, hbf⟩ := h
          refine j_if_le 68 96 rfl (by decide) dX8_corner_65 (fun hc => ?_) (fun hc => ?_)
          · have h := hbt hc
            exact h
          · have h := hbf hc
            refine j_aload_n 0 69 rfl dX8_corner_68 rfl rfl ?_
            refine j_getR 72 rfl dX8_corner_69 lf_X8_39 ly_49 rfl ?_
            refine j_iload 4 74 rfl dX8_corner_72 rfl ?_
            refine j_iconst (1 : Int32) 75 rfl dX8_corner_74 (by decide) ?_
            refine j_isub 76 rfl dX8_corner_75 ?_
            obtain ⟨h10, h⟩ := h
            refine j_iald 77 rfl dX8_corner_76 ly_54 h10 ?_
            refine j_iload_n 2 78 rfl dX8_corner_77 rfl rfl ?_
            obtain ⟨hbt, hbf⟩ := h
            refine j_icmp_ge 81 94 rfl (by decide) dX8_corner_78 (fun hc => ?_) (fun hc => ?_)
            · have h := hbt hc
              refine j_iconst (-1 : Int32) 95 rfl dX8_corner_94 (by decide) ?_
              exact j_iret dX8_corner_95 rfl rfl h
            · have h := hbf hc
              refine j_aload_n 0 82 rfl dX8_corner_81 rfl rfl ?_
              refine j_getR 85 rfl dX8_corner_82 lf_X8_42 ly_49 rfl ?_
              refine j_iload 4 87 rfl dX8_corner_85 rfl ?_
              refine j_iconst (1 : Int32) 88 rfl dX8_corner_87 (by decide) ?_
              refine j_isub 89 rfl dX8_corner_88 ?_
              obtain ⟨h11, h⟩ := h
              refine j_iald 90 rfl dX8_corner_89 ly_55 h11 ?_
              refine j_iload_n 3 91 rfl dX8_corner_90 rfl rfl ?_
              obtain ⟨hbt, hbf⟩ := h
              refine j_icmp_gt 94 96 rfl (by decide) dX8_corner_91 (fun hc => ?_) (fun hc => ?_)
              · have h := hbt hc
                exact h
              · have h := hbf hc
                refine j_iconst (-1 : Int32) 95 rfl dX8_corner_94 (by decide) ?_
                exact j_iret dX8_corner_95 rfl rfl h
        · have h := hbf hc
          refine j_iconst (-1 : Int32) 45 rfl dX8_corner_44 (by decide) ?_
          exact j_iret dX8_corner_45 rfl rfl h
theorem vX8_corner_96 (post : Option Value → GG → Prop) (v1 : Int32) (v2 : Int32) (v3 : Int32) (v4 : Int32) (G : GG) (h : (vp_in v4 64) ∧ ((vp_in v4 64) ∧ ((vp_in v1 8) ∧ ((vp_in v1 8) ∧ ((vp_in v1 8) ∧ (post (some (.int ((gU (gU (gU (gU G 54 v4.toNatClampNeg v2) 55 v4.toNatClampNeg v3) 53 v1.toNatClampNeg (((gU (gU G 54 v4.toNatClampNeg v2) 55 v4.toNatClampNeg v3) 53 v1.toNatClampNeg) + (1 : Int32))) 49 19 (0 : Int32)) 53 v1.toNatClampNeg))) (gU (gU (gU (gU G 54 v4.toNatClampNeg v2) 55 v4.toNatClampNeg v3) 53 v1.toNatClampNeg (((gU (gU G 54 v4.toNatClampNeg v2) 55 v4.toNatClampNeg v3) 53 v1.toNatClampNeg) + (1 : Int32))) 49 19 (0 : Int32)))))))) : zJ kX8_corner post 96 [(0, .ref 49), (1, .int v1), (2, .int v2), (3, .int v3), (4, .int v4)] [] G := by
  refine j_aload_n 0 97 rfl dX8_corner_96 rfl rfl ?_
  refine j_getR 100 rfl dX8_corner_97 lf_X8_39 ly_49 rfl ?_
  refine j_iload 4 102 rfl dX8_corner_100 rfl ?_
  refine j_iload_n 2 103 rfl dX8_corner_102 rfl rfl ?_
  obtain ⟨h1, h⟩ := h
  refine j_iast 104 rfl dX8_corner_103 ly_54 h1 ?_
  refine j_aload_n 0 105 rfl dX8_corner_104 rfl rfl ?_
  refine j_getR 108 rfl dX8_corner_105 lf_X8_42 ly_49 rfl ?_
  refine j_iload 4 110 rfl dX8_corner_108 rfl ?_
  refine j_iload_n 3 111 rfl dX8_corner_110 rfl rfl ?_
  obtain ⟨h2, h⟩ := h
  refine j_iast 112 rfl dX8_corner_111 ly_55 h2 ?_
  refine j_aload_n 0 113 rfl dX8_corner_112 rfl rfl ?_
  refine j_getR 116 rfl dX8_corner_113 lf_X8_36 ly_49 rfl ?_
  refine j_iload_n 1 117 rfl dX8_corner_116 rfl rfl ?_
  refine j_dup2 118 rfl dX8_corner_117 rfl rfl ?_
  obtain ⟨h3, h⟩ := h
  refine j_iald 119 rfl dX8_corner_118 ly_53 h3 ?_
  refine j_iconst (1 : Int32) 120 rfl dX8_corner_119 (by decide) ?_
  refine j_iadd 121 rfl dX8_corner_120 ?_
  obtain ⟨h4, h⟩ := h
  refine j_iast 122 rfl dX8_corner_121 ly_53 h4 ?_
  refine j_aload_n 0 123 rfl dX8_corner_122 rfl rfl ?_
  refine j_iconst (0 : Int32) 124 rfl dX8_corner_123 (by decide) ?_
  refine j_put 127 rfl dX8_corner_124 lp_X8_91 ly_49 rfl rfl rfl ?_
  refine j_aload_n 0 128 rfl dX8_corner_127 rfl rfl ?_
  refine j_getR 131 rfl dX8_corner_128 lf_X8_36 ly_49 rfl ?_
  refine j_iload_n 1 132 rfl dX8_corner_131 rfl rfl ?_
  obtain ⟨h5, h⟩ := h
  refine j_iald 133 rfl dX8_corner_132 ly_53 h5 ?_
  exact j_iret dX8_corner_133 rfl rfl h
theorem vX8_breaker (post : Option Value → GG → Prop) (v1 : Int32) (v2 : Int32) (v3 : Int32) (v4 : Int32) (G : GG) (h : CTi kX8_isLine [.ref 49, .int v1] G (fun r2 G1 => (r2 = (0 : Int32) → (post (some (.int (0 : Int32))) G1)) ∧ (¬ r2 = (0 : Int32) → (CTi kX8_isIn [.int v2, .int (0 : Int32), .int (7 : Int32)] G1 (fun r4 G3 => (r4 = (0 : Int32) → (post (some (.int (0 : Int32))) G3)) ∧ (¬ r4 = (0 : Int32) → (CTi kX8_isIn [.int v3, .int (1 : Int32), .int (40 : Int32)] G3 (fun r6 G5 => (r6 = (0 : Int32) → (post (some (.int (0 : Int32))) G5)) ∧ (¬ r6 = (0 : Int32) → (CTi kX8_isIn [.int v4, .int (1 : Int32), .int (10000 : Int32)] G5 (fun r8 G7 => (¬ r8 = (0 : Int32) → ((vp_in v1 30) ∧ ((vp_in v1 30) ∧ ((vp_in v1 30) ∧ ((vp_in v1 30) ∧ ((vp_in v1 30) ∧ ((vp_in v1 30) ∧ (post (some (.int (1 : Int32))) (gU (gU (gU (gU (gU (gU (gU G7 56 v1.toNatClampNeg (1 : Int32)) 57 v1.toNatClampNeg v2) 58 v1.toNatClampNeg v3) 59 v1.toNatClampNeg v4) 60 v1.toNatClampNeg (0 : Int32)) 61 v1.toNatClampNeg (-1 : Int32)) 49 19 (0 : Int32)))))))))) ∧ (r8 = (0 : Int32) → (post (some (.int (0 : Int32))) G7))))))))))))) : CT kX8_breaker [.ref 49, .int v1, .int v2, .int v3, .int v4] G post := by
  refine CT.of (by decide) (Nat.le_of_ble_eq_true rfl) ?_
  show zJ kX8_breaker post 0 [(0, .ref 49), (1, .int v1), (2, .int v2), (3, .int v3), (4, .int v4)] [] G
  refine j_aload_n 0 1 rfl dX8_breaker_0 rfl rfl ?_
  refine j_iload_n 1 2 rfl dX8_breaker_1 rfl rfl ?_
  refine j_callV (K' := kX8_isLine) (As := [.int v1]) (S := []) dX8_breaker_2 ll_X8_87 ok_X8_isLine ⟨by decide, by decide⟩ ly_49 rfl rfl (Nat.le_of_ble_eq_true rfl) rfl (CT.mono h (fun r G1 hr => ?_))
  obtain ⟨r2, rfl, h⟩ := hr
  show zJ kX8_breaker post 5 [(0, .ref 49), (1, .int v1), (2, .int v2), (3, .int v3), (4, .int v4)] [.int r2] G1
  obtain ⟨hbt, hbf⟩ := h
  refine j_if_eq 8 40 rfl (by decide) dX8_breaker_5 (fun hc => ?_) (fun hc => ?_)
  · have h := hbt hc
    refine j_iconst (0 : Int32) 41 rfl dX8_breaker_40 (by decide) ?_
    exact j_iret dX8_breaker_41 rfl rfl h
  · have h := hbf hc
    refine j_iload_n 2 9 rfl dX8_breaker_8 rfl rfl ?_
    refine j_iconst (0 : Int32) 10 rfl dX8_breaker_9 (by decide) ?_
    refine j_bipush (7 : Int32) 12 rfl dX8_breaker_10 (by decide) ?_
    refine j_callS (K' := kX8_isIn) (As := [.int v2, .int (0 : Int32), .int (7 : Int32)]) (S := []) dX8_breaker_12 ll_X8_83 ok_X8_isIn ⟨by decide, by decide⟩ rfl (Nat.le_of_ble_eq_true rfl) rfl (CT.mono h (fun r G3 hr => ?_))
    obtain ⟨r4, rfl, h⟩ := hr
    show zJ kX8_breaker post 15 [(0, .ref 49), (1, .int v1), (2, .int v2), (3, .int v3), (4, .int v4)] [.int r4] G3
    obtain ⟨hbt, hbf⟩ := h
    refine j_if_eq 18 40 rfl (by decide) dX8_breaker_15 (fun hc => ?_) (fun hc => ?_)
    · have h := hbt hc
      refine j_iconst (0 : Int32) 41 rfl dX8_breaker_40 (by decide) ?_
      exact j_iret dX8_breaker_41 rfl rfl h
    · have h := hbf hc
      refine j_iload_n 3 19 rfl dX8_breaker_18 rfl rfl ?_
      refine j_iconst (1 : Int32) 20 rfl dX8_breaker_19 (by decide) ?_
      refine j_bipush (40 : Int32) 22 rfl dX8_breaker_20 (by decide) ?_
      refine j_callS (K' := kX8_isIn) (As := [.int v3, .int (1 : Int32), .int (40 : Int32)]) (S := []) dX8_breaker_22 ll_X8_83 ok_X8_isIn ⟨by decide, by decide⟩ rfl (Nat.le_of_ble_eq_true rfl) rfl (CT.mono h (fun r G5 hr => ?_))
      obtain ⟨r6, rfl, h⟩ := hr
      show zJ kX8_breaker post 25 [(0, .ref 49), (1, .int v1), (2, .int v2), (3, .int v3), (4, .int v4)] [.int r6] G5
      obtain ⟨hbt, hbf⟩ := h
      refine j_if_eq 28 40 rfl (by decide) dX8_breaker_25 (fun hc => ?_) (fun hc => ?_)
      · have h := hbt hc
        refine j_iconst (0 : Int32) 41 rfl dX8_breaker_40 (by decide) ?_
        exact j_iret dX8_breaker_41 rfl rfl h
      · have h := hbf hc
        refine j_iload 4 30 rfl dX8_breaker_28 rfl ?_
        refine j_iconst (1 : Int32) 31 rfl dX8_breaker_30 (by decide) ?_
        refine j_sipush (10000 : Int32) 34 rfl dX8_breaker_31 (by decide) ?_
        refine j_callS (K' := kX8_isIn) (As := [.int v4, .int (1 : Int32), .int (10000 : Int32)]) (S := []) dX8_breaker_34 ll_X8_83 ok_X8_isIn ⟨by decide, by decide⟩ rfl (Nat.le_of_ble_eq_true rfl) rfl (CT.mono h (fun r G7 hr => ?_))
        obtain ⟨r8, rfl, h⟩ := hr
        show zJ kX8_breaker post 37 [(0, .ref 49), (1, .int v1), (2, .int v2), (3, .int v3), (4, .int v4)] [.int r8] G7
        obtain ⟨hbt, hbf⟩ := h
        refine j_if_ne 40 42 rfl (by decide) dX8_breaker_37 (fun hc => ?_) (fun hc => ?_)
        · have h := hbt hc
          refine j_aload_n 0 43 rfl dX8_breaker_42 rfl rfl ?_
          refine j_getR 46 rfl dX8_breaker_43 lf_X8_45 ly_49 rfl ?_
          refine j_iload_n 1 47 rfl dX8_breaker_46 rfl rfl ?_
          refine j_iconst (1 : Int32) 48 rfl dX8_breaker_47 (by decide) ?_
          obtain ⟨h9, h⟩ := h
          refine j_zast 49 rfl dX8_breaker_48 ly_56 h9 rfl ?_
          refine j_aload_n 0 50 rfl dX8_breaker_49 rfl rfl ?_
          refine j_getR 53 rfl dX8_breaker_50 lf_X8_49 ly_49 rfl ?_
          refine j_iload_n 1 54 rfl dX8_breaker_53 rfl rfl ?_
          refine j_iload_n 2 55 rfl dX8_breaker_54 rfl rfl ?_
          obtain ⟨h10, h⟩ := h
          refine j_iast 56 rfl dX8_breaker_55 ly_57 h10 ?_
          refine j_aload_n 0 57 rfl dX8_breaker_56 rfl rfl ?_
          refine j_getR 60 rfl dX8_breaker_57 lf_X8_52 ly_49 rfl ?_
          refine j_iload_n 1 61 rfl dX8_breaker_60 rfl rfl ?_
          refine j_iload_n 3 62 rfl dX8_breaker_61 rfl rfl ?_
          obtain ⟨h11, h⟩ := h
          refine j_iast 63 rfl dX8_breaker_62 ly_58 h11 ?_
          refine j_aload_n 0 64 rfl dX8_breaker_63 rfl rfl ?_
          refine j_getR 67 rfl dX8_breaker_64 lf_X8_55 ly_49 rfl ?_
          refine j_iload_n 1 68 rfl dX8_breaker_67 rfl rfl ?_
          refine j_iload 4 70 rfl dX8_breaker_68 rfl ?_
          obtain ⟨h12, h⟩ := h
          refine j_iast 71 rfl dX8_breaker_70 ly_59 h12 ?_
          refine j_aload_n 0 72 rfl dX8_breaker_71 rfl rfl ?_
          refine j_getR 75 rfl dX8_breaker_72 lf_X8_58 ly_49 rfl ?_
          refine j_iload_n 1 76 rfl dX8_breaker_75 rfl rfl ?_
          refine j_iconst (0 : Int32) 77 rfl dX8_breaker_76 (by decide) ?_
          obtain ⟨h13, h⟩ := h
          refine j_zast 78 rfl dX8_breaker_77 ly_60 h13 rfl ?_
          refine j_aload_n 0 79 rfl dX8_breaker_78 rfl rfl ?_
          refine j_getR 82 rfl dX8_breaker_79 lf_X8_61 ly_49 rfl ?_
          refine j_iload_n 1 83 rfl dX8_breaker_82 rfl rfl ?_
          refine j_iconst (-1 : Int32) 84 rfl dX8_breaker_83 (by decide) ?_
          obtain ⟨h14, h⟩ := h
          refine j_iast 85 rfl dX8_breaker_84 ly_61 h14 ?_
          refine j_aload_n 0 86 rfl dX8_breaker_85 rfl rfl ?_
          refine j_iconst (0 : Int32) 87 rfl dX8_breaker_86 (by decide) ?_
          refine j_put 90 rfl dX8_breaker_87 lp_X8_91 ly_49 rfl rfl rfl ?_
          refine j_iconst (1 : Int32) 91 rfl dX8_breaker_90 (by decide) ?_
          exact j_iret dX8_breaker_91 rfl rfl h
        · have h := hbf hc
          refine j_iconst (0 : Int32) 41 rfl dX8_breaker_40 (by decide) ?_
          exact j_iret dX8_breaker_41 rfl rfl h
theorem vX8_remove (post : Option Value → GG → Prop) (v1 : Int32) (G : GG) (h : CTi kX8_isBreaker [.ref 49, .int v1] G (fun r2 G1 => (¬ r2 = (0 : Int32) → ((vp_in v1 30) ∧ ((vp_in v1 30) ∧ (post (some (.int (1 : Int32))) (gU (gU (gU G1 56 v1.toNatClampNeg (0 : Int32)) 61 v1.toNatClampNeg (-1 : Int32)) 49 19 (0 : Int32)))))) ∧ (r2 = (0 : Int32) → (post (some (.int (0 : Int32))) G1)))) : CT kX8_remove [.ref 49, .int v1] G post := by
  refine CT.of (by decide) (Nat.le_of_ble_eq_true rfl) ?_
  show zJ kX8_remove post 0 [(0, .ref 49), (1, .int v1)] [] G
  refine j_aload_n 0 1 rfl dX8_remove_0 rfl rfl ?_
  refine j_iload_n 1 2 rfl dX8_remove_1 rfl rfl ?_
  refine j_callV (K' := kX8_isBreaker) (As := [.int v1]) (S := []) dX8_remove_2 ll_X8_95 ok_X8_isBreaker ⟨by decide, by decide⟩ ly_49 rfl rfl (Nat.le_of_ble_eq_true rfl) rfl (CT.mono h (fun r G1 hr => ?_))
  obtain ⟨r2, rfl, h⟩ := hr
  show zJ kX8_remove post 5 [(0, .ref 49), (1, .int v1)] [.int r2] G1
  obtain ⟨hbt, hbf⟩ := h
  refine j_if_ne 8 10 rfl (by decide) dX8_remove_5 (fun hc => ?_) (fun hc => ?_)
  · have h := hbt hc
    refine j_aload_n 0 11 rfl dX8_remove_10 rfl rfl ?_
    refine j_getR 14 rfl dX8_remove_11 lf_X8_45 ly_49 rfl ?_
    refine j_iload_n 1 15 rfl dX8_remove_14 rfl rfl ?_
    refine j_iconst (0 : Int32) 16 rfl dX8_remove_15 (by decide) ?_
    obtain ⟨h3, h⟩ := h
    refine j_zast 17 rfl dX8_remove_16 ly_56 h3 rfl ?_
    refine j_aload_n 0 18 rfl dX8_remove_17 rfl rfl ?_
    refine j_getR 21 rfl dX8_remove_18 lf_X8_61 ly_49 rfl ?_
    refine j_iload_n 1 22 rfl dX8_remove_21 rfl rfl ?_
    refine j_iconst (-1 : Int32) 23 rfl dX8_remove_22 (by decide) ?_
    obtain ⟨h4, h⟩ := h
    refine j_iast 24 rfl dX8_remove_23 ly_61 h4 ?_
    refine j_aload_n 0 25 rfl dX8_remove_24 rfl rfl ?_
    refine j_iconst (0 : Int32) 26 rfl dX8_remove_25 (by decide) ?_
    refine j_put 29 rfl dX8_remove_26 lp_X8_91 ly_49 rfl rfl rfl ?_
    refine j_iconst (1 : Int32) 30 rfl dX8_remove_29 (by decide) ?_
    exact j_iret dX8_remove_30 rfl rfl h
  · have h := hbf hc
    refine j_iconst (0 : Int32) 9 rfl dX8_remove_8 (by decide) ?_
    exact j_iret dX8_remove_9 rfl rfl h
theorem vX8_dial (post : Option Value → GG → Prop) (v1 : Int32) (v2 : Int32) (G : GG) (h : CTi kX8_isBreaker [.ref 49, .int v1] G (fun r2 G1 => (r2 = (0 : Int32) → (post (some (.int (0 : Int32))) G1)) ∧ (¬ r2 = (0 : Int32) → (CTi kX8_isIn [.int v2, .int (1 : Int32), .int (40 : Int32)] G1 (fun r4 G3 => (¬ r4 = (0 : Int32) → ((vp_in v1 30) ∧ (post (some (.int (1 : Int32))) (gU (gU G3 58 v1.toNatClampNeg v2) 49 19 (0 : Int32))))) ∧ (r4 = (0 : Int32) → (post (some (.int (0 : Int32))) G3))))))) : CT kX8_dial [.ref 49, .int v1, .int v2] G post := by
  refine CT.of (by decide) (Nat.le_of_ble_eq_true rfl) ?_
  show zJ kX8_dial post 0 [(0, .ref 49), (1, .int v1), (2, .int v2)] [] G
  refine j_aload_n 0 1 rfl dX8_dial_0 rfl rfl ?_
  refine j_iload_n 1 2 rfl dX8_dial_1 rfl rfl ?_
  refine j_callV (K' := kX8_isBreaker) (As := [.int v1]) (S := []) dX8_dial_2 ll_X8_95 ok_X8_isBreaker ⟨by decide, by decide⟩ ly_49 rfl rfl (Nat.le_of_ble_eq_true rfl) rfl (CT.mono h (fun r G1 hr => ?_))
  obtain ⟨r2, rfl, h⟩ := hr
  show zJ kX8_dial post 5 [(0, .ref 49), (1, .int v1), (2, .int v2)] [.int r2] G1
  obtain ⟨hbt, hbf⟩ := h
  refine j_if_eq 8 18 rfl (by decide) dX8_dial_5 (fun hc => ?_) (fun hc => ?_)
  · have h := hbt hc
    refine j_iconst (0 : Int32) 19 rfl dX8_dial_18 (by decide) ?_
    exact j_iret dX8_dial_19 rfl rfl h
  · have h := hbf hc
    refine j_iload_n 2 9 rfl dX8_dial_8 rfl rfl ?_
    refine j_iconst (1 : Int32) 10 rfl dX8_dial_9 (by decide) ?_
    refine j_bipush (40 : Int32) 12 rfl dX8_dial_10 (by decide) ?_
    refine j_callS (K' := kX8_isIn) (As := [.int v2, .int (1 : Int32), .int (40 : Int32)]) (S := []) dX8_dial_12 ll_X8_83 ok_X8_isIn ⟨by decide, by decide⟩ rfl (Nat.le_of_ble_eq_true rfl) rfl (CT.mono h (fun r G3 hr => ?_))
    obtain ⟨r4, rfl, h⟩ := hr
    show zJ kX8_dial post 15 [(0, .ref 49), (1, .int v1), (2, .int v2)] [.int r4] G3
    obtain ⟨hbt, hbf⟩ := h
    refine j_if_ne 18 20 rfl (by decide) dX8_dial_15 (fun hc => ?_) (fun hc => ?_)
    · have h := hbt hc
      refine j_aload_n 0 21 rfl dX8_dial_20 rfl rfl ?_
      refine j_getR 24 rfl dX8_dial_21 lf_X8_52 ly_49 rfl ?_
      refine j_iload_n 1 25 rfl dX8_dial_24 rfl rfl ?_
      refine j_iload_n 2 26 rfl dX8_dial_25 rfl rfl ?_
      obtain ⟨h5, h⟩ := h
      refine j_iast 27 rfl dX8_dial_26 ly_58 h5 ?_
      refine j_aload_n 0 28 rfl dX8_dial_27 rfl rfl ?_
      refine j_iconst (0 : Int32) 29 rfl dX8_dial_28 (by decide) ?_
      refine j_put 32 rfl dX8_dial_29 lp_X8_91 ly_49 rfl rfl rfl ?_
      refine j_iconst (1 : Int32) 33 rfl dX8_dial_32 (by decide) ?_
      exact j_iret dX8_dial_33 rfl rfl h
    · have h := hbf hc
      refine j_iconst (0 : Int32) 19 rfl dX8_dial_18 (by decide) ?_
      exact j_iret dX8_dial_19 rfl rfl h
theorem vX8_fails (post : Option Value → GG → Prop) (v1 : Int32) (v2 : Int32) (G : GG) (h : CTi kX8_isBreaker [.ref 49, .int v1] G (fun r2 G1 => (¬ r2 = (0 : Int32) → ((vp_in v1 30) ∧ (vp_nar .boolean v2 = v2) ∧ (post (some (.int (1 : Int32))) (gU (gU G1 60 v1.toNatClampNeg v2) 49 19 (0 : Int32))))) ∧ (r2 = (0 : Int32) → (post (some (.int (0 : Int32))) G1)))) : CT kX8_fails [.ref 49, .int v1, .int v2] G post := by
  refine CT.of (by decide) (Nat.le_of_ble_eq_true rfl) ?_
  show zJ kX8_fails post 0 [(0, .ref 49), (1, .int v1), (2, .int v2)] [] G
  refine j_aload_n 0 1 rfl dX8_fails_0 rfl rfl ?_
  refine j_iload_n 1 2 rfl dX8_fails_1 rfl rfl ?_
  refine j_callV (K' := kX8_isBreaker) (As := [.int v1]) (S := []) dX8_fails_2 ll_X8_95 ok_X8_isBreaker ⟨by decide, by decide⟩ ly_49 rfl rfl (Nat.le_of_ble_eq_true rfl) rfl (CT.mono h (fun r G1 hr => ?_))
  obtain ⟨r2, rfl, h⟩ := hr
  show zJ kX8_fails post 5 [(0, .ref 49), (1, .int v1), (2, .int v2)] [.int r2] G1
  obtain ⟨hbt, hbf⟩ := h
  refine j_if_ne 8 10 rfl (by decide) dX8_fails_5 (fun hc => ?_) (fun hc => ?_)
  · have h := hbt hc
    refine j_aload_n 0 11 rfl dX8_fails_10 rfl rfl ?_
    refine j_getR 14 rfl dX8_fails_11 lf_X8_58 ly_49 rfl ?_
    refine j_iload_n 1 15 rfl dX8_fails_14 rfl rfl ?_
    refine j_iload_n 2 16 rfl dX8_fails_15 rfl rfl ?_
    obtain ⟨h3, h⟩ := h
    obtain ⟨h4, h⟩ := h
    refine j_zast 17 rfl dX8_fails_16 ly_60 h3 h4 ?_
    refine j_aload_n 0 18 rfl dX8_fails_17 rfl rfl ?_
    refine j_iconst (0 : Int32) 19 rfl dX8_fails_18 (by decide) ?_
    refine j_put 22 rfl dX8_fails_19 lp_X8_91 ly_49 rfl rfl rfl ?_
    refine j_iconst (1 : Int32) 23 rfl dX8_fails_22 (by decide) ?_
    exact j_iret dX8_fails_23 rfl rfl h
  · have h := hbf hc
    refine j_iconst (0 : Int32) 9 rfl dX8_fails_8 (by decide) ?_
    exact j_iret dX8_fails_9 rfl rfl h
theorem vX8_told (post : Option Value → GG → Prop) (v1 : Int32) (v2 : Int32) (v3 : Int32) (G : GG) (h : CTi kX8_isIn [.int v1, .int (1 : Int32), .int (10000 : Int32)] G (fun r2 G1 => (r2 = (0 : Int32) → (post (some (.int (0 : Int32))) G1)) ∧ (¬ r2 = (0 : Int32) → (CTi kX8_isIn [.int v2, .int (1 : Int32), .int (100000 : Int32)] G1 (fun r4 G3 => (r4 = (0 : Int32) → (post (some (.int (0 : Int32))) G3)) ∧ (¬ r4 = (0 : Int32) → (CTi kX8_isIn [.int v3, .int (0 : Int32), .int (1000 : Int32)] G3 (fun r6 G5 => (¬ r6 = (0 : Int32) → (post (some (.int (1 : Int32))) (gU (gU (gU (gU G5 49 3 v1) 49 4 v2) 49 5 v3) 49 19 (0 : Int32)))) ∧ (r6 = (0 : Int32) → (post (some (.int (0 : Int32))) G5)))))))))) : CT kX8_told [.ref 49, .int v1, .int v2, .int v3] G post := by
  refine CT.of (by decide) (Nat.le_of_ble_eq_true rfl) ?_
  show zJ kX8_told post 0 [(0, .ref 49), (1, .int v1), (2, .int v2), (3, .int v3)] [] G
  refine j_iload_n 1 1 rfl dX8_told_0 rfl rfl ?_
  refine j_iconst (1 : Int32) 2 rfl dX8_told_1 (by decide) ?_
  refine j_sipush (10000 : Int32) 5 rfl dX8_told_2 (by decide) ?_
  refine j_callS (K' := kX8_isIn) (As := [.int v1, .int (1 : Int32), .int (10000 : Int32)]) (S := []) dX8_told_5 ll_X8_83 ok_X8_isIn ⟨by decide, by decide⟩ rfl (Nat.le_of_ble_eq_true rfl) rfl (CT.mono h (fun r G1 hr => ?_))
  obtain ⟨r2, rfl, h⟩ := hr
  show zJ kX8_told post 8 [(0, .ref 49), (1, .int v1), (2, .int v2), (3, .int v3)] [.int r2] G1
  obtain ⟨hbt, hbf⟩ := h
  refine j_if_eq 11 32 rfl (by decide) dX8_told_8 (fun hc => ?_) (fun hc => ?_)
  · have h := hbt hc
    refine j_iconst (0 : Int32) 33 rfl dX8_told_32 (by decide) ?_
    exact j_iret dX8_told_33 rfl rfl h
  · have h := hbf hc
    refine j_iload_n 2 12 rfl dX8_told_11 rfl rfl ?_
    refine j_iconst (1 : Int32) 13 rfl dX8_told_12 (by decide) ?_
    refine j_ldc (100000 : Int32) 15 rfl dX8_told_13 lc_X8_22 ?_
    refine j_callS (K' := kX8_isIn) (As := [.int v2, .int (1 : Int32), .int (100000 : Int32)]) (S := []) dX8_told_15 ll_X8_83 ok_X8_isIn ⟨by decide, by decide⟩ rfl (Nat.le_of_ble_eq_true rfl) rfl (CT.mono h (fun r G3 hr => ?_))
    obtain ⟨r4, rfl, h⟩ := hr
    show zJ kX8_told post 18 [(0, .ref 49), (1, .int v1), (2, .int v2), (3, .int v3)] [.int r4] G3
    obtain ⟨hbt, hbf⟩ := h
    refine j_if_eq 21 32 rfl (by decide) dX8_told_18 (fun hc => ?_) (fun hc => ?_)
    · have h := hbt hc
      refine j_iconst (0 : Int32) 33 rfl dX8_told_32 (by decide) ?_
      exact j_iret dX8_told_33 rfl rfl h
    · have h := hbf hc
      refine j_iload_n 3 22 rfl dX8_told_21 rfl rfl ?_
      refine j_iconst (0 : Int32) 23 rfl dX8_told_22 (by decide) ?_
      refine j_sipush (1000 : Int32) 26 rfl dX8_told_23 (by decide) ?_
      refine j_callS (K' := kX8_isIn) (As := [.int v3, .int (0 : Int32), .int (1000 : Int32)]) (S := []) dX8_told_26 ll_X8_83 ok_X8_isIn ⟨by decide, by decide⟩ rfl (Nat.le_of_ble_eq_true rfl) rfl (CT.mono h (fun r G5 hr => ?_))
      obtain ⟨r6, rfl, h⟩ := hr
      show zJ kX8_told post 29 [(0, .ref 49), (1, .int v1), (2, .int v2), (3, .int v3)] [.int r6] G5
      obtain ⟨hbt, hbf⟩ := h
      refine j_if_ne 32 34 rfl (by decide) dX8_told_29 (fun hc => ?_) (fun hc => ?_)
      · have h := hbt hc
        refine j_aload_n 0 35 rfl dX8_told_34 rfl rfl ?_
        refine j_iload_n 1 36 rfl dX8_told_35 rfl rfl ?_
        refine j_put 39 rfl dX8_told_36 lp_X8_19 ly_49 rfl rfl rfl ?_
        refine j_aload_n 0 40 rfl dX8_told_39 rfl rfl ?_
        refine j_iload_n 2 41 rfl dX8_told_40 rfl rfl ?_
        refine j_put 44 rfl dX8_told_41 lp_X8_23 ly_49 rfl rfl rfl ?_
        refine j_aload_n 0 45 rfl dX8_told_44 rfl rfl ?_
        refine j_iload_n 3 46 rfl dX8_told_45 rfl rfl ?_
        refine j_put 49 rfl dX8_told_46 lp_X8_98 ly_49 rfl rfl rfl ?_
        refine j_aload_n 0 50 rfl dX8_told_49 rfl rfl ?_
        refine j_iconst (0 : Int32) 51 rfl dX8_told_50 (by decide) ?_
        refine j_put 54 rfl dX8_told_51 lp_X8_91 ly_49 rfl rfl rfl ?_
        refine j_iconst (1 : Int32) 55 rfl dX8_told_54 (by decide) ?_
        exact j_iret dX8_told_55 rfl rfl h
      · have h := hbf hc
        refine j_iconst (0 : Int32) 33 rfl dX8_told_32 (by decide) ?_
        exact j_iret dX8_told_33 rfl rfl h
theorem vX8_isOnWay (post : Option Value → GG → Prop) (v1 : Int32) (v2 : Int32) (G : GG) (h : zJ kX8_isOnWay post 2 [(0, .ref 49), (1, .int v1), (3, .int v2)] [] G) : CT kX8_isOnWay [.ref 49, .int v1, .int v2] G post := by
  refine CT.of (by decide) (Nat.le_of_ble_eq_true rfl) ?_
  show zJ kX8_isOnWay post 0 [(0, .ref 49), (1, .int v1), (2, .int v2)] [] G
  refine j_iload_n 2 1 rfl dX8_isOnWay_0 rfl rfl ?_
  refine j_istore_n [(0, .ref 49), (1, .int v1), (2, .int v2), (3, .int v2)] 2 rfl dX8_isOnWay_1 rfl (by decide) rfl ?_
  refine j_sub [0, 1, 3] rfl ?_
  exact h
theorem vX8_isOnWay_2 (post : Option Value → GG → Prop) (v1 : Int32) (v3 : Int32) (G : GG) (h : (v3 ≤ (0 : Int32) → (zJ kX8_isOnWay post 21 [(1, .int v1), (3, .int v3)] [] G)) ∧ (¬ v3 ≤ (0 : Int32) → ((v3 = v1 → (zJ kX8_isOnWay post 21 [(1, .int v1), (3, .int v3)] [] G)) ∧ (¬ v3 = v1 → ((vp_in v3 30) ∧ (zJ kX8_isOnWay post 2 [(0, .ref 49), (1, .int v1), (3, .int (G 50 v3.toNatClampNeg))] [] G)))))) : zJ kX8_isOnWay post 2 [(0, .ref 49), (1, .int v1), (3, .int v3)] [] G := by
  refine j_iload_n 2 3 rfl dX8_isOnWay_2 rfl rfl ?_
  obtain ⟨hbt, hbf⟩ := h
  refine j_if_le 6 21 rfl (by decide) dX8_isOnWay_3 (fun hc => ?_) (fun hc => ?_)
  · have h := hbt hc
    refine j_sub [1, 2] rfl ?_
    exact h
  · have h := hbf hc
    refine j_iload_n 2 7 rfl dX8_isOnWay_6 rfl rfl ?_
    refine j_iload_n 1 8 rfl dX8_isOnWay_7 rfl rfl ?_
    obtain ⟨hbt, hbf⟩ := h
    refine j_icmp_eq 11 21 rfl (by decide) dX8_isOnWay_8 (fun hc => ?_) (fun hc => ?_)
    · have h := hbt hc
      refine j_sub [1, 2] rfl ?_
      exact h
    · have h := hbf hc
      refine j_aload_n 0 12 rfl dX8_isOnWay_11 rfl rfl ?_
      refine j_getR 15 rfl dX8_isOnWay_12 lf_X8_26 ly_49 rfl ?_
      refine j_iload_n 2 16 rfl dX8_isOnWay_15 rfl rfl ?_
      obtain ⟨h1, h⟩ := h
      refine j_iald 17 rfl dX8_isOnWay_16 ly_50 h1 ?_
      refine j_istore_n [(0, .ref 49), (1, .int v1), (3, .int (G 50 v3.toNatClampNeg))] 18 rfl dX8_isOnWay_17 rfl (by decide) rfl ?_
      refine j_goto 2 (by decide) dX8_isOnWay_18 ?_
      exact h
theorem vX8_isOnWay_21 (post : Option Value → GG → Prop) (v1 : Int32) (v3 : Int32) (G : GG) (h : (¬ v3 = v1 → (post (some (.int (0 : Int32))) G)) ∧ (v3 = v1 → (post (some (.int (1 : Int32))) G))) : zJ kX8_isOnWay post 21 [(1, .int v1), (3, .int v3)] [] G := by
  refine j_iload_n 1 22 rfl dX8_isOnWay_21 rfl rfl ?_
  refine j_iload_n 0 23 rfl dX8_isOnWay_22 rfl rfl ?_
  obtain ⟨hbt, hbf⟩ := h
  refine j_icmp_ne 26 30 rfl (by decide) dX8_isOnWay_23 (fun hc => ?_) (fun hc => ?_)
  · have h := hbt hc
    refine j_iconst (0 : Int32) 31 rfl dX8_isOnWay_30 (by decide) ?_
    exact j_iret dX8_isOnWay_31 rfl rfl h
  · have h := hbf hc
    refine j_iconst (1 : Int32) 27 rfl dX8_isOnWay_26 (by decide) ?_
    refine j_goto 31 (by decide) dX8_isOnWay_27 ?_
    exact j_iret dX8_isOnWay_31 rfl rfl h
theorem vX8_sum (post : Option Value → GG → Prop) (v1 : Int32) (v2 : Int32) (v3 : Int32) (G : GG) (h : (vp_in v1 30) ∧ (zJ kX8_sum post 17 [(0, .ref 49), (1, .int v1), (2, .int v2), (4, .long ((G 49 2) + v3).toInt64), (6, .int (G 50 v1.toNatClampNeg))] [] G)) : CT kX8_sum [.ref 49, .int v1, .int v2, .int v3] G post := by
  refine CT.of (by decide) (Nat.le_of_ble_eq_true rfl) ?_
  show zJ kX8_sum post 0 [(0, .ref 49), (1, .int v1), (2, .int v2), (3, .int v3)] [] G
  refine j_aload_n 0 1 rfl dX8_sum_0 rfl rfl ?_
  refine j_getI 4 rfl dX8_sum_1 lf_X8_16 ly_49 rfl ?_
  refine j_iload_n 3 5 rfl dX8_sum_4 rfl rfl ?_
  refine j_iadd 6 rfl dX8_sum_5 ?_
  refine j_i2l 7 rfl dX8_sum_6 ?_
  refine j_lstore [(0, .ref 49), (1, .int v1), (2, .int v2), (3, .int v3), (4, .long ((G 49 2) + v3).toInt64)] 9 rfl dX8_sum_7 (by decide) rfl ?_
  refine j_aload_n 0 10 rfl dX8_sum_9 rfl rfl ?_
  refine j_getR 13 rfl dX8_sum_10 lf_X8_26 ly_49 rfl ?_
  refine j_iload_n 1 14 rfl dX8_sum_13 rfl rfl ?_
  obtain ⟨h1, h⟩ := h
  refine j_iald 15 rfl dX8_sum_14 ly_50 h1 ?_
  refine j_istore [(0, .ref 49), (1, .int v1), (2, .int v2), (3, .int v3), (4, .long ((G 49 2) + v3).toInt64), (6, .int (G 50 v1.toNatClampNeg))] 17 rfl dX8_sum_15 (by decide) rfl ?_
  refine j_sub [0, 1, 2, 4, 5] rfl ?_
  exact h
theorem vX8_sum_17 (post : Option Value → GG → Prop) (v1 : Int32) (v2 : Int32) (v4 : Int64) (v6 : Int32) (G : GG) (h : (v6 ≤ (0 : Int32) → ((vp_in v1 30) ∧ (post (some (.long (((16 : Int64) * v4) + (v2.toInt64 * (G 51 v1.toNatClampNeg).toInt64)))) G))) ∧ (¬ v6 ≤ (0 : Int32) → ((vp_in v6 30) ∧ ((vp_in v6 30) ∧ (zJ kX8_sum post 17 [(0, .ref 49), (1, .int v1), (2, .int v2), (4, .long (v4 + (G 51 v6.toNatClampNeg).toInt64)), (6, .int (G 50 v6.toNatClampNeg))] [] G))))) : zJ kX8_sum post 17 [(0, .ref 49), (1, .int v1), (2, .int v2), (4, .long v4), (6, .int v6)] [] G := by
  refine j_iload 4 19 rfl dX8_sum_17 rfl ?_
  obtain ⟨hbt, hbf⟩ := h
  refine j_if_le 22 47 rfl (by decide) dX8_sum_19 (fun hc => ?_) (fun hc => ?_)
  · have h := hbt hc
    refine j_ldc2_w (16 : Int64) 50 rfl dX8_sum_47 lc_X8_101 ?_
    refine j_lload 3 52 rfl dX8_sum_50 rfl ?_
    refine j_lmul 53 rfl dX8_sum_52 ?_
    refine j_iload_n 2 54 rfl dX8_sum_53 rfl rfl ?_
    refine j_i2l 55 rfl dX8_sum_54 ?_
    refine j_aload_n 0 56 rfl dX8_sum_55 rfl rfl ?_
    refine j_getR 59 rfl dX8_sum_56 lf_X8_30 ly_49 rfl ?_
    refine j_iload_n 1 60 rfl dX8_sum_59 rfl rfl ?_
    obtain ⟨h1, h⟩ := h
    refine j_iald 61 rfl dX8_sum_60 ly_51 h1 ?_
    refine j_i2l 62 rfl dX8_sum_61 ?_
    refine j_lmul 63 rfl dX8_sum_62 ?_
    refine j_ladd 64 rfl dX8_sum_63 ?_
    exact j_lret dX8_sum_64 rfl h
  · have h := hbf hc
    refine j_lload 3 24 rfl dX8_sum_22 rfl ?_
    refine j_aload_n 0 25 rfl dX8_sum_24 rfl rfl ?_
    refine j_getR 28 rfl dX8_sum_25 lf_X8_30 ly_49 rfl ?_
    refine j_iload 4 30 rfl dX8_sum_28 rfl ?_
    obtain ⟨h2, h⟩ := h
    refine j_iald 31 rfl dX8_sum_30 ly_51 h2 ?_
    refine j_i2l 32 rfl dX8_sum_31 ?_
    refine j_ladd 33 rfl dX8_sum_32 ?_
    refine j_lstore [(0, .ref 49), (1, .int v1), (2, .int v2), (4, .long (v4 + (G 51 v6.toNatClampNeg).toInt64)), (6, .int v6)] 35 rfl dX8_sum_33 (by decide) rfl ?_
    refine j_aload_n 0 36 rfl dX8_sum_35 rfl rfl ?_
    refine j_getR 39 rfl dX8_sum_36 lf_X8_26 ly_49 rfl ?_
    refine j_iload 4 41 rfl dX8_sum_39 rfl ?_
    obtain ⟨h3, h⟩ := h
    refine j_iald 42 rfl dX8_sum_41 ly_50 h3 ?_
    refine j_istore [(0, .ref 49), (1, .int v1), (2, .int v2), (4, .long (v4 + (G 51 v6.toNatClampNeg).toInt64)), (6, .int (G 50 v6.toNatClampNeg))] 44 rfl dX8_sum_42 (by decide) rfl ?_
    refine j_goto 17 (by decide) dX8_sum_44 ?_
    exact h
theorem vX8_waitBy (post : Option Value → GG → Prop) (v1 : Int32) (v2 : Int64) (v4 : Int64) (G : GG) (h : (vp_in v1 30) ∧ (zJ kX8_waitBy post 14 [(0, .ref 49), (1, .int v1), (2, .long v2), (4, .long v4), (6, .int (G 57 v1.toNatClampNeg)), (7, .int (-1 : Int32)), (8, .int (0 : Int32))] [] G)) : CT kX8_waitBy [.ref 49, .int v1, .long v2, .long v4] G post := by
  refine CT.of (by decide) (Nat.le_of_ble_eq_true rfl) ?_
  show zJ kX8_waitBy post 0 [(0, .ref 49), (1, .int v1), (2, .long v2), (4, .long v4)] [] G
  refine j_aload_n 0 1 rfl dX8_waitBy_0 rfl rfl ?_
  refine j_getR 4 rfl dX8_waitBy_1 lf_X8_49 ly_49 rfl ?_
  refine j_iload_n 1 5 rfl dX8_waitBy_4 rfl rfl ?_
  obtain ⟨h1, h⟩ := h
  refine j_iald 6 rfl dX8_waitBy_5 ly_57 h1 ?_
  refine j_istore [(0, .ref 49), (1, .int v1), (2, .long v2), (4, .long v4), (6, .int (G 57 v1.toNatClampNeg))] 8 rfl dX8_waitBy_6 (by decide) rfl ?_
  refine j_iconst (-1 : Int32) 9 rfl dX8_waitBy_8 (by decide) ?_
  refine j_istore [(0, .ref 49), (1, .int v1), (2, .long v2), (4, .long v4), (6, .int (G 57 v1.toNatClampNeg)), (7, .int (-1 : Int32))] 11 rfl dX8_waitBy_9 (by decide) rfl ?_
  refine j_iconst (0 : Int32) 12 rfl dX8_waitBy_11 (by decide) ?_
  refine j_istore [(0, .ref 49), (1, .int v1), (2, .long v2), (4, .long v4), (6, .int (G 57 v1.toNatClampNeg)), (7, .int (-1 : Int32)), (8, .int (0 : Int32))] 14 rfl dX8_waitBy_12 (by decide) rfl ?_
  exact h
theorem vX8_waitBy_14 (post : Option Value → GG → Prop) (v1 : Int32) (v2 : Int64) (v4 : Int64) (v6 : Int32) (v7 : Int32) (v8 : Int32) (G : GG) (h : (vp_in v6 8) ∧ (((G 53 v6.toNatClampNeg) ≤ v8 → (post (some (.int v7)) G)) ∧ (¬ (G 53 v6.toNatClampNeg) ≤ v8 → ((vp_in v1 30) ∧ ((vp_in (((8 : Int32) * v6) + v8) 64) ∧ ((((10 : Int64) * v2) < (((G 59 v1.toNatClampNeg).toInt64 * (G 54 (((8 : Int32) * v6) + v8).toNatClampNeg).toInt64) * v4) → (zJ kX8_waitBy post 14 [(0, .ref 49), (1, .int v1), (2, .long v2), (4, .long v4), (6, .int v6), (7, .int v7), (8, .int (v8 + (1 : Int32)))] [] G)) ∧ (¬ ((10 : Int64) * v2) < (((G 59 v1.toNatClampNeg).toInt64 * (G 54 (((8 : Int32) * v6) + v8).toNatClampNeg).toInt64) * v4) → ((vp_in v1 30) ∧ ((vp_in (((8 : Int32) * v6) + v8) 64) ∧ (zJ kX8_waitBy post 14 [(0, .ref 49), (1, .int v1), (2, .long v2), (4, .long v4), (6, .int v6), (7, .int ((G 58 v1.toNatClampNeg) * (G 55 (((8 : Int32) * v6) + v8).toNatClampNeg))), (8, .int (v8 + (1 : Int32)))] [] G)))))))))) : zJ kX8_waitBy post 14 [(0, .ref 49), (1, .int v1), (2, .long v2), (4, .long v4), (6, .int v6), (7, .int v7), (8, .int v8)] [] G := by
  refine j_iload 6 16 rfl dX8_waitBy_14 rfl ?_
  refine j_aload_n 0 17 rfl dX8_waitBy_16 rfl rfl ?_
  refine j_getR 20 rfl dX8_waitBy_17 lf_X8_36 ly_49 rfl ?_
  refine j_iload 4 22 rfl dX8_waitBy_20 rfl ?_
  obtain ⟨h1, h⟩ := h
  refine j_iald 23 rfl dX8_waitBy_22 ly_53 h1 ?_
  obtain ⟨hbt, hbf⟩ := h
  refine j_icmp_ge 26 88 rfl (by decide) dX8_waitBy_23 (fun hc => ?_) (fun hc => ?_)
  · have h := hbt hc
    refine j_iload 5 90 rfl dX8_waitBy_88 rfl ?_
    exact j_iret dX8_waitBy_90 rfl rfl h
  · have h := hbf hc
    refine j_ldc2_w (10 : Int64) 29 rfl dX8_waitBy_26 lc_X8_103 ?_
    refine j_lload_n 2 30 rfl dX8_waitBy_29 rfl rfl ?_
    refine j_lmul 31 rfl dX8_waitBy_30 ?_
    refine j_aload_n 0 32 rfl dX8_waitBy_31 rfl rfl ?_
    refine j_getR 35 rfl dX8_waitBy_32 lf_X8_55 ly_49 rfl ?_
    refine j_iload_n 1 36 rfl dX8_waitBy_35 rfl rfl ?_
    obtain ⟨h2, h⟩ := h
    refine j_iald 37 rfl dX8_waitBy_36 ly_59 h2 ?_
    refine j_i2l 38 rfl dX8_waitBy_37 ?_
    refine j_aload_n 0 39 rfl dX8_waitBy_38 rfl rfl ?_
    refine j_getR 42 rfl dX8_waitBy_39 lf_X8_39 ly_49 rfl ?_
    refine j_bipush (8 : Int32) 44 rfl dX8_waitBy_42 (by decide) ?_
    refine j_iload 4 46 rfl dX8_waitBy_44 rfl ?_
    refine j_imul 47 rfl dX8_waitBy_46 ?_
    refine j_iload 6 49 rfl dX8_waitBy_47 rfl ?_
    refine j_iadd 50 rfl dX8_waitBy_49 ?_
    obtain ⟨h3, h⟩ := h
    refine j_iald 51 rfl dX8_waitBy_50 ly_54 h3 ?_
    refine j_i2l 52 rfl dX8_waitBy_51 ?_
    refine j_lmul 53 rfl dX8_waitBy_52 ?_
    refine j_lload 3 55 rfl dX8_waitBy_53 rfl ?_
    refine j_lmul 56 rfl dX8_waitBy_55 ?_
    obtain ⟨hbt, hbf⟩ := h
    refine j_lif_lt 57 60 82 rfl rfl (by decide) dX8_waitBy_56 dX8_waitBy_57 (fun hc => ?_) (fun hc => ?_)
    · have h := hbt hc
      refine j_iinc 6 (v8 + (1 : Int32)) [(0, .ref 49), (1, .int v1), (2, .long v2), (4, .long v4), (6, .int v6), (7, .int v7), (8, .int (v8 + (1 : Int32)))] 85 rfl dX8_waitBy_82 rfl rfl (by decide) rfl ?_
      refine j_goto 14 (by decide) dX8_waitBy_85 ?_
      exact h
    · have h := hbf hc
      refine j_aload_n 0 61 rfl dX8_waitBy_60 rfl rfl ?_
      refine j_getR 64 rfl dX8_waitBy_61 lf_X8_52 ly_49 rfl ?_
      refine j_iload_n 1 65 rfl dX8_waitBy_64 rfl rfl ?_
      obtain ⟨h4, h⟩ := h
      refine j_iald 66 rfl dX8_waitBy_65 ly_58 h4 ?_
      refine j_aload_n 0 67 rfl dX8_waitBy_66 rfl rfl ?_
      refine j_getR 70 rfl dX8_waitBy_67 lf_X8_42 ly_49 rfl ?_
      refine j_bipush (8 : Int32) 72 rfl dX8_waitBy_70 (by decide) ?_
      refine j_iload 4 74 rfl dX8_waitBy_72 rfl ?_
      refine j_imul 75 rfl dX8_waitBy_74 ?_
      refine j_iload 6 77 rfl dX8_waitBy_75 rfl ?_
      refine j_iadd 78 rfl dX8_waitBy_77 ?_
      obtain ⟨h5, h⟩ := h
      refine j_iald 79 rfl dX8_waitBy_78 ly_55 h5 ?_
      refine j_imul 80 rfl dX8_waitBy_79 ?_
      refine j_istore [(0, .ref 49), (1, .int v1), (2, .long v2), (4, .long v4), (6, .int v6), (7, .int ((G 58 v1.toNatClampNeg) * (G 55 (((8 : Int32) * v6) + v8).toNatClampNeg))), (8, .int v8)] 82 rfl dX8_waitBy_80 (by decide) rfl ?_
      refine j_iinc 6 (v8 + (1 : Int32)) [(0, .ref 49), (1, .int v1), (2, .long v2), (4, .long v4), (6, .int v6), (7, .int ((G 58 v1.toNatClampNeg) * (G 55 (((8 : Int32) * v6) + v8).toNatClampNeg))), (8, .int (v8 + (1 : Int32)))] 85 rfl dX8_waitBy_82 rfl rfl (by decide) rfl ?_
      refine j_goto 14 (by decide) dX8_waitBy_85 ?_
      exact h
theorem vX8_waitAt (post : Option Value → GG → Prop) (v1 : Int32) (v2 : Int32) (v3 : Int32) (v4 : Int32) (G : GG) (h : (vp_in v1 30) ∧ (((G 56 v1.toNatClampNeg) = (0 : Int32) → (post (some (.int (-1 : Int32))) G)) ∧ (¬ (G 56 v1.toNatClampNeg) = (0 : Int32) → (CTi kX8_isOnWay [.ref 49, .int v1, .int v2] G (fun r3 G2 => (r3 = (0 : Int32) → (post (some (.int (-1 : Int32))) G2)) ∧ (¬ r3 = (0 : Int32) → (CTl kX8_sum [.ref 49, .int v2, .int v3, .int v4] G2 (fun r5 G4 => CTi kX8_waitBy [.ref 49, .int v1, .long ((16 : Int64) * (G2 49 1).toInt64), .long r5] G4 (fun r7 G6 => post (some (.int r7)) G6))))))))) : CT kX8_waitAt [.ref 49, .int v1, .int v2, .int v3, .int v4] G post := by
  refine CT.of (by decide) (Nat.le_of_ble_eq_true rfl) ?_
  show zJ kX8_waitAt post 0 [(0, .ref 49), (1, .int v1), (2, .int v2), (3, .int v3), (4, .int v4)] [] G
  refine j_aload_n 0 1 rfl dX8_waitAt_0 rfl rfl ?_
  refine j_getR 4 rfl dX8_waitAt_1 lf_X8_45 ly_49 rfl ?_
  refine j_iload_n 1 5 rfl dX8_waitAt_4 rfl rfl ?_
  obtain ⟨h1, h⟩ := h
  refine j_zald 6 rfl dX8_waitAt_5 ly_56 h1 ?_
  obtain ⟨hbt, hbf⟩ := h
  refine j_if_eq 9 43 rfl (by decide) dX8_waitAt_6 (fun hc => ?_) (fun hc => ?_)
  · have h := hbt hc
    refine j_iconst (-1 : Int32) 44 rfl dX8_waitAt_43 (by decide) ?_
    exact j_iret dX8_waitAt_44 rfl rfl h
  · have h := hbf hc
    refine j_aload_n 0 10 rfl dX8_waitAt_9 rfl rfl ?_
    refine j_iload_n 1 11 rfl dX8_waitAt_10 rfl rfl ?_
    refine j_iload_n 2 12 rfl dX8_waitAt_11 rfl rfl ?_
    refine j_callV (K' := kX8_isOnWay) (As := [.int v1, .int v2]) (S := []) dX8_waitAt_12 ll_X8_105 ok_X8_isOnWay ⟨by decide, by decide⟩ ly_49 rfl rfl (Nat.le_of_ble_eq_true rfl) rfl (CT.mono h (fun r G2 hr => ?_))
    obtain ⟨r3, rfl, h⟩ := hr
    show zJ kX8_waitAt post 15 [(0, .ref 49), (1, .int v1), (2, .int v2), (3, .int v3), (4, .int v4)] [.int r3] G2
    obtain ⟨hbt, hbf⟩ := h
    refine j_if_eq 18 43 rfl (by decide) dX8_waitAt_15 (fun hc => ?_) (fun hc => ?_)
    · have h := hbt hc
      refine j_iconst (-1 : Int32) 44 rfl dX8_waitAt_43 (by decide) ?_
      exact j_iret dX8_waitAt_44 rfl rfl h
    · have h := hbf hc
      refine j_aload_n 0 19 rfl dX8_waitAt_18 rfl rfl ?_
      refine j_iload_n 1 20 rfl dX8_waitAt_19 rfl rfl ?_
      refine j_ldc2_w (16 : Int64) 23 rfl dX8_waitAt_20 lc_X8_101 ?_
      refine j_aload_n 0 24 rfl dX8_waitAt_23 rfl rfl ?_
      refine j_getI 27 rfl dX8_waitAt_24 lf_X8_13 ly_49 rfl ?_
      refine j_i2l 28 rfl dX8_waitAt_27 ?_
      refine j_lmul 29 rfl dX8_waitAt_28 ?_
      refine j_aload_n 0 30 rfl dX8_waitAt_29 rfl rfl ?_
      refine j_iload_n 2 31 rfl dX8_waitAt_30 rfl rfl ?_
      refine j_iload_n 3 32 rfl dX8_waitAt_31 rfl rfl ?_
      refine j_iload 4 34 rfl dX8_waitAt_32 rfl ?_
      refine j_callV (K' := kX8_sum) (As := [.int v2, .int v3, .int v4]) (S := [.long ((16 : Int64) * (G2 49 1).toInt64), .int v1, .ref 49]) dX8_waitAt_34 ll_X8_109 ok_X8_sum ⟨by decide, by decide⟩ ly_49 rfl rfl (Nat.le_of_ble_eq_true rfl) rfl (CT.mono h (fun r G4 hr => ?_))
      obtain ⟨r5, rfl, h⟩ := hr
      show zJ kX8_waitAt post 37 [(0, .ref 49), (1, .int v1), (2, .int v2), (3, .int v3), (4, .int v4)] [.long r5, .long ((16 : Int64) * (G2 49 1).toInt64), .int v1, .ref 49] G4
      refine j_callV (K' := kX8_waitBy) (As := [.int v1, .long ((16 : Int64) * (G2 49 1).toInt64), .long r5]) (S := []) dX8_waitAt_37 ll_X8_113 ok_X8_waitBy ⟨by decide, by decide⟩ ly_49 rfl rfl (Nat.le_of_ble_eq_true rfl) rfl (CT.mono h (fun r G6 hr => ?_))
      obtain ⟨r7, rfl, h⟩ := hr
      show zJ kX8_waitAt post 40 [(0, .ref 49), (1, .int v1), (2, .int v2), (3, .int v3), (4, .int v4)] [.int r7] G6
      refine j_goto 44 (by decide) dX8_waitAt_40 ?_
      exact j_iret dX8_waitAt_44 rfl rfl h
theorem vX8_fault (post : Option Value → GG → Prop) (v1 : Int32) (v2 : Int32) (v3 : Int32) (v4 : Int32) (G : GG) (h : CTi kX8_isFault [.ref 49, .int v1, .int v2, .int v3] G (fun r2 G1 => (¬ r2 = (0 : Int32) → ((¬ v4 = (0 : Int32) → ((¬ v4 = (1 : Int32) → (post (some (.long (-1 : Int64))) G1)) ∧ (v4 = (1 : Int32) → (CTl kX8_sum [.ref 49, .int v1, .int v2, .int v3] G1 (fun r4 G3 => (¬ r4 = (0 : Int64)) ∧ (post (some (.long (((1600 : Int64) * (G1 49 1).toInt64) / r4))) G3)))))) ∧ (v4 = (0 : Int32) → (CTl kX8_sum [.ref 49, .int v1, .int v2, .int v3] G1 (fun r7 G6 => post (some (.long r7)) G6))))) ∧ (r2 = (0 : Int32) → (post (some (.long (-1 : Int64))) G1)))) : CT kX8_fault [.ref 49, .int v1, .int v2, .int v3, .int v4] G post := by
  refine CT.of (by decide) (Nat.le_of_ble_eq_true rfl) ?_
  show zJ kX8_fault post 0 [(0, .ref 49), (1, .int v1), (2, .int v2), (3, .int v3), (4, .int v4)] [] G
  refine j_aload_n 0 1 rfl dX8_fault_0 rfl rfl ?_
  refine j_iload_n 1 2 rfl dX8_fault_1 rfl rfl ?_
  refine j_iload_n 2 3 rfl dX8_fault_2 rfl rfl ?_
  refine j_iload_n 3 4 rfl dX8_fault_3 rfl rfl ?_
  refine j_callV (K' := kX8_isFault) (As := [.int v1, .int v2, .int v3]) (S := []) dX8_fault_4 ll_X8_117 ok_X8_isFault ⟨by decide, by decide⟩ ly_49 rfl rfl (Nat.le_of_ble_eq_true rfl) rfl (CT.mono h (fun r G1 hr => ?_))
  obtain ⟨r2, rfl, h⟩ := hr
  show zJ kX8_fault post 7 [(0, .ref 49), (1, .int v1), (2, .int v2), (3, .int v3), (4, .int v4)] [.int r2] G1
  obtain ⟨hbt, hbf⟩ := h
  refine j_if_ne 10 14 rfl (by decide) dX8_fault_7 (fun hc => ?_) (fun hc => ?_)
  · have h := hbt hc
    refine j_iload 4 16 rfl dX8_fault_14 rfl ?_
    obtain ⟨hbt, hbf⟩ := h
    refine j_if_ne 19 29 rfl (by decide) dX8_fault_16 (fun hc => ?_) (fun hc => ?_)
    · have h := hbt hc
      refine j_iload 4 31 rfl dX8_fault_29 rfl ?_
      refine j_iconst (1 : Int32) 32 rfl dX8_fault_31 (by decide) ?_
      obtain ⟨hbt, hbf⟩ := h
      refine j_icmp_ne 35 55 rfl (by decide) dX8_fault_32 (fun hc => ?_) (fun hc => ?_)
      · have h := hbt hc
        refine j_ldc2_w (-1 : Int64) 58 rfl dX8_fault_55 lc_X8_120 ?_
        exact j_lret dX8_fault_58 rfl h
      · have h := hbf hc
        refine j_ldc2_w (1600 : Int64) 38 rfl dX8_fault_35 lc_X8_122 ?_
        refine j_aload_n 0 39 rfl dX8_fault_38 rfl rfl ?_
        refine j_getI 42 rfl dX8_fault_39 lf_X8_13 ly_49 rfl ?_
        refine j_i2l 43 rfl dX8_fault_42 ?_
        refine j_lmul 44 rfl dX8_fault_43 ?_
        refine j_aload_n 0 45 rfl dX8_fault_44 rfl rfl ?_
        refine j_iload_n 1 46 rfl dX8_fault_45 rfl rfl ?_
        refine j_iload_n 2 47 rfl dX8_fault_46 rfl rfl ?_
        refine j_iload_n 3 48 rfl dX8_fault_47 rfl rfl ?_
        refine j_callV (K' := kX8_sum) (As := [.int v1, .int v2, .int v3]) (S := [.long ((1600 : Int64) * (G1 49 1).toInt64)]) dX8_fault_48 ll_X8_109 ok_X8_sum ⟨by decide, by decide⟩ ly_49 rfl rfl (Nat.le_of_ble_eq_true rfl) rfl (CT.mono h (fun r G3 hr => ?_))
        obtain ⟨r4, rfl, h⟩ := hr
        show zJ kX8_fault post 51 [(0, .ref 49), (1, .int v1), (2, .int v2), (3, .int v3), (4, .int v4)] [.long r4, .long ((1600 : Int64) * (G1 49 1).toInt64)] G3
        obtain ⟨h5, h⟩ := h
        refine j_ldiv 52 rfl dX8_fault_51 h5 ?_
        refine j_goto 58 (by decide) dX8_fault_52 ?_
        exact j_lret dX8_fault_58 rfl h
    · have h := hbf hc
      refine j_aload_n 0 20 rfl dX8_fault_19 rfl rfl ?_
      refine j_iload_n 1 21 rfl dX8_fault_20 rfl rfl ?_
      refine j_iload_n 2 22 rfl dX8_fault_21 rfl rfl ?_
      refine j_iload_n 3 23 rfl dX8_fault_22 rfl rfl ?_
      refine j_callV (K' := kX8_sum) (As := [.int v1, .int v2, .int v3]) (S := []) dX8_fault_23 ll_X8_109 ok_X8_sum ⟨by decide, by decide⟩ ly_49 rfl rfl (Nat.le_of_ble_eq_true rfl) rfl (CT.mono h (fun r G6 hr => ?_))
      obtain ⟨r7, rfl, h⟩ := hr
      show zJ kX8_fault post 26 [(0, .ref 49), (1, .int v1), (2, .int v2), (3, .int v3), (4, .int v4)] [.long r7] G6
      refine j_goto 58 (by decide) dX8_fault_26 ?_
      exact j_lret dX8_fault_58 rfl h
  · have h := hbf hc
    refine j_ldc2_w (-1 : Int64) 13 rfl dX8_fault_10 lc_X8_120 ?_
    exact j_lret dX8_fault_13 rfl h
theorem vX8_waits (post : Option Value → GG → Prop) (v1 : Int32) (v2 : Int32) (v3 : Int32) (v4 : Int32) (G : GG) (h : CTi kX8_isFault [.ref 49, .int v2, .int v3, .int v4] G (fun r2 G1 => (r2 = (0 : Int32) → (post (some (.int (-1 : Int32))) G1)) ∧ (¬ r2 = (0 : Int32) → (CTi kX8_isLine [.ref 49, .int v1] G1 (fun r4 G3 => (r4 = (0 : Int32) → (post (some (.int (-1 : Int32))) G3)) ∧ (¬ r4 = (0 : Int32) → (CTi kX8_waitAt [.ref 49, .int v1, .int v2, .int v3, .int v4] G3 (fun r6 G5 => post (some (.int r6)) G5)))))))) : CT kX8_waits [.ref 49, .int v1, .int v2, .int v3, .int v4] G post := by
  refine CT.of (by decide) (Nat.le_of_ble_eq_true rfl) ?_
  show zJ kX8_waits post 0 [(0, .ref 49), (1, .int v1), (2, .int v2), (3, .int v3), (4, .int v4)] [] G
  refine j_aload_n 0 1 rfl dX8_waits_0 rfl rfl ?_
  refine j_iload_n 2 2 rfl dX8_waits_1 rfl rfl ?_
  refine j_iload_n 3 3 rfl dX8_waits_2 rfl rfl ?_
  refine j_iload 4 5 rfl dX8_waits_3 rfl ?_
  refine j_callV (K' := kX8_isFault) (As := [.int v2, .int v3, .int v4]) (S := []) dX8_waits_5 ll_X8_117 ok_X8_isFault ⟨by decide, by decide⟩ ly_49 rfl rfl (Nat.le_of_ble_eq_true rfl) rfl (CT.mono h (fun r G1 hr => ?_))
  obtain ⟨r2, rfl, h⟩ := hr
  show zJ kX8_waits post 8 [(0, .ref 49), (1, .int v1), (2, .int v2), (3, .int v3), (4, .int v4)] [.int r2] G1
  obtain ⟨hbt, hbf⟩ := h
  refine j_if_eq 11 31 rfl (by decide) dX8_waits_8 (fun hc => ?_) (fun hc => ?_)
  · have h := hbt hc
    refine j_iconst (-1 : Int32) 32 rfl dX8_waits_31 (by decide) ?_
    exact j_iret dX8_waits_32 rfl rfl h
  · have h := hbf hc
    refine j_aload_n 0 12 rfl dX8_waits_11 rfl rfl ?_
    refine j_iload_n 1 13 rfl dX8_waits_12 rfl rfl ?_
    refine j_callV (K' := kX8_isLine) (As := [.int v1]) (S := []) dX8_waits_13 ll_X8_87 ok_X8_isLine ⟨by decide, by decide⟩ ly_49 rfl rfl (Nat.le_of_ble_eq_true rfl) rfl (CT.mono h (fun r G3 hr => ?_))
    obtain ⟨r4, rfl, h⟩ := hr
    show zJ kX8_waits post 16 [(0, .ref 49), (1, .int v1), (2, .int v2), (3, .int v3), (4, .int v4)] [.int r4] G3
    obtain ⟨hbt, hbf⟩ := h
    refine j_if_eq 19 31 rfl (by decide) dX8_waits_16 (fun hc => ?_) (fun hc => ?_)
    · have h := hbt hc
      refine j_iconst (-1 : Int32) 32 rfl dX8_waits_31 (by decide) ?_
      exact j_iret dX8_waits_32 rfl rfl h
    · have h := hbf hc
      refine j_aload_n 0 20 rfl dX8_waits_19 rfl rfl ?_
      refine j_iload_n 1 21 rfl dX8_waits_20 rfl rfl ?_
      refine j_iload_n 2 22 rfl dX8_waits_21 rfl rfl ?_
      refine j_iload_n 3 23 rfl dX8_waits_22 rfl rfl ?_
      refine j_iload 4 25 rfl dX8_waits_23 rfl ?_
      refine j_callV (K' := kX8_waitAt) (As := [.int v1, .int v2, .int v3, .int v4]) (S := []) dX8_waits_25 ll_X8_124 ok_X8_waitAt ⟨by decide, by decide⟩ ly_49 rfl rfl (Nat.le_of_ble_eq_true rfl) rfl (CT.mono h (fun r G5 hr => ?_))
      obtain ⟨r6, rfl, h⟩ := hr
      show zJ kX8_waits post 28 [(0, .ref 49), (1, .int v1), (2, .int v2), (3, .int v3), (4, .int v4)] [.int r6] G5
      refine j_goto 32 (by decide) dX8_waits_28 ?_
      exact j_iret dX8_waits_32 rfl rfl h
theorem vX8_cleared (post : Option Value → GG → Prop) (v1 : Int32) (v2 : Int32) (v3 : Int32) (G : GG) (h : zJ kX8_cleared post 6 [(0, .ref 49), (1, .int v1), (2, .int v2), (3, .int v3), (4, .int (-1 : Int32)), (5, .int (1 : Int32))] [] G) : CT kX8_cleared [.ref 49, .int v1, .int v2, .int v3] G post := by
  refine CT.of (by decide) (Nat.le_of_ble_eq_true rfl) ?_
  show zJ kX8_cleared post 0 [(0, .ref 49), (1, .int v1), (2, .int v2), (3, .int v3)] [] G
  refine j_iconst (-1 : Int32) 1 rfl dX8_cleared_0 (by decide) ?_
  refine j_istore [(0, .ref 49), (1, .int v1), (2, .int v2), (3, .int v3), (4, .int (-1 : Int32))] 3 rfl dX8_cleared_1 (by decide) rfl ?_
  refine j_iconst (1 : Int32) 4 rfl dX8_cleared_3 (by decide) ?_
  refine j_istore [(0, .ref 49), (1, .int v1), (2, .int v2), (3, .int v3), (4, .int (-1 : Int32)), (5, .int (1 : Int32))] 6 rfl dX8_cleared_4 (by decide) rfl ?_
  exact h
theorem vX8_cleared_6 (post : Option Value → GG → Prop) (v1 : Int32) (v2 : Int32) (v3 : Int32) (v4 : Int32) (v5 : Int32) (G : GG) (h : ((G 49 0) ≤ v5 → (post (some (.int v4)) G)) ∧ (¬ (G 49 0) ≤ v5 → ((vp_in v5 30) ∧ (((G 60 v5.toNatClampNeg) = (0 : Int32) → (CTi kX8_waitAt [.ref 49, .int v5, .int v1, .int v2, .int v3] G (fun r3 G2 => zJ kX8_cleared post 38 [(0, .ref 49), (1, .int v1), (2, .int v2), (3, .int v3), (4, .int v4), (5, .int v5)] [.int r3] G2))) ∧ (¬ (G 60 v5.toNatClampNeg) = (0 : Int32) → (zJ kX8_cleared post 38 [(0, .ref 49), (1, .int v1), (2, .int v2), (3, .int v3), (4, .int v4), (5, .int v5)] [.int (-1 : Int32)] G)))))) : zJ kX8_cleared post 6 [(0, .ref 49), (1, .int v1), (2, .int v2), (3, .int v3), (4, .int v4), (5, .int v5)] [] G := by
  refine j_iload 5 8 rfl dX8_cleared_6 rfl ?_
  refine j_aload_n 0 9 rfl dX8_cleared_8 rfl rfl ?_
  refine j_getI 12 rfl dX8_cleared_9 lf_X8_7 ly_49 rfl ?_
  obtain ⟨hbt, hbf⟩ := h
  refine j_icmp_ge 15 67 rfl (by decide) dX8_cleared_12 (fun hc => ?_) (fun hc => ?_)
  · have h := hbt hc
    refine j_iload 4 69 rfl dX8_cleared_67 rfl ?_
    exact j_iret dX8_cleared_69 rfl rfl h
  · have h := hbf hc
    refine j_aload_n 0 16 rfl dX8_cleared_15 rfl rfl ?_
    refine j_getR 19 rfl dX8_cleared_16 lf_X8_58 ly_49 rfl ?_
    refine j_iload 5 21 rfl dX8_cleared_19 rfl ?_
    obtain ⟨h1, h⟩ := h
    refine j_zald 22 rfl dX8_cleared_21 ly_60 h1 ?_
    obtain ⟨hbt, hbf⟩ := h
    refine j_if_eq 25 29 rfl (by decide) dX8_cleared_22 (fun hc => ?_) (fun hc => ?_)
    · have h := hbt hc
      refine j_aload_n 0 30 rfl dX8_cleared_29 rfl rfl ?_
      refine j_iload 5 32 rfl dX8_cleared_30 rfl ?_
      refine j_iload_n 1 33 rfl dX8_cleared_32 rfl rfl ?_
      refine j_iload_n 2 34 rfl dX8_cleared_33 rfl rfl ?_
      refine j_iload_n 3 35 rfl dX8_cleared_34 rfl rfl ?_
      refine j_callV (K' := kX8_waitAt) (As := [.int v5, .int v1, .int v2, .int v3]) (S := []) dX8_cleared_35 ll_X8_124 ok_X8_waitAt ⟨by decide, by decide⟩ ly_49 rfl rfl (Nat.le_of_ble_eq_true rfl) rfl (CT.mono h (fun r G2 hr => ?_))
      obtain ⟨r3, rfl, h⟩ := hr
      show zJ kX8_cleared post 38 [(0, .ref 49), (1, .int v1), (2, .int v2), (3, .int v3), (4, .int v4), (5, .int v5)] [.int r3] G2
      exact h
    · have h := hbf hc
      refine j_iconst (-1 : Int32) 26 rfl dX8_cleared_25 (by decide) ?_
      refine j_goto 38 (by decide) dX8_cleared_26 ?_
      exact h
theorem vX8_cleared_38 (post : Option Value → GG → Prop) (v1 : Int32) (v2 : Int32) (v3 : Int32) (v4 : Int32) (v5 : Int32) (s0 : Int32) (G : GG) (h : (s0 < (0 : Int32) → (zJ kX8_cleared post 6 [(0, .ref 49), (1, .int v1), (2, .int v2), (3, .int v3), (4, .int v4), (5, .int (v5 + (1 : Int32)))] [] G)) ∧ (¬ s0 < (0 : Int32) → ((v4 < (0 : Int32) → (zJ kX8_cleared post 6 [(0, .ref 49), (1, .int v1), (2, .int v2), (3, .int v3), (4, .int s0), (5, .int (v5 + (1 : Int32)))] [] G)) ∧ (¬ v4 < (0 : Int32) → ((v4 ≤ s0 → (zJ kX8_cleared post 6 [(0, .ref 49), (1, .int v1), (2, .int v2), (3, .int v3), (4, .int v4), (5, .int (v5 + (1 : Int32)))] [] G)) ∧ (¬ v4 ≤ s0 → (zJ kX8_cleared post 6 [(0, .ref 49), (1, .int v1), (2, .int v2), (3, .int v3), (4, .int s0), (5, .int (v5 + (1 : Int32)))] [] G))))))) : zJ kX8_cleared post 38 [(0, .ref 49), (1, .int v1), (2, .int v2), (3, .int v3), (4, .int v4), (5, .int v5)] [.int s0] G := by
  refine j_istore [(0, .ref 49), (1, .int v1), (2, .int v2), (3, .int v3), (4, .int v4), (5, .int v5), (6, .int s0)] 40 rfl dX8_cleared_38 (by decide) rfl ?_
  refine j_iload 6 42 rfl dX8_cleared_40 rfl ?_
  obtain ⟨hbt, hbf⟩ := h
  refine j_if_lt 45 61 rfl (by decide) dX8_cleared_42 (fun hc => ?_) (fun hc => ?_)
  · have h := hbt hc
    refine j_iinc 5 (v5 + (1 : Int32)) [(0, .ref 49), (1, .int v1), (2, .int v2), (3, .int v3), (4, .int v4), (5, .int (v5 + (1 : Int32))), (6, .int s0)] 64 rfl dX8_cleared_61 rfl rfl (by decide) rfl ?_
    refine j_goto 6 (by decide) dX8_cleared_64 ?_
    refine j_sub [0, 1, 2, 3, 4, 5] rfl ?_
    exact h
  · have h := hbf hc
    refine j_iload 4 47 rfl dX8_cleared_45 rfl ?_
    obtain ⟨hbt, hbf⟩ := h
    refine j_if_lt 50 57 rfl (by decide) dX8_cleared_47 (fun hc => ?_) (fun hc => ?_)
    · have h := hbt hc
      refine j_iload 6 59 rfl dX8_cleared_57 rfl ?_
      refine j_istore [(0, .ref 49), (1, .int v1), (2, .int v2), (3, .int v3), (4, .int s0), (5, .int v5), (6, .int s0)] 61 rfl dX8_cleared_59 (by decide) rfl ?_
      refine j_iinc 5 (v5 + (1 : Int32)) [(0, .ref 49), (1, .int v1), (2, .int v2), (3, .int v3), (4, .int s0), (5, .int (v5 + (1 : Int32))), (6, .int s0)] 64 rfl dX8_cleared_61 rfl rfl (by decide) rfl ?_
      refine j_goto 6 (by decide) dX8_cleared_64 ?_
      refine j_sub [0, 1, 2, 3, 4, 5] rfl ?_
      exact h
    · have h := hbf hc
      refine j_iload 6 52 rfl dX8_cleared_50 rfl ?_
      refine j_iload 4 54 rfl dX8_cleared_52 rfl ?_
      obtain ⟨hbt, hbf⟩ := h
      refine j_icmp_ge 57 61 rfl (by decide) dX8_cleared_54 (fun hc => ?_) (fun hc => ?_)
      · have h := hbt hc
        refine j_iinc 5 (v5 + (1 : Int32)) [(0, .ref 49), (1, .int v1), (2, .int v2), (3, .int v3), (4, .int v4), (5, .int (v5 + (1 : Int32))), (6, .int s0)] 64 rfl dX8_cleared_61 rfl rfl (by decide) rfl ?_
        refine j_goto 6 (by decide) dX8_cleared_64 ?_
        refine j_sub [0, 1, 2, 3, 4, 5] rfl ?_
        exact h
      · have h := hbf hc
        refine j_iload 6 59 rfl dX8_cleared_57 rfl ?_
        refine j_istore [(0, .ref 49), (1, .int v1), (2, .int v2), (3, .int v3), (4, .int s0), (5, .int v5), (6, .int s0)] 61 rfl dX8_cleared_59 (by decide) rfl ?_
        refine j_iinc 5 (v5 + (1 : Int32)) [(0, .ref 49), (1, .int v1), (2, .int v2), (3, .int v3), (4, .int s0), (5, .int (v5 + (1 : Int32))), (6, .int s0)] 64 rfl dX8_cleared_61 rfl rfl (by decide) rfl ?_
        refine j_goto 6 (by decide) dX8_cleared_64 ?_
        refine j_sub [0, 1, 2, 3, 4, 5] rfl ?_
        exact h
theorem vX8_run (post : Option Value → GG → Prop) (v1 : Int32) (v2 : Int32) (v3 : Int32) (G : GG) (h : CTi kX8_isFault [.ref 49, .int v1, .int v2, .int v3] G (fun r2 G1 => (¬ r2 = (0 : Int32) → (CTi kX8_cleared [.ref 49, .int v1, .int v2, .int v3] G1 (fun r4 G3 => zJ kX8_run post 29 [(0, .ref 49), (1, .int v1), (2, .int v2), (3, .int v3), (4, .int r4), (5, .int (0 : Int32))] [] (gU G3 49 19 (1 : Int32))))) ∧ (r2 = (0 : Int32) → (post (some (.int (-1 : Int32))) G1)))) : CT kX8_run [.ref 49, .int v1, .int v2, .int v3] G post := by
  refine CT.of (by decide) (Nat.le_of_ble_eq_true rfl) ?_
  show zJ kX8_run post 0 [(0, .ref 49), (1, .int v1), (2, .int v2), (3, .int v3)] [] G
  refine j_aload_n 0 1 rfl dX8_run_0 rfl rfl ?_
  refine j_iload_n 1 2 rfl dX8_run_1 rfl rfl ?_
  refine j_iload_n 2 3 rfl dX8_run_2 rfl rfl ?_
  refine j_iload_n 3 4 rfl dX8_run_3 rfl rfl ?_
  refine j_callV (K' := kX8_isFault) (As := [.int v1, .int v2, .int v3]) (S := []) dX8_run_4 ll_X8_117 ok_X8_isFault ⟨by decide, by decide⟩ ly_49 rfl rfl (Nat.le_of_ble_eq_true rfl) rfl (CT.mono h (fun r G1 hr => ?_))
  obtain ⟨r2, rfl, h⟩ := hr
  show zJ kX8_run post 7 [(0, .ref 49), (1, .int v1), (2, .int v2), (3, .int v3)] [.int r2] G1
  obtain ⟨hbt, hbf⟩ := h
  refine j_if_ne 10 12 rfl (by decide) dX8_run_7 (fun hc => ?_) (fun hc => ?_)
  · have h := hbt hc
    refine j_aload_n 0 13 rfl dX8_run_12 rfl rfl ?_
    refine j_iload_n 1 14 rfl dX8_run_13 rfl rfl ?_
    refine j_iload_n 2 15 rfl dX8_run_14 rfl rfl ?_
    refine j_iload_n 3 16 rfl dX8_run_15 rfl rfl ?_
    refine j_callV (K' := kX8_cleared) (As := [.int v1, .int v2, .int v3]) (S := []) dX8_run_16 ll_X8_128 ok_X8_cleared ⟨by decide, by decide⟩ ly_49 rfl rfl (Nat.le_of_ble_eq_true rfl) rfl (CT.mono h (fun r G3 hr => ?_))
    obtain ⟨r4, rfl, h⟩ := hr
    show zJ kX8_run post 19 [(0, .ref 49), (1, .int v1), (2, .int v2), (3, .int v3)] [.int r4] G3
    refine j_istore [(0, .ref 49), (1, .int v1), (2, .int v2), (3, .int v3), (4, .int r4)] 21 rfl dX8_run_19 (by decide) rfl ?_
    refine j_aload_n 0 22 rfl dX8_run_21 rfl rfl ?_
    refine j_iconst (1 : Int32) 23 rfl dX8_run_22 (by decide) ?_
    refine j_put 26 rfl dX8_run_23 lp_X8_91 ly_49 rfl rfl rfl ?_
    refine j_iconst (0 : Int32) 27 rfl dX8_run_26 (by decide) ?_
    refine j_istore [(0, .ref 49), (1, .int v1), (2, .int v2), (3, .int v3), (4, .int r4), (5, .int (0 : Int32))] 29 rfl dX8_run_27 (by decide) rfl ?_
    exact h
  · have h := hbf hc
    refine j_iconst (-1 : Int32) 11 rfl dX8_run_10 (by decide) ?_
    exact j_iret dX8_run_11 rfl rfl h
theorem vX8_run_29 (post : Option Value → GG → Prop) (v1 : Int32) (v2 : Int32) (v3 : Int32) (v4 : Int32) (v5 : Int32) (G : GG) (h : ((G 49 0) ≤ v5 → (post (some (.int v4)) G)) ∧ (¬ (G 49 0) ≤ v5 → ((v5 ≤ (0 : Int32) → (zJ kX8_run post 82 [(0, .ref 49), (1, .int v1), (2, .int v2), (3, .int v3), (4, .int v4), (5, .int v5)] [.int v5, .ref 62] G)) ∧ (¬ v5 ≤ (0 : Int32) → ((v4 < (0 : Int32) → (zJ kX8_run post 82 [(0, .ref 49), (1, .int v1), (2, .int v2), (3, .int v3), (4, .int v4), (5, .int v5)] [.int v5, .ref 62] G)) ∧ (¬ v4 < (0 : Int32) → ((vp_in v5 30) ∧ ((¬ (G 60 v5.toNatClampNeg) = (0 : Int32) → (zJ kX8_run post 82 [(0, .ref 49), (1, .int v1), (2, .int v2), (3, .int v3), (4, .int v4), (5, .int v5)] [.int v5, .ref 62] G)) ∧ ((G 60 v5.toNatClampNeg) = (0 : Int32) → (CTi kX8_waitAt [.ref 49, .int v5, .int v1, .int v2, .int v3] G (fun r3 G2 => (¬ r3 = v4 → (zJ kX8_run post 82 [(0, .ref 49), (1, .int v1), (2, .int v2), (3, .int v3), (4, .int v4), (5, .int v5)] [.int v5, .ref 62] G2)) ∧ (r3 = v4 → (zJ kX8_run post 83 [(0, .ref 49), (1, .int v1), (2, .int v2), (3, .int v3), (4, .int v4), (5, .int v5)] [.int (1 : Int32), .int v5, .ref 62] G2))))))))))))) : zJ kX8_run post 29 [(0, .ref 49), (1, .int v1), (2, .int v2), (3, .int v3), (4, .int v4), (5, .int v5)] [] G := by
  refine j_iload 5 31 rfl dX8_run_29 rfl ?_
  refine j_aload_n 0 32 rfl dX8_run_31 rfl rfl ?_
  refine j_getI 35 rfl dX8_run_32 lf_X8_7 ly_49 rfl ?_
  obtain ⟨hbt, hbf⟩ := h
  refine j_icmp_ge 38 132 rfl (by decide) dX8_run_35 (fun hc => ?_) (fun hc => ?_)
  · have h := hbt hc
    refine j_iload 4 134 rfl dX8_run_132 rfl ?_
    exact j_iret dX8_run_134 rfl rfl h
  · have h := hbf hc
    refine j_aload_n 0 39 rfl dX8_run_38 rfl rfl ?_
    refine j_getR 42 rfl dX8_run_39 lf_X8_64 ly_49 rfl ?_
    refine j_iload 5 44 rfl dX8_run_42 rfl ?_
    refine j_iload 5 46 rfl dX8_run_44 rfl ?_
    obtain ⟨hbt, hbf⟩ := h
    refine j_if_le 49 82 rfl (by decide) dX8_run_46 (fun hc => ?_) (fun hc => ?_)
    · have h := hbt hc
      exact h
    · have h := hbf hc
      refine j_iload 4 51 rfl dX8_run_49 rfl ?_
      obtain ⟨hbt, hbf⟩ := h
      refine j_if_lt 54 82 rfl (by decide) dX8_run_51 (fun hc => ?_) (fun hc => ?_)
      · have h := hbt hc
        exact h
      · have h := hbf hc
        refine j_aload_n 0 55 rfl dX8_run_54 rfl rfl ?_
        refine j_getR 58 rfl dX8_run_55 lf_X8_58 ly_49 rfl ?_
        refine j_iload 5 60 rfl dX8_run_58 rfl ?_
        obtain ⟨h1, h⟩ := h
        refine j_zald 61 rfl dX8_run_60 ly_60 h1 ?_
        obtain ⟨hbt, hbf⟩ := h
        refine j_if_ne 64 82 rfl (by decide) dX8_run_61 (fun hc => ?_) (fun hc => ?_)
        · have h := hbt hc
          exact h
        · have h := hbf hc
          refine j_aload_n 0 65 rfl dX8_run_64 rfl rfl ?_
          refine j_iload 5 67 rfl dX8_run_65 rfl ?_
          refine j_iload_n 1 68 rfl dX8_run_67 rfl rfl ?_
          refine j_iload_n 2 69 rfl dX8_run_68 rfl rfl ?_
          refine j_iload_n 3 70 rfl dX8_run_69 rfl rfl ?_
          refine j_callV (K' := kX8_waitAt) (As := [.int v5, .int v1, .int v2, .int v3]) (S := [.int v5, .ref 62]) dX8_run_70 ll_X8_124 ok_X8_waitAt ⟨by decide, by decide⟩ ly_49 rfl rfl (Nat.le_of_ble_eq_true rfl) rfl (CT.mono h (fun r G2 hr => ?_))
          obtain ⟨r3, rfl, h⟩ := hr
          show zJ kX8_run post 73 [(0, .ref 49), (1, .int v1), (2, .int v2), (3, .int v3), (4, .int v4), (5, .int v5)] [.int r3, .int v5, .ref 62] G2
          refine j_iload 4 75 rfl dX8_run_73 rfl ?_
          obtain ⟨hbt, hbf⟩ := h
          refine j_icmp_ne 78 82 rfl (by decide) dX8_run_75 (fun hc => ?_) (fun hc => ?_)
          · have h := hbt hc
            exact h
          · have h := hbf hc
            refine j_iconst (1 : Int32) 79 rfl dX8_run_78 (by decide) ?_
            refine j_goto 83 (by decide) dX8_run_79 ?_
            exact h
theorem vX8_run_82 (post : Option Value → GG → Prop) (v1 : Int32) (v2 : Int32) (v3 : Int32) (v4 : Int32) (v5 : Int32) (s0 : Int32) (G : GG) (h : zJ kX8_run post 83 [(0, .ref 49), (1, .int v1), (2, .int v2), (3, .int v3), (4, .int v4), (5, .int v5)] [.int (0 : Int32), .int s0, .ref 62] G) : zJ kX8_run post 82 [(0, .ref 49), (1, .int v1), (2, .int v2), (3, .int v3), (4, .int v4), (5, .int v5)] [.int s0, .ref 62] G := by
  refine j_iconst (0 : Int32) 83 rfl dX8_run_82 (by decide) ?_
  exact h
theorem vX8_run_83 (post : Option Value → GG → Prop) (v1 : Int32) (v2 : Int32) (v3 : Int32) (v4 : Int32) (v5 : Int32) (s0 : Int32) (s1 : Int32) (G : GG) (h : (vp_in s1 30) ∧ (vp_nar .boolean s0 = s0) ∧ ((v5 ≤ (0 : Int32) → ((vp_in v5 30) ∧ (zJ kX8_run post 29 [(0, .ref 49), (1, .int v1), (2, .int v2), (3, .int v3), (4, .int v4), (5, .int (v5 + (1 : Int32)))] [] (gU (gU G 62 s1.toNatClampNeg s0) 63 v5.toNatClampNeg (0 : Int32))))) ∧ (¬ v5 ≤ (0 : Int32) → ((vp_in v5 30) ∧ ((¬ ((gU G 62 s1.toNatClampNeg s0) 62 v5.toNatClampNeg) = (0 : Int32) → ((vp_in v5 30) ∧ (zJ kX8_run post 29 [(0, .ref 49), (1, .int v1), (2, .int v2), (3, .int v3), (4, .int v4), (5, .int (v5 + (1 : Int32)))] [] (gU (gU G 62 s1.toNatClampNeg s0) 63 v5.toNatClampNeg (1 : Int32))))) ∧ (((gU G 62 s1.toNatClampNeg s0) 62 v5.toNatClampNeg) = (0 : Int32) → ((vp_in v5 30) ∧ ((vp_in ((gU G 62 s1.toNatClampNeg s0) 50 v5.toNatClampNeg) 30) ∧ ((((gU G 62 s1.toNatClampNeg s0) 63 ((gU G 62 s1.toNatClampNeg s0) 50 v5.toNatClampNeg).toNatClampNeg) = (0 : Int32) → ((vp_in v5 30) ∧ (zJ kX8_run post 29 [(0, .ref 49), (1, .int v1), (2, .int v2), (3, .int v3), (4, .int v4), (5, .int (v5 + (1 : Int32)))] [] (gU (gU G 62 s1.toNatClampNeg s0) 63 v5.toNatClampNeg (0 : Int32))))) ∧ (¬ ((gU G 62 s1.toNatClampNeg s0) 63 ((gU G 62 s1.toNatClampNeg s0) 50 v5.toNatClampNeg).toNatClampNeg) = (0 : Int32) → ((vp_in v5 30) ∧ (zJ kX8_run post 29 [(0, .ref 49), (1, .int v1), (2, .int v2), (3, .int v3), (4, .int v4), (5, .int (v5 + (1 : Int32)))] [] (gU (gU G 62 s1.toNatClampNeg s0) 63 v5.toNatClampNeg (1 : Int32)))))))))))))) : zJ kX8_run post 83 [(0, .ref 49), (1, .int v1), (2, .int v2), (3, .int v3), (4, .int v4), (5, .int v5)] [.int s0, .int s1, .ref 62] G := by
  obtain ⟨h1, h⟩ := h
  obtain ⟨h2, h⟩ := h
  refine j_zast 84 rfl dX8_run_83 ly_62 h1 h2 ?_
  refine j_aload_n 0 85 rfl dX8_run_84 rfl rfl ?_
  refine j_getR 88 rfl dX8_run_85 lf_X8_67 ly_49 rfl ?_
  refine j_iload 5 90 rfl dX8_run_88 rfl ?_
  refine j_iload 5 92 rfl dX8_run_90 rfl ?_
  obtain ⟨hbt, hbf⟩ := h
  refine j_if_le 95 124 rfl (by decide) dX8_run_92 (fun hc => ?_) (fun hc => ?_)
  · have h := hbt hc
    refine j_iconst (0 : Int32) 125 rfl dX8_run_124 (by decide) ?_
    obtain ⟨h3, h⟩ := h
    refine j_zast 126 rfl dX8_run_125 ly_63 h3 rfl ?_
    refine j_iinc 5 (v5 + (1 : Int32)) [(0, .ref 49), (1, .int v1), (2, .int v2), (3, .int v3), (4, .int v4), (5, .int (v5 + (1 : Int32)))] 129 rfl dX8_run_126 rfl rfl (by decide) rfl ?_
    refine j_goto 29 (by decide) dX8_run_129 ?_
    exact h
  · have h := hbf hc
    refine j_aload_n 0 96 rfl dX8_run_95 rfl rfl ?_
    refine j_getR 99 rfl dX8_run_96 lf_X8_64 ly_49 rfl ?_
    refine j_iload 5 101 rfl dX8_run_99 rfl ?_
    obtain ⟨h4, h⟩ := h
    refine j_zald 102 rfl dX8_run_101 ly_62 h4 ?_
    obtain ⟨hbt, hbf⟩ := h
    refine j_if_ne 105 120 rfl (by decide) dX8_run_102 (fun hc => ?_) (fun hc => ?_)
    · have h := hbt hc
      refine j_iconst (1 : Int32) 121 rfl dX8_run_120 (by decide) ?_
      refine j_goto 125 (by decide) dX8_run_121 ?_
      obtain ⟨h5, h⟩ := h
      refine j_zast 126 rfl dX8_run_125 ly_63 h5 rfl ?_
      refine j_iinc 5 (v5 + (1 : Int32)) [(0, .ref 49), (1, .int v1), (2, .int v2), (3, .int v3), (4, .int v4), (5, .int (v5 + (1 : Int32)))] 129 rfl dX8_run_126 rfl rfl (by decide) rfl ?_
      refine j_goto 29 (by decide) dX8_run_129 ?_
      exact h
    · have h := hbf hc
      refine j_aload_n 0 106 rfl dX8_run_105 rfl rfl ?_
      refine j_getR 109 rfl dX8_run_106 lf_X8_67 ly_49 rfl ?_
      refine j_aload_n 0 110 rfl dX8_run_109 rfl rfl ?_
      refine j_getR 113 rfl dX8_run_110 lf_X8_26 ly_49 rfl ?_
      refine j_iload 5 115 rfl dX8_run_113 rfl ?_
      obtain ⟨h6, h⟩ := h
      refine j_iald 116 rfl dX8_run_115 ly_50 h6 ?_
      obtain ⟨h7, h⟩ := h
      refine j_zald 117 rfl dX8_run_116 ly_63 h7 ?_
      obtain ⟨hbt, hbf⟩ := h
      refine j_if_eq 120 124 rfl (by decide) dX8_run_117 (fun hc => ?_) (fun hc => ?_)
      · have h := hbt hc
        refine j_iconst (0 : Int32) 125 rfl dX8_run_124 (by decide) ?_
        obtain ⟨h8, h⟩ := h
        refine j_zast 126 rfl dX8_run_125 ly_63 h8 rfl ?_
        refine j_iinc 5 (v5 + (1 : Int32)) [(0, .ref 49), (1, .int v1), (2, .int v2), (3, .int v3), (4, .int v4), (5, .int (v5 + (1 : Int32)))] 129 rfl dX8_run_126 rfl rfl (by decide) rfl ?_
        refine j_goto 29 (by decide) dX8_run_129 ?_
        exact h
      · have h := hbf hc
        refine j_iconst (1 : Int32) 121 rfl dX8_run_120 (by decide) ?_
        refine j_goto 125 (by decide) dX8_run_121 ?_
        obtain ⟨h9, h⟩ := h
        refine j_zast 126 rfl dX8_run_125 ly_63 h9 rfl ?_
        refine j_iinc 5 (v5 + (1 : Int32)) [(0, .ref 49), (1, .int v1), (2, .int v2), (3, .int v3), (4, .int v4), (5, .int (v5 + (1 : Int32)))] 129 rfl dX8_run_126 rfl rfl (by decide) rfl ?_
        refine j_goto 29 (by decide) dX8_run_129 ?_
        exact h
theorem vX8_ran (post : Option Value → GG → Prop) (v1 : Int32) (v2 : Int32) (G : GG) (h : ((G 49 19) = (0 : Int32) → (post (some (.int (-1 : Int32))) G)) ∧ (¬ (G 49 19) = (0 : Int32) → (CTi kX8_isIn [.int v1, .int (0 : Int32), .int ((G 49 0) - (1 : Int32))] G (fun r2 G1 => (r2 = (0 : Int32) → (post (some (.int (-1 : Int32))) G1)) ∧ (¬ r2 = (0 : Int32) → (CTi kX8_isIn [.int v2, .int (0 : Int32), .int (1 : Int32)] G1 (fun r4 G3 => (r4 = (0 : Int32) → (post (some (.int (-1 : Int32))) G3)) ∧ (¬ r4 = (0 : Int32) → ((¬ v2 = (0 : Int32) → (zJ kX8_ran post 49 [(0, .ref 49), (1, .int v1), (2, .int v2)] [] G3)) ∧ (v2 = (0 : Int32) → ((v1 = (0 : Int32) → (post (some (.int (-1 : Int32))) G3)) ∧ (¬ v1 = (0 : Int32) → ((vp_in v1 30) ∧ ((¬ (G3 56 v1.toNatClampNeg) = (0 : Int32) → (zJ kX8_ran post 49 [(0, .ref 49), (1, .int v1), (2, .int v2)] [] G3)) ∧ ((G3 56 v1.toNatClampNeg) = (0 : Int32) → (post (some (.int (-1 : Int32))) G3)))))))))))))))) : CT kX8_ran [.ref 49, .int v1, .int v2] G post := by
  refine CT.of (by decide) (Nat.le_of_ble_eq_true rfl) ?_
  show zJ kX8_ran post 0 [(0, .ref 49), (1, .int v1), (2, .int v2)] [] G
  refine j_aload_n 0 1 rfl dX8_ran_0 rfl rfl ?_
  refine j_getI 4 rfl dX8_ran_1 lf_X8_91 ly_49 rfl ?_
  obtain ⟨hbt, hbf⟩ := h
  refine j_if_eq 7 47 rfl (by decide) dX8_ran_4 (fun hc => ?_) (fun hc => ?_)
  · have h := hbt hc
    refine j_iconst (-1 : Int32) 48 rfl dX8_ran_47 (by decide) ?_
    exact j_iret dX8_ran_48 rfl rfl h
  · have h := hbf hc
    refine j_iload_n 1 8 rfl dX8_ran_7 rfl rfl ?_
    refine j_iconst (0 : Int32) 9 rfl dX8_ran_8 (by decide) ?_
    refine j_aload_n 0 10 rfl dX8_ran_9 rfl rfl ?_
    refine j_getI 13 rfl dX8_ran_10 lf_X8_7 ly_49 rfl ?_
    refine j_iconst (1 : Int32) 14 rfl dX8_ran_13 (by decide) ?_
    refine j_isub 15 rfl dX8_ran_14 ?_
    refine j_callS (K' := kX8_isIn) (As := [.int v1, .int (0 : Int32), .int ((G 49 0) - (1 : Int32))]) (S := []) dX8_ran_15 ll_X8_83 ok_X8_isIn ⟨by decide, by decide⟩ rfl (Nat.le_of_ble_eq_true rfl) rfl (CT.mono h (fun r G1 hr => ?_))
    obtain ⟨r2, rfl, h⟩ := hr
    show zJ kX8_ran post 18 [(0, .ref 49), (1, .int v1), (2, .int v2)] [.int r2] G1
    obtain ⟨hbt, hbf⟩ := h
    refine j_if_eq 21 47 rfl (by decide) dX8_ran_18 (fun hc => ?_) (fun hc => ?_)
    · have h := hbt hc
      refine j_iconst (-1 : Int32) 48 rfl dX8_ran_47 (by decide) ?_
      exact j_iret dX8_ran_48 rfl rfl h
    · have h := hbf hc
      refine j_iload_n 2 22 rfl dX8_ran_21 rfl rfl ?_
      refine j_iconst (0 : Int32) 23 rfl dX8_ran_22 (by decide) ?_
      refine j_iconst (1 : Int32) 24 rfl dX8_ran_23 (by decide) ?_
      refine j_callS (K' := kX8_isIn) (As := [.int v2, .int (0 : Int32), .int (1 : Int32)]) (S := []) dX8_ran_24 ll_X8_83 ok_X8_isIn ⟨by decide, by decide⟩ rfl (Nat.le_of_ble_eq_true rfl) rfl (CT.mono h (fun r G3 hr => ?_))
      obtain ⟨r4, rfl, h⟩ := hr
      show zJ kX8_ran post 27 [(0, .ref 49), (1, .int v1), (2, .int v2)] [.int r4] G3
      obtain ⟨hbt, hbf⟩ := h
      refine j_if_eq 30 47 rfl (by decide) dX8_ran_27 (fun hc => ?_) (fun hc => ?_)
      · have h := hbt hc
        refine j_iconst (-1 : Int32) 48 rfl dX8_ran_47 (by decide) ?_
        exact j_iret dX8_ran_48 rfl rfl h
      · have h := hbf hc
        refine j_iload_n 2 31 rfl dX8_ran_30 rfl rfl ?_
        obtain ⟨hbt, hbf⟩ := h
        refine j_if_ne 34 49 rfl (by decide) dX8_ran_31 (fun hc => ?_) (fun hc => ?_)
        · have h := hbt hc
          exact h
        · have h := hbf hc
          refine j_iload_n 1 35 rfl dX8_ran_34 rfl rfl ?_
          obtain ⟨hbt, hbf⟩ := h
          refine j_if_eq 38 47 rfl (by decide) dX8_ran_35 (fun hc => ?_) (fun hc => ?_)
          · have h := hbt hc
            refine j_iconst (-1 : Int32) 48 rfl dX8_ran_47 (by decide) ?_
            exact j_iret dX8_ran_48 rfl rfl h
          · have h := hbf hc
            refine j_aload_n 0 39 rfl dX8_ran_38 rfl rfl ?_
            refine j_getR 42 rfl dX8_ran_39 lf_X8_45 ly_49 rfl ?_
            refine j_iload_n 1 43 rfl dX8_ran_42 rfl rfl ?_
            obtain ⟨h5, h⟩ := h
            refine j_zald 44 rfl dX8_ran_43 ly_56 h5 ?_
            obtain ⟨hbt, hbf⟩ := h
            refine j_if_ne 47 49 rfl (by decide) dX8_ran_44 (fun hc => ?_) (fun hc => ?_)
            · have h := hbt hc
              exact h
            · have h := hbf hc
              refine j_iconst (-1 : Int32) 48 rfl dX8_ran_47 (by decide) ?_
              exact j_iret dX8_ran_48 rfl rfl h
theorem vX8_ran_49 (post : Option Value → GG → Prop) (v1 : Int32) (v2 : Int32) (G : GG) (h : (¬ v2 = (0 : Int32) → ((vp_in v1 30) ∧ (((G 63 v1.toNatClampNeg) = (0 : Int32) → (post (some (.int (0 : Int32))) G)) ∧ (¬ (G 63 v1.toNatClampNeg) = (0 : Int32) → (post (some (.int (1 : Int32))) G))))) ∧ (v2 = (0 : Int32) → ((vp_in v1 30) ∧ (((G 62 v1.toNatClampNeg) = (0 : Int32) → (post (some (.int (0 : Int32))) G)) ∧ (¬ (G 62 v1.toNatClampNeg) = (0 : Int32) → (post (some (.int (1 : Int32))) G)))))) : zJ kX8_ran post 49 [(0, .ref 49), (1, .int v1), (2, .int v2)] [] G := by
  refine j_iload_n 2 50 rfl dX8_ran_49 rfl rfl ?_
  obtain ⟨hbt, hbf⟩ := h
  refine j_if_ne 53 65 rfl (by decide) dX8_ran_50 (fun hc => ?_) (fun hc => ?_)
  · have h := hbt hc
    refine j_aload_n 0 66 rfl dX8_ran_65 rfl rfl ?_
    refine j_getR 69 rfl dX8_ran_66 lf_X8_67 ly_49 rfl ?_
    refine j_iload_n 1 70 rfl dX8_ran_69 rfl rfl ?_
    obtain ⟨h1, h⟩ := h
    refine j_zald 71 rfl dX8_ran_70 ly_63 h1 ?_
    obtain ⟨hbt, hbf⟩ := h
    refine j_if_eq 74 78 rfl (by decide) dX8_ran_71 (fun hc => ?_) (fun hc => ?_)
    · have h := hbt hc
      refine j_iconst (0 : Int32) 79 rfl dX8_ran_78 (by decide) ?_
      exact j_iret dX8_ran_79 rfl rfl h
    · have h := hbf hc
      refine j_iconst (1 : Int32) 75 rfl dX8_ran_74 (by decide) ?_
      refine j_goto 79 (by decide) dX8_ran_75 ?_
      exact j_iret dX8_ran_79 rfl rfl h
  · have h := hbf hc
    refine j_aload_n 0 54 rfl dX8_ran_53 rfl rfl ?_
    refine j_getR 57 rfl dX8_ran_54 lf_X8_64 ly_49 rfl ?_
    refine j_iload_n 1 58 rfl dX8_ran_57 rfl rfl ?_
    obtain ⟨h2, h⟩ := h
    refine j_zald 59 rfl dX8_ran_58 ly_62 h2 ?_
    obtain ⟨hbt, hbf⟩ := h
    refine j_if_eq 62 78 rfl (by decide) dX8_ran_59 (fun hc => ?_) (fun hc => ?_)
    · have h := hbt hc
      refine j_iconst (0 : Int32) 79 rfl dX8_ran_78 (by decide) ?_
      exact j_iret dX8_ran_79 rfl rfl h
    · have h := hbf hc
      refine j_goto 74 (by decide) dX8_ran_62 ?_
      refine j_iconst (1 : Int32) 75 rfl dX8_ran_74 (by decide) ?_
      refine j_goto 79 (by decide) dX8_ran_75 ?_
      exact j_iret dX8_ran_79 rfl rfl h
theorem vX8_arc (post : Option Value → GG → Prop) (v1 : Int32) (v2 : Int32) (v3 : Int32) (G : GG) (h : CTi kX8_isFault [.ref 49, .int v1, .int v2, .int v3] G (fun r2 G1 => (r2 = (0 : Int32) → (zJ kX8_arc post 21 [(0, .ref 49), (1, .int v1), (2, .int v2), (3, .int v3)] [.int (-1 : Int32)] G1)) ∧ (¬ r2 = (0 : Int32) → (CTi kX8_cleared [.ref 49, .int v1, .int v2, .int v3] G1 (fun r4 G3 => zJ kX8_arc post 21 [(0, .ref 49), (1, .int v1), (2, .int v2), (3, .int v3)] [.int r4] G3))))) : CT kX8_arc [.ref 49, .int v1, .int v2, .int v3] G post := by
  refine CT.of (by decide) (Nat.le_of_ble_eq_true rfl) ?_
  show zJ kX8_arc post 0 [(0, .ref 49), (1, .int v1), (2, .int v2), (3, .int v3)] [] G
  refine j_aload_n 0 1 rfl dX8_arc_0 rfl rfl ?_
  refine j_iload_n 1 2 rfl dX8_arc_1 rfl rfl ?_
  refine j_iload_n 2 3 rfl dX8_arc_2 rfl rfl ?_
  refine j_iload_n 3 4 rfl dX8_arc_3 rfl rfl ?_
  refine j_callV (K' := kX8_isFault) (As := [.int v1, .int v2, .int v3]) (S := []) dX8_arc_4 ll_X8_117 ok_X8_isFault ⟨by decide, by decide⟩ ly_49 rfl rfl (Nat.le_of_ble_eq_true rfl) rfl (CT.mono h (fun r G1 hr => ?_))
  obtain ⟨r2, rfl, h⟩ := hr
  show zJ kX8_arc post 7 [(0, .ref 49), (1, .int v1), (2, .int v2), (3, .int v3)] [.int r2] G1
  obtain ⟨hbt, hbf⟩ := h
  refine j_if_eq 10 20 rfl (by decide) dX8_arc_7 (fun hc => ?_) (fun hc => ?_)
  · have h := hbt hc
    refine j_iconst (-1 : Int32) 21 rfl dX8_arc_20 (by decide) ?_
    exact h
  · have h := hbf hc
    refine j_aload_n 0 11 rfl dX8_arc_10 rfl rfl ?_
    refine j_iload_n 1 12 rfl dX8_arc_11 rfl rfl ?_
    refine j_iload_n 2 13 rfl dX8_arc_12 rfl rfl ?_
    refine j_iload_n 3 14 rfl dX8_arc_13 rfl rfl ?_
    refine j_callV (K' := kX8_cleared) (As := [.int v1, .int v2, .int v3]) (S := []) dX8_arc_14 ll_X8_128 ok_X8_cleared ⟨by decide, by decide⟩ ly_49 rfl rfl (Nat.le_of_ble_eq_true rfl) rfl (CT.mono h (fun r G3 hr => ?_))
    obtain ⟨r4, rfl, h⟩ := hr
    show zJ kX8_arc post 17 [(0, .ref 49), (1, .int v1), (2, .int v2), (3, .int v3)] [.int r4] G3
    refine j_goto 21 (by decide) dX8_arc_17 ?_
    exact h
theorem vX8_arc_21 (post : Option Value → GG → Prop) (v1 : Int32) (v2 : Int32) (v3 : Int32) (s0 : Int32) (G : GG) (h : ((0 : Int32) ≤ s0 → (CTl kX8_sum [.ref 49, .int v1, .int v2, .int v3] G (fun r2 G1 => CTl kX8_sum [.ref 49, .int v1, .int v2, .int v3] G1 (fun r4 G3 => (¬ (r2 * r4) = (0 : Int64)) ∧ (post (some (.long (((((256 : Int64) * (G 49 1).toInt64) * (G 49 1).toInt64) * s0.toInt64) / (r2 * r4)))) G3))))) ∧ (¬ (0 : Int32) ≤ s0 → (post (some (.long (-1 : Int64))) G))) : zJ kX8_arc post 21 [(0, .ref 49), (1, .int v1), (2, .int v2), (3, .int v3)] [.int s0] G := by
  refine j_istore [(0, .ref 49), (1, .int v1), (2, .int v2), (3, .int v3), (4, .int s0)] 23 rfl dX8_arc_21 (by decide) rfl ?_
  refine j_iload 4 25 rfl dX8_arc_23 rfl ?_
  obtain ⟨hbt, hbf⟩ := h
  refine j_if_ge 28 34 rfl (by decide) dX8_arc_25 (fun hc => ?_) (fun hc => ?_)
  · have h := hbt hc
    refine j_ldc2_w (256 : Int64) 37 rfl dX8_arc_34 lc_X8_132 ?_
    refine j_aload_n 0 38 rfl dX8_arc_37 rfl rfl ?_
    refine j_getI 41 rfl dX8_arc_38 lf_X8_13 ly_49 rfl ?_
    refine j_i2l 42 rfl dX8_arc_41 ?_
    refine j_lmul 43 rfl dX8_arc_42 ?_
    refine j_aload_n 0 44 rfl dX8_arc_43 rfl rfl ?_
    refine j_getI 47 rfl dX8_arc_44 lf_X8_13 ly_49 rfl ?_
    refine j_i2l 48 rfl dX8_arc_47 ?_
    refine j_lmul 49 rfl dX8_arc_48 ?_
    refine j_iload 4 51 rfl dX8_arc_49 rfl ?_
    refine j_i2l 52 rfl dX8_arc_51 ?_
    refine j_lmul 53 rfl dX8_arc_52 ?_
    refine j_aload_n 0 54 rfl dX8_arc_53 rfl rfl ?_
    refine j_iload_n 1 55 rfl dX8_arc_54 rfl rfl ?_
    refine j_iload_n 2 56 rfl dX8_arc_55 rfl rfl ?_
    refine j_iload_n 3 57 rfl dX8_arc_56 rfl rfl ?_
    refine j_callV (K' := kX8_sum) (As := [.int v1, .int v2, .int v3]) (S := [.long ((((256 : Int64) * (G 49 1).toInt64) * (G 49 1).toInt64) * s0.toInt64)]) dX8_arc_57 ll_X8_109 ok_X8_sum ⟨by decide, by decide⟩ ly_49 rfl rfl (Nat.le_of_ble_eq_true rfl) rfl (CT.mono h (fun r G1 hr => ?_))
    obtain ⟨r2, rfl, h⟩ := hr
    show zJ kX8_arc post 60 [(0, .ref 49), (1, .int v1), (2, .int v2), (3, .int v3), (4, .int s0)] [.long r2, .long ((((256 : Int64) * (G 49 1).toInt64) * (G 49 1).toInt64) * s0.toInt64)] G1
    refine j_aload_n 0 61 rfl dX8_arc_60 rfl rfl ?_
    refine j_iload_n 1 62 rfl dX8_arc_61 rfl rfl ?_
    refine j_iload_n 2 63 rfl dX8_arc_62 rfl rfl ?_
    refine j_iload_n 3 64 rfl dX8_arc_63 rfl rfl ?_
    refine j_callV (K' := kX8_sum) (As := [.int v1, .int v2, .int v3]) (S := [.long r2, .long ((((256 : Int64) * (G 49 1).toInt64) * (G 49 1).toInt64) * s0.toInt64)]) dX8_arc_64 ll_X8_109 ok_X8_sum ⟨by decide, by decide⟩ ly_49 rfl rfl (Nat.le_of_ble_eq_true rfl) rfl (CT.mono h (fun r G3 hr => ?_))
    obtain ⟨r4, rfl, h⟩ := hr
    show zJ kX8_arc post 67 [(0, .ref 49), (1, .int v1), (2, .int v2), (3, .int v3), (4, .int s0)] [.long r4, .long r2, .long ((((256 : Int64) * (G 49 1).toInt64) * (G 49 1).toInt64) * s0.toInt64)] G3
    refine j_lmul 68 rfl dX8_arc_67 ?_
    obtain ⟨h5, h⟩ := h
    refine j_ldiv 69 rfl dX8_arc_68 h5 ?_
    exact j_lret dX8_arc_69 rfl h
  · have h := hbf hc
    refine j_ldc2_w (-1 : Int64) 31 rfl dX8_arc_28 lc_X8_120 ?_
    refine j_goto 69 (by decide) dX8_arc_31 ?_
    exact j_lret dX8_arc_69 rfl h
theorem vX8_worst (post : Option Value → GG → Prop)  (G : GG) (h : zJ kX8_worst post 4 [(0, .ref 49), (1, .long (0 : Int64)), (3, .int (1 : Int32))] [] G) : CT kX8_worst [.ref 49] G post := by
  refine CT.of (by decide) (Nat.le_of_ble_eq_true rfl) ?_
  show zJ kX8_worst post 0 [(0, .ref 49)] [] G
  refine j_lconst (0 : Int64) 1 rfl dX8_worst_0 (by decide) ?_
  refine j_lstore_n [(0, .ref 49), (1, .long (0 : Int64))] 2 rfl dX8_worst_1 rfl (by decide) rfl ?_
  refine j_iconst (1 : Int32) 3 rfl dX8_worst_2 (by decide) ?_
  refine j_istore_n [(0, .ref 49), (1, .long (0 : Int64)), (3, .int (1 : Int32))] 4 rfl dX8_worst_3 rfl (by decide) rfl ?_
  exact h
theorem vX8_worst_4 (post : Option Value → GG → Prop) (v1 : Int64) (v3 : Int32) (G : GG) (h : ((G 49 0) ≤ v3 → (post (some (.long v1)) G)) ∧ (¬ (G 49 0) ≤ v3 → (zJ kX8_worst post 15 [(0, .ref 49), (1, .long v1), (3, .int v3), (4, .int (0 : Int32))] [] G))) : zJ kX8_worst post 4 [(0, .ref 49), (1, .long v1), (3, .int v3)] [] G := by
  refine j_iload_n 2 5 rfl dX8_worst_4 rfl rfl ?_
  refine j_aload_n 0 6 rfl dX8_worst_5 rfl rfl ?_
  refine j_getI 9 rfl dX8_worst_6 lf_X8_7 ly_49 rfl ?_
  obtain ⟨hbt, hbf⟩ := h
  refine j_icmp_ge 12 75 rfl (by decide) dX8_worst_9 (fun hc => ?_) (fun hc => ?_)
  · have h := hbt hc
    refine j_lload_n 1 76 rfl dX8_worst_75 rfl rfl ?_
    exact j_lret dX8_worst_76 rfl h
  · have h := hbf hc
    refine j_iconst (0 : Int32) 13 rfl dX8_worst_12 (by decide) ?_
    refine j_istore [(0, .ref 49), (1, .long v1), (3, .int v3), (4, .int (0 : Int32))] 15 rfl dX8_worst_13 (by decide) rfl ?_
    exact h
theorem vX8_worst_15 (post : Option Value → GG → Prop) (v1 : Int64) (v3 : Int32) (v4 : Int32) (G : GG) (h : ((34 : Int32) ≤ v4 → (zJ kX8_worst post 4 [(0, .ref 49), (1, .long v1), (3, .int (v3 + (1 : Int32)))] [] G)) ∧ (¬ (34 : Int32) ≤ v4 → (CTl kX8_arc [.ref 49, .int v3, .int (v4 / (2 : Int32)), .int ((v4 - v4 / (2 : Int32) * (2 : Int32)) * (G 49 5))] G (fun r2 G1 => ((0 : Int64) ≤ r2 → ((r2 ≤ v1 → (zJ kX8_worst post 15 [(0, .ref 49), (1, .long v1), (3, .int v3), (4, .int (v4 + (1 : Int32)))] [] G1)) ∧ (¬ r2 ≤ v1 → (zJ kX8_worst post 15 [(0, .ref 49), (1, .long r2), (3, .int v3), (4, .int (v4 + (1 : Int32)))] [] G1)))) ∧ (¬ (0 : Int64) ≤ r2 → (post (some (.long (-1 : Int64))) G1)))))) : zJ kX8_worst post 15 [(0, .ref 49), (1, .long v1), (3, .int v3), (4, .int v4)] [] G := by
  refine j_iload 3 17 rfl dX8_worst_15 rfl ?_
  refine j_bipush (34 : Int32) 19 rfl dX8_worst_17 (by decide) ?_
  obtain ⟨hbt, hbf⟩ := h
  refine j_icmp_ge 22 69 rfl (by decide) dX8_worst_19 (fun hc => ?_) (fun hc => ?_)
  · have h := hbt hc
    refine j_iinc 2 (v3 + (1 : Int32)) [(0, .ref 49), (1, .long v1), (3, .int (v3 + (1 : Int32))), (4, .int v4)] 72 rfl dX8_worst_69 rfl rfl (by decide) rfl ?_
    refine j_goto 4 (by decide) dX8_worst_72 ?_
    refine j_sub [0, 1, 2] rfl ?_
    exact h
  · have h := hbf hc
    refine j_aload_n 0 23 rfl dX8_worst_22 rfl rfl ?_
    refine j_iload_n 2 24 rfl dX8_worst_23 rfl rfl ?_
    refine j_iload 3 26 rfl dX8_worst_24 rfl ?_
    refine j_iconst (2 : Int32) 27 rfl dX8_worst_26 (by decide) ?_
    refine j_idiv 28 rfl dX8_worst_27 (by decide) ?_
    refine j_iload 3 30 rfl dX8_worst_28 rfl ?_
    refine j_iconst (2 : Int32) 31 rfl dX8_worst_30 (by decide) ?_
    refine j_irem 32 rfl dX8_worst_31 (by decide) ?_
    refine j_aload_n 0 33 rfl dX8_worst_32 rfl rfl ?_
    refine j_getI 36 rfl dX8_worst_33 lf_X8_98 ly_49 rfl ?_
    refine j_imul 37 rfl dX8_worst_36 ?_
    refine j_callV (K' := kX8_arc) (As := [.int v3, .int (v4 / (2 : Int32)), .int ((v4 - v4 / (2 : Int32) * (2 : Int32)) * (G 49 5))]) (S := []) dX8_worst_37 ll_X8_134 ok_X8_arc ⟨by decide, by decide⟩ ly_49 rfl rfl (Nat.le_of_ble_eq_true rfl) rfl (CT.mono h (fun r G1 hr => ?_))
    obtain ⟨r2, rfl, h⟩ := hr
    show zJ kX8_worst post 40 [(0, .ref 49), (1, .long v1), (3, .int v3), (4, .int v4)] [.long r2] G1
    refine j_lstore [(0, .ref 49), (1, .long v1), (3, .int v3), (4, .int v4), (5, .long r2)] 42 rfl dX8_worst_40 (by decide) rfl ?_
    refine j_lload 4 44 rfl dX8_worst_42 rfl ?_
    refine j_lconst (0 : Int64) 45 rfl dX8_worst_44 (by decide) ?_
    obtain ⟨hbt, hbf⟩ := h
    refine j_lif_ge 46 49 53 rfl rfl (by decide) dX8_worst_45 dX8_worst_46 (fun hc => ?_) (fun hc => ?_)
    · have h := hbt hc
      refine j_lload 4 55 rfl dX8_worst_53 rfl ?_
      refine j_lload_n 1 56 rfl dX8_worst_55 rfl rfl ?_
      obtain ⟨hbt, hbf⟩ := h
      refine j_lif_le 57 60 63 rfl rfl (by decide) dX8_worst_56 dX8_worst_57 (fun hc => ?_) (fun hc => ?_)
      · have h := hbt hc
        refine j_iinc 3 (v4 + (1 : Int32)) [(0, .ref 49), (1, .long v1), (3, .int v3), (4, .int (v4 + (1 : Int32))), (5, .long r2)] 66 rfl dX8_worst_63 rfl rfl (by decide) rfl ?_
        refine j_goto 15 (by decide) dX8_worst_66 ?_
        refine j_sub [0, 1, 2, 3] rfl ?_
        exact h
      · have h := hbf hc
        refine j_lload 4 62 rfl dX8_worst_60 rfl ?_
        refine j_lstore_n [(0, .ref 49), (1, .long r2), (3, .int v3), (4, .int v4), (5, .long r2)] 63 rfl dX8_worst_62 rfl (by decide) rfl ?_
        refine j_iinc 3 (v4 + (1 : Int32)) [(0, .ref 49), (1, .long r2), (3, .int v3), (4, .int (v4 + (1 : Int32))), (5, .long r2)] 66 rfl dX8_worst_63 rfl rfl (by decide) rfl ?_
        refine j_goto 15 (by decide) dX8_worst_66 ?_
        refine j_sub [0, 1, 2, 3] rfl ?_
        exact h
    · have h := hbf hc
      refine j_ldc2_w (-1 : Int64) 52 rfl dX8_worst_49 lc_X8_120 ?_
      exact j_lret dX8_worst_52 rfl h
theorem vX8_keeper (post : Option Value → GG → Prop) (v1 : Int32) (G : GG) (h : zJ kX8_keeper post 2 [(0, .ref 49), (2, .int v1)] [] G) : CT kX8_keeper [.ref 49, .int v1] G post := by
  refine CT.of (by decide) (Nat.le_of_ble_eq_true rfl) ?_
  show zJ kX8_keeper post 0 [(0, .ref 49), (1, .int v1)] [] G
  refine j_iload_n 1 1 rfl dX8_keeper_0 rfl rfl ?_
  refine j_istore_n [(0, .ref 49), (1, .int v1), (2, .int v1)] 2 rfl dX8_keeper_1 rfl (by decide) rfl ?_
  refine j_sub [0, 2] rfl ?_
  exact h
theorem vX8_keeper_2 (post : Option Value → GG → Prop) (v2 : Int32) (G : GG) (h : (v2 ≤ (0 : Int32) → (zJ kX8_keeper post 25 [(2, .int v2)] [] G)) ∧ (¬ v2 ≤ (0 : Int32) → ((vp_in v2 30) ∧ ((¬ (G 56 v2.toNatClampNeg) = (0 : Int32) → (zJ kX8_keeper post 25 [(2, .int v2)] [] G)) ∧ ((G 56 v2.toNatClampNeg) = (0 : Int32) → ((vp_in v2 30) ∧ (zJ kX8_keeper post 2 [(0, .ref 49), (2, .int (G 50 v2.toNatClampNeg))] [] G))))))) : zJ kX8_keeper post 2 [(0, .ref 49), (2, .int v2)] [] G := by
  refine j_iload_n 1 3 rfl dX8_keeper_2 rfl rfl ?_
  obtain ⟨hbt, hbf⟩ := h
  refine j_if_le 6 25 rfl (by decide) dX8_keeper_3 (fun hc => ?_) (fun hc => ?_)
  · have h := hbt hc
    refine j_sub [1] rfl ?_
    exact h
  · have h := hbf hc
    refine j_aload_n 0 7 rfl dX8_keeper_6 rfl rfl ?_
    refine j_getR 10 rfl dX8_keeper_7 lf_X8_45 ly_49 rfl ?_
    refine j_iload_n 1 11 rfl dX8_keeper_10 rfl rfl ?_
    obtain ⟨h1, h⟩ := h
    refine j_zald 12 rfl dX8_keeper_11 ly_56 h1 ?_
    obtain ⟨hbt, hbf⟩ := h
    refine j_if_ne 15 25 rfl (by decide) dX8_keeper_12 (fun hc => ?_) (fun hc => ?_)
    · have h := hbt hc
      refine j_sub [1] rfl ?_
      exact h
    · have h := hbf hc
      refine j_aload_n 0 16 rfl dX8_keeper_15 rfl rfl ?_
      refine j_getR 19 rfl dX8_keeper_16 lf_X8_26 ly_49 rfl ?_
      refine j_iload_n 1 20 rfl dX8_keeper_19 rfl rfl ?_
      obtain ⟨h2, h⟩ := h
      refine j_iald 21 rfl dX8_keeper_20 ly_50 h2 ?_
      refine j_istore_n [(0, .ref 49), (2, .int (G 50 v2.toNatClampNeg))] 22 rfl dX8_keeper_21 rfl (by decide) rfl ?_
      refine j_goto 2 (by decide) dX8_keeper_22 ?_
      exact h
theorem vX8_keeper_25 (post : Option Value → GG → Prop) (v2 : Int32) (G : GG) (h : (v2 ≤ (0 : Int32) → (post (some (.int (-1 : Int32))) G)) ∧ (¬ v2 ≤ (0 : Int32) → (post (some (.int v2)) G))) : zJ kX8_keeper post 25 [(2, .int v2)] [] G := by
  refine j_iload_n 0 26 rfl dX8_keeper_25 rfl rfl ?_
  obtain ⟨hbt, hbf⟩ := h
  refine j_if_le 29 33 rfl (by decide) dX8_keeper_26 (fun hc => ?_) (fun hc => ?_)
  · have h := hbt hc
    refine j_iconst (-1 : Int32) 34 rfl dX8_keeper_33 (by decide) ?_
    exact j_iret dX8_keeper_34 rfl rfl h
  · have h := hbf hc
    refine j_iload_n 0 30 rfl dX8_keeper_29 rfl rfl ?_
    refine j_goto 34 (by decide) dX8_keeper_30 ?_
    exact j_iret dX8_keeper_34 rfl rfl h
theorem vX8_next (post : Option Value → GG → Prop) (v1 : Int32) (G : GG) (h : CTi kX8_keeper [.ref 49, .int v1] G (fun r2 G1 => ((0 : Int32) ≤ r2 → ((vp_in r2 30) ∧ (CTi kX8_keeper [.ref 49, .int (G1 50 r2.toNatClampNeg)] G1 (fun r5 G4 => post (some (.int r5)) G4)))) ∧ (¬ (0 : Int32) ≤ r2 → (post (some (.int (-1 : Int32))) G1)))) : CT kX8_next [.ref 49, .int v1] G post := by
  refine CT.of (by decide) (Nat.le_of_ble_eq_true rfl) ?_
  show zJ kX8_next post 0 [(0, .ref 49), (1, .int v1)] [] G
  refine j_aload_n 0 1 rfl dX8_next_0 rfl rfl ?_
  refine j_iload_n 1 2 rfl dX8_next_1 rfl rfl ?_
  refine j_callV (K' := kX8_keeper) (As := [.int v1]) (S := []) dX8_next_2 ll_X8_137 ok_X8_keeper ⟨by decide, by decide⟩ ly_49 rfl rfl (Nat.le_of_ble_eq_true rfl) rfl (CT.mono h (fun r G1 hr => ?_))
  obtain ⟨r2, rfl, h⟩ := hr
  show zJ kX8_next post 5 [(0, .ref 49), (1, .int v1)] [.int r2] G1
  refine j_istore_n [(0, .ref 49), (1, .int v1), (2, .int r2)] 6 rfl dX8_next_5 rfl (by decide) rfl ?_
  refine j_iload_n 2 7 rfl dX8_next_6 rfl rfl ?_
  obtain ⟨hbt, hbf⟩ := h
  refine j_if_ge 10 14 rfl (by decide) dX8_next_7 (fun hc => ?_) (fun hc => ?_)
  · have h := hbt hc
    refine j_aload_n 0 15 rfl dX8_next_14 rfl rfl ?_
    refine j_aload_n 0 16 rfl dX8_next_15 rfl rfl ?_
    refine j_getR 19 rfl dX8_next_16 lf_X8_26 ly_49 rfl ?_
    refine j_iload_n 2 20 rfl dX8_next_19 rfl rfl ?_
    obtain ⟨h3, h⟩ := h
    refine j_iald 21 rfl dX8_next_20 ly_50 h3 ?_
    refine j_callV (K' := kX8_keeper) (As := [.int (G1 50 r2.toNatClampNeg)]) (S := []) dX8_next_21 ll_X8_137 ok_X8_keeper ⟨by decide, by decide⟩ ly_49 rfl rfl (Nat.le_of_ble_eq_true rfl) rfl (CT.mono h (fun r G4 hr => ?_))
    obtain ⟨r5, rfl, h⟩ := hr
    show zJ kX8_next post 24 [(0, .ref 49), (1, .int v1), (2, .int r2)] [.int r5] G4
    exact j_iret dX8_next_24 rfl rfl h
  · have h := hbf hc
    refine j_iconst (-1 : Int32) 11 rfl dX8_next_10 (by decide) ?_
    refine j_goto 24 (by decide) dX8_next_11 ?_
    exact j_iret dX8_next_24 rfl rfl h
theorem vX8_loadOf (post : Option Value → GG → Prop) (v1 : Int32) (G : GG) (h : zJ kX8_loadOf post 4 [(0, .ref 49), (1, .int v1), (2, .int (0 : Int32)), (3, .int (1 : Int32))] [] G) : CT kX8_loadOf [.ref 49, .int v1] G post := by
  refine CT.of (by decide) (Nat.le_of_ble_eq_true rfl) ?_
  show zJ kX8_loadOf post 0 [(0, .ref 49), (1, .int v1)] [] G
  refine j_iconst (0 : Int32) 1 rfl dX8_loadOf_0 (by decide) ?_
  refine j_istore_n [(0, .ref 49), (1, .int v1), (2, .int (0 : Int32))] 2 rfl dX8_loadOf_1 rfl (by decide) rfl ?_
  refine j_iconst (1 : Int32) 3 rfl dX8_loadOf_2 (by decide) ?_
  refine j_istore_n [(0, .ref 49), (1, .int v1), (2, .int (0 : Int32)), (3, .int (1 : Int32))] 4 rfl dX8_loadOf_3 rfl (by decide) rfl ?_
  exact h
theorem vX8_loadOf_4 (post : Option Value → GG → Prop) (v1 : Int32) (v2 : Int32) (v3 : Int32) (G : GG) (h : ((G 49 0) ≤ v3 → (post (some (.int v2)) G)) ∧ (¬ (G 49 0) ≤ v3 → (CTi kX8_isOnWay [.ref 49, .int v1, .int v3] G (fun r2 G1 => (r2 = (0 : Int32) → (zJ kX8_loadOf post 4 [(0, .ref 49), (1, .int v1), (2, .int (v2 + (0 : Int32))), (3, .int (v3 + (1 : Int32)))] [] G1)) ∧ (¬ r2 = (0 : Int32) → ((vp_in v3 30) ∧ (zJ kX8_loadOf post 4 [(0, .ref 49), (1, .int v1), (2, .int (v2 + (G1 52 v3.toNatClampNeg))), (3, .int (v3 + (1 : Int32)))] [] G1))))))) : zJ kX8_loadOf post 4 [(0, .ref 49), (1, .int v1), (2, .int v2), (3, .int v3)] [] G := by
  refine j_iload_n 3 5 rfl dX8_loadOf_4 rfl rfl ?_
  refine j_aload_n 0 6 rfl dX8_loadOf_5 rfl rfl ?_
  refine j_getI 9 rfl dX8_loadOf_6 lf_X8_7 ly_49 rfl ?_
  obtain ⟨hbt, hbf⟩ := h
  refine j_icmp_ge 12 40 rfl (by decide) dX8_loadOf_9 (fun hc => ?_) (fun hc => ?_)
  · have h := hbt hc
    refine j_iload_n 2 41 rfl dX8_loadOf_40 rfl rfl ?_
    exact j_iret dX8_loadOf_41 rfl rfl h
  · have h := hbf hc
    refine j_iload_n 2 13 rfl dX8_loadOf_12 rfl rfl ?_
    refine j_aload_n 0 14 rfl dX8_loadOf_13 rfl rfl ?_
    refine j_iload_n 1 15 rfl dX8_loadOf_14 rfl rfl ?_
    refine j_iload_n 3 16 rfl dX8_loadOf_15 rfl rfl ?_
    refine j_callV (K' := kX8_isOnWay) (As := [.int v1, .int v3]) (S := [.int v2]) dX8_loadOf_16 ll_X8_105 ok_X8_isOnWay ⟨by decide, by decide⟩ ly_49 rfl rfl (Nat.le_of_ble_eq_true rfl) rfl (CT.mono h (fun r G1 hr => ?_))
    obtain ⟨r2, rfl, h⟩ := hr
    show zJ kX8_loadOf post 19 [(0, .ref 49), (1, .int v1), (2, .int v2), (3, .int v3)] [.int r2, .int v2] G1
    obtain ⟨hbt, hbf⟩ := h
    refine j_if_eq 22 31 rfl (by decide) dX8_loadOf_19 (fun hc => ?_) (fun hc => ?_)
    · have h := hbt hc
      refine j_iconst (0 : Int32) 32 rfl dX8_loadOf_31 (by decide) ?_
      refine j_iadd 33 rfl dX8_loadOf_32 ?_
      refine j_istore_n [(0, .ref 49), (1, .int v1), (2, .int (v2 + (0 : Int32))), (3, .int v3)] 34 rfl dX8_loadOf_33 rfl (by decide) rfl ?_
      refine j_iinc 3 (v3 + (1 : Int32)) [(0, .ref 49), (1, .int v1), (2, .int (v2 + (0 : Int32))), (3, .int (v3 + (1 : Int32)))] 37 rfl dX8_loadOf_34 rfl rfl (by decide) rfl ?_
      refine j_goto 4 (by decide) dX8_loadOf_37 ?_
      exact h
    · have h := hbf hc
      refine j_aload_n 0 23 rfl dX8_loadOf_22 rfl rfl ?_
      refine j_getR 26 rfl dX8_loadOf_23 lf_X8_33 ly_49 rfl ?_
      refine j_iload_n 3 27 rfl dX8_loadOf_26 rfl rfl ?_
      obtain ⟨h3, h⟩ := h
      refine j_iald 28 rfl dX8_loadOf_27 ly_52 h3 ?_
      refine j_goto 32 (by decide) dX8_loadOf_28 ?_
      refine j_iadd 33 rfl dX8_loadOf_32 ?_
      refine j_istore_n [(0, .ref 49), (1, .int v1), (2, .int (v2 + (G1 52 v3.toNatClampNeg))), (3, .int v3)] 34 rfl dX8_loadOf_33 rfl (by decide) rfl ?_
      refine j_iinc 3 (v3 + (1 : Int32)) [(0, .ref 49), (1, .int v1), (2, .int (v2 + (G1 52 v3.toNatClampNeg))), (3, .int (v3 + (1 : Int32)))] 37 rfl dX8_loadOf_34 rfl rfl (by decide) rfl ?_
      refine j_goto 4 (by decide) dX8_loadOf_37 ?_
      exact h
theorem vX8_lineOf (post : Option Value → GG → Prop) (v1 : Int32) (v2 : Int32) (G : GG) (h : CTi kX8_isLine [.ref 49, .int v1] G (fun r2 G1 => (¬ r2 = (0 : Int32) → ((v2.toInt < 0 ∨ 9 < v2.toInt → (post (some (.int (-1 : Int32))) G1)) ∧ (v2 = (0 : Int32) → ((vp_in v1 30) ∧ (post (some (.int (G1 50 v1.toNatClampNeg))) G1))) ∧ (v2 = (1 : Int32) → (CTi kX8_keeper [.ref 49, .int v1] G1 (fun r5 G4 => post (some (.int r5)) G4))) ∧ (v2 = (2 : Int32) → (CTi kX8_next [.ref 49, .int v1] G1 (fun r7 G6 => post (some (.int r7)) G6))) ∧ (v2 = (3 : Int32) → (CTi kX8_loadOf [.ref 49, .int v1] G1 (fun r9 G8 => post (some (.int r9)) G8))) ∧ (v2 = (4 : Int32) → ((vp_in v1 30) ∧ (((G1 56 v1.toNatClampNeg) = (0 : Int32) → (post (some (.int (0 : Int32))) G1)) ∧ (¬ (G1 56 v1.toNatClampNeg) = (0 : Int32) → (post (some (.int (1 : Int32))) G1))))) ∧ (v2 = (5 : Int32) → ((vp_in v1 30) ∧ (((G1 56 v1.toNatClampNeg) = (0 : Int32) → (post (some (.int (-1 : Int32))) G1)) ∧ (¬ (G1 56 v1.toNatClampNeg) = (0 : Int32) → ((vp_in v1 30) ∧ (post (some (.int (G1 57 v1.toNatClampNeg))) G1)))))) ∧ (v2 = (6 : Int32) → ((vp_in v1 30) ∧ (((G1 56 v1.toNatClampNeg) = (0 : Int32) → (post (some (.int (-1 : Int32))) G1)) ∧ (¬ (G1 56 v1.toNatClampNeg) = (0 : Int32) → ((vp_in v1 30) ∧ (post (some (.int (G1 58 v1.toNatClampNeg))) G1)))))) ∧ (v2 = (7 : Int32) → ((vp_in v1 30) ∧ (((G1 56 v1.toNatClampNeg) = (0 : Int32) → (post (some (.int (-1 : Int32))) G1)) ∧ (¬ (G1 56 v1.toNatClampNeg) = (0 : Int32) → ((vp_in v1 30) ∧ (post (some (.int (G1 59 v1.toNatClampNeg))) G1)))))) ∧ (v2 = (8 : Int32) → ((vp_in v1 30) ∧ (((G1 56 v1.toNatClampNeg) = (0 : Int32) → (post (some (.int (-1 : Int32))) G1)) ∧ (¬ (G1 56 v1.toNatClampNeg) = (0 : Int32) → ((vp_in v1 30) ∧ (((G1 60 v1.toNatClampNeg) = (0 : Int32) → (post (some (.int (0 : Int32))) G1)) ∧ (¬ (G1 60 v1.toNatClampNeg) = (0 : Int32) → (post (some (.int (1 : Int32))) G1)))))))) ∧ (v2 = (9 : Int32) → ((vp_in v1 30) ∧ (((G1 56 v1.toNatClampNeg) = (0 : Int32) → (post (some (.int (-1 : Int32))) G1)) ∧ (¬ (G1 56 v1.toNatClampNeg) = (0 : Int32) → ((vp_in v1 30) ∧ (post (some (.int (G1 61 v1.toNatClampNeg))) G1)))))))) ∧ (r2 = (0 : Int32) → (post (some (.int (-1 : Int32))) G1)))) : CT kX8_lineOf [.ref 49, .int v1, .int v2] G post := by
  refine CT.of (by decide) (Nat.le_of_ble_eq_true rfl) ?_
  show zJ kX8_lineOf post 0 [(0, .ref 49), (1, .int v1), (2, .int v2)] [] G
  refine j_aload_n 0 1 rfl dX8_lineOf_0 rfl rfl ?_
  refine j_iload_n 1 2 rfl dX8_lineOf_1 rfl rfl ?_
  refine j_callV (K' := kX8_isLine) (As := [.int v1]) (S := []) dX8_lineOf_2 ll_X8_87 ok_X8_isLine ⟨by decide, by decide⟩ ly_49 rfl rfl (Nat.le_of_ble_eq_true rfl) rfl (CT.mono h (fun r G1 hr => ?_))
  obtain ⟨r2, rfl, h⟩ := hr
  show zJ kX8_lineOf post 5 [(0, .ref 49), (1, .int v1), (2, .int v2)] [.int r2] G1
  obtain ⟨hbt, hbf⟩ := h
  refine j_if_ne 8 10 rfl (by decide) dX8_lineOf_5 (fun hc => ?_) (fun hc => ?_)
  · have h := hbt hc
    refine j_iload_n 2 11 rfl dX8_lineOf_10 rfl rfl ?_
    obtain ⟨hdf, h⟩ := h
    by_cases hout : v2.toInt < 0 ∨ 9 < v2.toInt
    · have h := hdf hout
      refine j_tabOut 212 dX8_lineOf_11 hout (by decide) ?_
      refine j_iconst (-1 : Int32) 213 rfl dX8_lineOf_212 (by decide) ?_
      exact j_iret dX8_lineOf_213 rfl rfl h
    · have hin : v2.toInt = 0 ∨ v2.toInt = 1 ∨ v2.toInt = 2 ∨ v2.toInt = 3 ∨ v2.toInt = 4 ∨ v2.toInt = 5 ∨ v2.toInt = 6 ∨ v2.toInt = 7 ∨ v2.toInt = 8 ∨ v2.toInt = 9 := by omega
      obtain ⟨hc0, hc1, hc2, hc3, hc4, hc5, hc6, hc7, hc8, hc9⟩ := h
      rcases hin with hv | hv | hv | hv | hv | hv | hv | hv | hv | hv
      · have h := hc0 (Int32.toInt_inj.mp (hv.trans (by decide)))
        refine j_tabIn 64 dX8_lineOf_11 hv (by decide) (by decide) rfl (by decide) ?_
        refine j_aload_n 0 65 rfl dX8_lineOf_64 rfl rfl ?_
        refine j_getR 68 rfl dX8_lineOf_65 lf_X8_26 ly_49 rfl ?_
        refine j_iload_n 1 69 rfl dX8_lineOf_68 rfl rfl ?_
        obtain ⟨h3, h⟩ := h
        refine j_iald 70 rfl dX8_lineOf_69 ly_50 h3 ?_
        exact j_iret dX8_lineOf_70 rfl rfl h
      · have h := hc1 (Int32.toInt_inj.mp (hv.trans (by decide)))
        refine j_tabIn 71 dX8_lineOf_11 hv (by decide) (by decide) rfl (by decide) ?_
        refine j_aload_n 0 72 rfl dX8_lineOf_71 rfl rfl ?_
        refine j_iload_n 1 73 rfl dX8_lineOf_72 rfl rfl ?_
        refine j_callV (K' := kX8_keeper) (As := [.int v1]) (S := []) dX8_lineOf_73 ll_X8_137 ok_X8_keeper ⟨by decide, by decide⟩ ly_49 rfl rfl (Nat.le_of_ble_eq_true rfl) rfl (CT.mono h (fun r G4 hr => ?_))
        obtain ⟨r5, rfl, h⟩ := hr
        show zJ kX8_lineOf post 76 [(0, .ref 49), (1, .int v1), (2, .int v2)] [.int r5] G4
        exact j_iret dX8_lineOf_76 rfl rfl h
      · have h := hc2 (Int32.toInt_inj.mp (hv.trans (by decide)))
        refine j_tabIn 77 dX8_lineOf_11 hv (by decide) (by decide) rfl (by decide) ?_
        refine j_aload_n 0 78 rfl dX8_lineOf_77 rfl rfl ?_
        refine j_iload_n 1 79 rfl dX8_lineOf_78 rfl rfl ?_
        refine j_callV (K' := kX8_next) (As := [.int v1]) (S := []) dX8_lineOf_79 ll_X8_141 ok_X8_next ⟨by decide, by decide⟩ ly_49 rfl rfl (Nat.le_of_ble_eq_true rfl) rfl (CT.mono h (fun r G6 hr => ?_))
        obtain ⟨r7, rfl, h⟩ := hr
        show zJ kX8_lineOf post 82 [(0, .ref 49), (1, .int v1), (2, .int v2)] [.int r7] G6
        exact j_iret dX8_lineOf_82 rfl rfl h
      · have h := hc3 (Int32.toInt_inj.mp (hv.trans (by decide)))
        refine j_tabIn 83 dX8_lineOf_11 hv (by decide) (by decide) rfl (by decide) ?_
        refine j_aload_n 0 84 rfl dX8_lineOf_83 rfl rfl ?_
        refine j_iload_n 1 85 rfl dX8_lineOf_84 rfl rfl ?_
        refine j_callV (K' := kX8_loadOf) (As := [.int v1]) (S := []) dX8_lineOf_85 ll_X8_144 ok_X8_loadOf ⟨by decide, by decide⟩ ly_49 rfl rfl (Nat.le_of_ble_eq_true rfl) rfl (CT.mono h (fun r G8 hr => ?_))
        obtain ⟨r9, rfl, h⟩ := hr
        show zJ kX8_lineOf post 88 [(0, .ref 49), (1, .int v1), (2, .int v2)] [.int r9] G8
        exact j_iret dX8_lineOf_88 rfl rfl h
      · have h := hc4 (Int32.toInt_inj.mp (hv.trans (by decide)))
        refine j_tabIn 89 dX8_lineOf_11 hv (by decide) (by decide) rfl (by decide) ?_
        refine j_aload_n 0 90 rfl dX8_lineOf_89 rfl rfl ?_
        refine j_getR 93 rfl dX8_lineOf_90 lf_X8_45 ly_49 rfl ?_
        refine j_iload_n 1 94 rfl dX8_lineOf_93 rfl rfl ?_
        obtain ⟨h10, h⟩ := h
        refine j_zald 95 rfl dX8_lineOf_94 ly_56 h10 ?_
        obtain ⟨hbt, hbf⟩ := h
        refine j_if_eq 98 102 rfl (by decide) dX8_lineOf_95 (fun hc => ?_) (fun hc => ?_)
        · have h := hbt hc
          refine j_iconst (0 : Int32) 103 rfl dX8_lineOf_102 (by decide) ?_
          exact j_iret dX8_lineOf_103 rfl rfl h
        · have h := hbf hc
          refine j_iconst (1 : Int32) 99 rfl dX8_lineOf_98 (by decide) ?_
          refine j_goto 103 (by decide) dX8_lineOf_99 ?_
          exact j_iret dX8_lineOf_103 rfl rfl h
      · have h := hc5 (Int32.toInt_inj.mp (hv.trans (by decide)))
        refine j_tabIn 104 dX8_lineOf_11 hv (by decide) (by decide) rfl (by decide) ?_
        refine j_aload_n 0 105 rfl dX8_lineOf_104 rfl rfl ?_
        refine j_getR 108 rfl dX8_lineOf_105 lf_X8_45 ly_49 rfl ?_
        refine j_iload_n 1 109 rfl dX8_lineOf_108 rfl rfl ?_
        obtain ⟨h11, h⟩ := h
        refine j_zald 110 rfl dX8_lineOf_109 ly_56 h11 ?_
        obtain ⟨hbt, hbf⟩ := h
        refine j_if_eq 113 122 rfl (by decide) dX8_lineOf_110 (fun hc => ?_) (fun hc => ?_)
        · have h := hbt hc
          refine j_iconst (-1 : Int32) 123 rfl dX8_lineOf_122 (by decide) ?_
          exact j_iret dX8_lineOf_123 rfl rfl h
        · have h := hbf hc
          refine j_aload_n 0 114 rfl dX8_lineOf_113 rfl rfl ?_
          refine j_getR 117 rfl dX8_lineOf_114 lf_X8_49 ly_49 rfl ?_
          refine j_iload_n 1 118 rfl dX8_lineOf_117 rfl rfl ?_
          obtain ⟨h12, h⟩ := h
          refine j_iald 119 rfl dX8_lineOf_118 ly_57 h12 ?_
          refine j_goto 123 (by decide) dX8_lineOf_119 ?_
          exact j_iret dX8_lineOf_123 rfl rfl h
      · have h := hc6 (Int32.toInt_inj.mp (hv.trans (by decide)))
        refine j_tabIn 124 dX8_lineOf_11 hv (by decide) (by decide) rfl (by decide) ?_
        refine j_aload_n 0 125 rfl dX8_lineOf_124 rfl rfl ?_
        refine j_getR 128 rfl dX8_lineOf_125 lf_X8_45 ly_49 rfl ?_
        refine j_iload_n 1 129 rfl dX8_lineOf_128 rfl rfl ?_
        obtain ⟨h13, h⟩ := h
        refine j_zald 130 rfl dX8_lineOf_129 ly_56 h13 ?_
        obtain ⟨hbt, hbf⟩ := h
        refine j_if_eq 133 142 rfl (by decide) dX8_lineOf_130 (fun hc => ?_) (fun hc => ?_)
        · have h := hbt hc
          refine j_iconst (-1 : Int32) 143 rfl dX8_lineOf_142 (by decide) ?_
          exact j_iret dX8_lineOf_143 rfl rfl h
        · have h := hbf hc
          refine j_aload_n 0 134 rfl dX8_lineOf_133 rfl rfl ?_
          refine j_getR 137 rfl dX8_lineOf_134 lf_X8_52 ly_49 rfl ?_
          refine j_iload_n 1 138 rfl dX8_lineOf_137 rfl rfl ?_
          obtain ⟨h14, h⟩ := h
          refine j_iald 139 rfl dX8_lineOf_138 ly_58 h14 ?_
          refine j_goto 143 (by decide) dX8_lineOf_139 ?_
          exact j_iret dX8_lineOf_143 rfl rfl h
      · have h := hc7 (Int32.toInt_inj.mp (hv.trans (by decide)))
        refine j_tabIn 144 dX8_lineOf_11 hv (by decide) (by decide) rfl (by decide) ?_
        refine j_aload_n 0 145 rfl dX8_lineOf_144 rfl rfl ?_
        refine j_getR 148 rfl dX8_lineOf_145 lf_X8_45 ly_49 rfl ?_
        refine j_iload_n 1 149 rfl dX8_lineOf_148 rfl rfl ?_
        obtain ⟨h15, h⟩ := h
        refine j_zald 150 rfl dX8_lineOf_149 ly_56 h15 ?_
        obtain ⟨hbt, hbf⟩ := h
        refine j_if_eq 153 162 rfl (by decide) dX8_lineOf_150 (fun hc => ?_) (fun hc => ?_)
        · have h := hbt hc
          refine j_iconst (-1 : Int32) 163 rfl dX8_lineOf_162 (by decide) ?_
          exact j_iret dX8_lineOf_163 rfl rfl h
        · have h := hbf hc
          refine j_aload_n 0 154 rfl dX8_lineOf_153 rfl rfl ?_
          refine j_getR 157 rfl dX8_lineOf_154 lf_X8_55 ly_49 rfl ?_
          refine j_iload_n 1 158 rfl dX8_lineOf_157 rfl rfl ?_
          obtain ⟨h16, h⟩ := h
          refine j_iald 159 rfl dX8_lineOf_158 ly_59 h16 ?_
          refine j_goto 163 (by decide) dX8_lineOf_159 ?_
          exact j_iret dX8_lineOf_163 rfl rfl h
      · have h := hc8 (Int32.toInt_inj.mp (hv.trans (by decide)))
        refine j_tabIn 164 dX8_lineOf_11 hv (by decide) (by decide) rfl (by decide) ?_
        refine j_aload_n 0 165 rfl dX8_lineOf_164 rfl rfl ?_
        refine j_getR 168 rfl dX8_lineOf_165 lf_X8_45 ly_49 rfl ?_
        refine j_iload_n 1 169 rfl dX8_lineOf_168 rfl rfl ?_
        obtain ⟨h17, h⟩ := h
        refine j_zald 170 rfl dX8_lineOf_169 ly_56 h17 ?_
        obtain ⟨hbt, hbf⟩ := h
        refine j_if_eq 173 190 rfl (by decide) dX8_lineOf_170 (fun hc => ?_) (fun hc => ?_)
        · have h := hbt hc
          refine j_iconst (-1 : Int32) 191 rfl dX8_lineOf_190 (by decide) ?_
          exact j_iret dX8_lineOf_191 rfl rfl h
        · have h := hbf hc
          refine j_aload_n 0 174 rfl dX8_lineOf_173 rfl rfl ?_
          refine j_getR 177 rfl dX8_lineOf_174 lf_X8_58 ly_49 rfl ?_
          refine j_iload_n 1 178 rfl dX8_lineOf_177 rfl rfl ?_
          obtain ⟨h18, h⟩ := h
          refine j_zald 179 rfl dX8_lineOf_178 ly_60 h18 ?_
          obtain ⟨hbt, hbf⟩ := h
          refine j_if_eq 182 186 rfl (by decide) dX8_lineOf_179 (fun hc => ?_) (fun hc => ?_)
          · have h := hbt hc
            refine j_iconst (0 : Int32) 187 rfl dX8_lineOf_186 (by decide) ?_
            refine j_goto 191 (by decide) dX8_lineOf_187 ?_
            exact j_iret dX8_lineOf_191 rfl rfl h
          · have h := hbf hc
            refine j_iconst (1 : Int32) 183 rfl dX8_lineOf_182 (by decide) ?_
            refine j_goto 191 (by decide) dX8_lineOf_183 ?_
            exact j_iret dX8_lineOf_191 rfl rfl h
      · have h := hc9 (Int32.toInt_inj.mp (hv.trans (by decide)))
        refine j_tabIn 192 dX8_lineOf_11 hv (by decide) (by decide) rfl (by decide) ?_
        refine j_aload_n 0 193 rfl dX8_lineOf_192 rfl rfl ?_
        refine j_getR 196 rfl dX8_lineOf_193 lf_X8_45 ly_49 rfl ?_
        refine j_iload_n 1 197 rfl dX8_lineOf_196 rfl rfl ?_
        obtain ⟨h19, h⟩ := h
        refine j_zald 198 rfl dX8_lineOf_197 ly_56 h19 ?_
        obtain ⟨hbt, hbf⟩ := h
        refine j_if_eq 201 210 rfl (by decide) dX8_lineOf_198 (fun hc => ?_) (fun hc => ?_)
        · have h := hbt hc
          refine j_iconst (-1 : Int32) 211 rfl dX8_lineOf_210 (by decide) ?_
          exact j_iret dX8_lineOf_211 rfl rfl h
        · have h := hbf hc
          refine j_aload_n 0 202 rfl dX8_lineOf_201 rfl rfl ?_
          refine j_getR 205 rfl dX8_lineOf_202 lf_X8_61 ly_49 rfl ?_
          refine j_iload_n 1 206 rfl dX8_lineOf_205 rfl rfl ?_
          obtain ⟨h20, h⟩ := h
          refine j_iald 207 rfl dX8_lineOf_206 ly_61 h20 ?_
          refine j_goto 211 (by decide) dX8_lineOf_207 ?_
          exact j_iret dX8_lineOf_211 rfl rfl h
  · have h := hbf hc
    refine j_iconst (-1 : Int32) 9 rfl dX8_lineOf_8 (by decide) ?_
    exact j_iret dX8_lineOf_9 rfl rfl h
theorem vX8_tells (post : Option Value → GG → Prop) (v1 : Int32) (v2 : Int32) (v3 : Int32) (v4 : Int32) (G : GG) (h : post (some (.int (0 : Int32))) (gU (gU (gU (gU G 49 24 v1) 49 25 v2) 49 26 v3) 49 27 v4)) : CT kX8_tells [.ref 49, .int v1, .int v2, .int v3, .int v4] G post := by
  refine CT.of (by decide) (Nat.le_of_ble_eq_true rfl) ?_
  show zJ kX8_tells post 0 [(0, .ref 49), (1, .int v1), (2, .int v2), (3, .int v3), (4, .int v4)] [] G
  refine j_aload_n 0 1 rfl dX8_tells_0 rfl rfl ?_
  refine j_iload_n 1 2 rfl dX8_tells_1 rfl rfl ?_
  refine j_put 5 rfl dX8_tells_2 lp_X8_147 ly_49 rfl rfl rfl ?_
  refine j_aload_n 0 6 rfl dX8_tells_5 rfl rfl ?_
  refine j_iload_n 2 7 rfl dX8_tells_6 rfl rfl ?_
  refine j_put 10 rfl dX8_tells_7 lp_X8_150 ly_49 rfl rfl rfl ?_
  refine j_aload_n 0 11 rfl dX8_tells_10 rfl rfl ?_
  refine j_iload_n 3 12 rfl dX8_tells_11 rfl rfl ?_
  refine j_put 15 rfl dX8_tells_12 lp_X8_153 ly_49 rfl rfl rfl ?_
  refine j_aload_n 0 16 rfl dX8_tells_15 rfl rfl ?_
  refine j_iload 4 18 rfl dX8_tells_16 rfl ?_
  refine j_put 21 rfl dX8_tells_18 lp_X8_156 ly_49 rfl rfl rfl ?_
  refine j_iconst (0 : Int32) 22 rfl dX8_tells_21 (by decide) ?_
  exact j_iret dX8_tells_22 rfl rfl h
theorem vX8_tooShort (post : Option Value → GG → Prop) (v1 : Int32) (v2 : Int32) (v3 : Int32) (G : GG) (h : zJ kX8_tooShort post 6 [(0, .ref 49), (1, .int v1), (2, .int v2), (3, .int v3), (4, .int (-1 : Int32)), (5, .int v1)] [] G) : CT kX8_tooShort [.ref 49, .int v1, .int v2, .int v3] G post := by
  refine CT.of (by decide) (Nat.le_of_ble_eq_true rfl) ?_
  show zJ kX8_tooShort post 0 [(0, .ref 49), (1, .int v1), (2, .int v2), (3, .int v3)] [] G
  refine j_iconst (-1 : Int32) 1 rfl dX8_tooShort_0 (by decide) ?_
  refine j_istore [(0, .ref 49), (1, .int v1), (2, .int v2), (3, .int v3), (4, .int (-1 : Int32))] 3 rfl dX8_tooShort_1 (by decide) rfl ?_
  refine j_iload_n 1 4 rfl dX8_tooShort_3 rfl rfl ?_
  refine j_istore [(0, .ref 49), (1, .int v1), (2, .int v2), (3, .int v3), (4, .int (-1 : Int32)), (5, .int v1)] 6 rfl dX8_tooShort_4 (by decide) rfl ?_
  exact h
theorem vX8_tooShort_6 (post : Option Value → GG → Prop) (v1 : Int32) (v2 : Int32) (v3 : Int32) (v4 : Int32) (v5 : Int32) (G : GG) (h : (v5 ≤ (0 : Int32) → (post (some (.int (-1 : Int32))) G)) ∧ (¬ v5 ≤ (0 : Int32) → (CTi kX8_waitAt [.ref 49, .int v5, .int v1, .int v2, .int v3] G (fun r2 G1 => ((0 : Int32) ≤ r2 → ((v4 < (0 : Int32) → ((vp_in v5 30) ∧ (zJ kX8_tooShort post 6 [(0, .ref 49), (1, .int v1), (2, .int v2), (3, .int v3), (4, .int r2), (5, .int (G1 50 v5.toNatClampNeg))] [] G1))) ∧ (¬ v4 < (0 : Int32) → (((v4 + (G1 49 3)) ≤ r2 → ((vp_in v5 30) ∧ (zJ kX8_tooShort post 6 [(0, .ref 49), (1, .int v1), (2, .int v2), (3, .int v3), (4, .int r2), (5, .int (G1 50 v5.toNatClampNeg))] [] G1))) ∧ (¬ (v4 + (G1 49 3)) ≤ r2 → (post (some (.int v5)) G1)))))) ∧ (¬ (0 : Int32) ≤ r2 → ((vp_in v5 30) ∧ (zJ kX8_tooShort post 6 [(0, .ref 49), (1, .int v1), (2, .int v2), (3, .int v3), (4, .int v4), (5, .int (G1 50 v5.toNatClampNeg))] [] G1))))))) : zJ kX8_tooShort post 6 [(0, .ref 49), (1, .int v1), (2, .int v2), (3, .int v3), (4, .int v4), (5, .int v5)] [] G := by
  refine j_iload 5 8 rfl dX8_tooShort_6 rfl ?_
  obtain ⟨hbt, hbf⟩ := h
  refine j_if_le 11 66 rfl (by decide) dX8_tooShort_8 (fun hc => ?_) (fun hc => ?_)
  · have h := hbt hc
    refine j_iconst (-1 : Int32) 67 rfl dX8_tooShort_66 (by decide) ?_
    exact j_iret dX8_tooShort_67 rfl rfl h
  · have h := hbf hc
    refine j_aload_n 0 12 rfl dX8_tooShort_11 rfl rfl ?_
    refine j_iload 5 14 rfl dX8_tooShort_12 rfl ?_
    refine j_iload_n 1 15 rfl dX8_tooShort_14 rfl rfl ?_
    refine j_iload_n 2 16 rfl dX8_tooShort_15 rfl rfl ?_
    refine j_iload_n 3 17 rfl dX8_tooShort_16 rfl rfl ?_
    refine j_callV (K' := kX8_waitAt) (As := [.int v5, .int v1, .int v2, .int v3]) (S := []) dX8_tooShort_17 ll_X8_124 ok_X8_waitAt ⟨by decide, by decide⟩ ly_49 rfl rfl (Nat.le_of_ble_eq_true rfl) rfl (CT.mono h (fun r G1 hr => ?_))
    obtain ⟨r2, rfl, h⟩ := hr
    show zJ kX8_tooShort post 20 [(0, .ref 49), (1, .int v1), (2, .int v2), (3, .int v3), (4, .int v4), (5, .int v5)] [.int r2] G1
    refine j_istore [(0, .ref 49), (1, .int v1), (2, .int v2), (3, .int v3), (4, .int v4), (5, .int v5), (6, .int r2)] 22 rfl dX8_tooShort_20 (by decide) rfl ?_
    refine j_iload 6 24 rfl dX8_tooShort_22 rfl ?_
    obtain ⟨hbt, hbf⟩ := h
    refine j_if_ge 27 30 rfl (by decide) dX8_tooShort_24 (fun hc => ?_) (fun hc => ?_)
    · have h := hbt hc
      refine j_iload 4 32 rfl dX8_tooShort_30 rfl ?_
      obtain ⟨hbt, hbf⟩ := h
      refine j_if_lt 35 50 rfl (by decide) dX8_tooShort_32 (fun hc => ?_) (fun hc => ?_)
      · have h := hbt hc
        refine j_iload 6 52 rfl dX8_tooShort_50 rfl ?_
        refine j_istore [(0, .ref 49), (1, .int v1), (2, .int v2), (3, .int v3), (4, .int r2), (5, .int v5), (6, .int r2)] 54 rfl dX8_tooShort_52 (by decide) rfl ?_
        refine j_aload_n 0 55 rfl dX8_tooShort_54 rfl rfl ?_
        refine j_getR 58 rfl dX8_tooShort_55 lf_X8_26 ly_49 rfl ?_
        refine j_iload 5 60 rfl dX8_tooShort_58 rfl ?_
        obtain ⟨h3, h⟩ := h
        refine j_iald 61 rfl dX8_tooShort_60 ly_50 h3 ?_
        refine j_istore [(0, .ref 49), (1, .int v1), (2, .int v2), (3, .int v3), (4, .int r2), (5, .int (G1 50 v5.toNatClampNeg)), (6, .int r2)] 63 rfl dX8_tooShort_61 (by decide) rfl ?_
        refine j_goto 6 (by decide) dX8_tooShort_63 ?_
        refine j_sub [0, 1, 2, 3, 4, 5] rfl ?_
        exact h
      · have h := hbf hc
        refine j_iload 6 37 rfl dX8_tooShort_35 rfl ?_
        refine j_iload 4 39 rfl dX8_tooShort_37 rfl ?_
        refine j_aload_n 0 40 rfl dX8_tooShort_39 rfl rfl ?_
        refine j_getI 43 rfl dX8_tooShort_40 lf_X8_19 ly_49 rfl ?_
        refine j_iadd 44 rfl dX8_tooShort_43 ?_
        obtain ⟨hbt, hbf⟩ := h
        refine j_icmp_ge 47 50 rfl (by decide) dX8_tooShort_44 (fun hc => ?_) (fun hc => ?_)
        · have h := hbt hc
          refine j_iload 6 52 rfl dX8_tooShort_50 rfl ?_
          refine j_istore [(0, .ref 49), (1, .int v1), (2, .int v2), (3, .int v3), (4, .int r2), (5, .int v5), (6, .int r2)] 54 rfl dX8_tooShort_52 (by decide) rfl ?_
          refine j_aload_n 0 55 rfl dX8_tooShort_54 rfl rfl ?_
          refine j_getR 58 rfl dX8_tooShort_55 lf_X8_26 ly_49 rfl ?_
          refine j_iload 5 60 rfl dX8_tooShort_58 rfl ?_
          obtain ⟨h4, h⟩ := h
          refine j_iald 61 rfl dX8_tooShort_60 ly_50 h4 ?_
          refine j_istore [(0, .ref 49), (1, .int v1), (2, .int v2), (3, .int v3), (4, .int r2), (5, .int (G1 50 v5.toNatClampNeg)), (6, .int r2)] 63 rfl dX8_tooShort_61 (by decide) rfl ?_
          refine j_goto 6 (by decide) dX8_tooShort_63 ?_
          refine j_sub [0, 1, 2, 3, 4, 5] rfl ?_
          exact h
        · have h := hbf hc
          refine j_iload 5 49 rfl dX8_tooShort_47 rfl ?_
          exact j_iret dX8_tooShort_49 rfl rfl h
    · have h := hbf hc
      refine j_goto 54 (by decide) dX8_tooShort_27 ?_
      refine j_aload_n 0 55 rfl dX8_tooShort_54 rfl rfl ?_
      refine j_getR 58 rfl dX8_tooShort_55 lf_X8_26 ly_49 rfl ?_
      refine j_iload 5 60 rfl dX8_tooShort_58 rfl ?_
      obtain ⟨h5, h⟩ := h
      refine j_iald 61 rfl dX8_tooShort_60 ly_50 h5 ?_
      refine j_istore [(0, .ref 49), (1, .int v1), (2, .int v2), (3, .int v3), (4, .int v4), (5, .int (G1 50 v5.toNatClampNeg)), (6, .int r2)] 63 rfl dX8_tooShort_61 (by decide) rfl ?_
      refine j_goto 6 (by decide) dX8_tooShort_63 ?_
      refine j_sub [0, 1, 2, 3, 4, 5] rfl ?_
      exact h
theorem vX8_isLineRight (post : Option Value → GG → Prop) (v1 : Int32) (G : GG) (h : CTi kX8_keeper [.ref 49, .int v1] G (fun r2 G1 => ((0 : Int32) ≤ r2 → (zJ kX8_isLineRight post 21 [(0, .ref 49), (1, .int v1), (2, .int r2), (3, .int (0 : Int32))] [] G1)) ∧ (¬ (0 : Int32) ≤ r2 → (CTi kX8_tells [.ref 49, .int (1 : Int32), .int v1, .int (-1 : Int32), .int (-1 : Int32)] G1 (fun r4 G3 => (zBo r4) ∧ (post (some (.int r4)) G3)))))) : CT kX8_isLineRight [.ref 49, .int v1] G post := by
  refine CT.of (by decide) (Nat.le_of_ble_eq_true rfl) ?_
  show zJ kX8_isLineRight post 0 [(0, .ref 49), (1, .int v1)] [] G
  refine j_aload_n 0 1 rfl dX8_isLineRight_0 rfl rfl ?_
  refine j_iload_n 1 2 rfl dX8_isLineRight_1 rfl rfl ?_
  refine j_callV (K' := kX8_keeper) (As := [.int v1]) (S := []) dX8_isLineRight_2 ll_X8_137 ok_X8_keeper ⟨by decide, by decide⟩ ly_49 rfl rfl (Nat.le_of_ble_eq_true rfl) rfl (CT.mono h (fun r G1 hr => ?_))
  obtain ⟨r2, rfl, h⟩ := hr
  show zJ kX8_isLineRight post 5 [(0, .ref 49), (1, .int v1)] [.int r2] G1
  refine j_istore_n [(0, .ref 49), (1, .int v1), (2, .int r2)] 6 rfl dX8_isLineRight_5 rfl (by decide) rfl ?_
  refine j_iload_n 2 7 rfl dX8_isLineRight_6 rfl rfl ?_
  obtain ⟨hbt, hbf⟩ := h
  refine j_if_ge 10 19 rfl (by decide) dX8_isLineRight_7 (fun hc => ?_) (fun hc => ?_)
  · have h := hbt hc
    refine j_iconst (0 : Int32) 20 rfl dX8_isLineRight_19 (by decide) ?_
    refine j_istore_n [(0, .ref 49), (1, .int v1), (2, .int r2), (3, .int (0 : Int32))] 21 rfl dX8_isLineRight_20 rfl (by decide) rfl ?_
    exact h
  · have h := hbf hc
    refine j_aload_n 0 11 rfl dX8_isLineRight_10 rfl rfl ?_
    refine j_iconst (1 : Int32) 12 rfl dX8_isLineRight_11 (by decide) ?_
    refine j_iload_n 1 13 rfl dX8_isLineRight_12 rfl rfl ?_
    refine j_iconst (-1 : Int32) 14 rfl dX8_isLineRight_13 (by decide) ?_
    refine j_iconst (-1 : Int32) 15 rfl dX8_isLineRight_14 (by decide) ?_
    refine j_callV (K' := kX8_tells) (As := [.int (1 : Int32), .int v1, .int (-1 : Int32), .int (-1 : Int32)]) (S := []) dX8_isLineRight_15 ll_X8_159 ok_X8_tells ⟨by decide, by decide⟩ ly_49 rfl rfl (Nat.le_of_ble_eq_true rfl) rfl (CT.mono h (fun r G3 hr => ?_))
    obtain ⟨r4, rfl, h⟩ := hr
    show zJ kX8_isLineRight post 18 [(0, .ref 49), (1, .int v1), (2, .int r2)] [.int r4] G3
    obtain ⟨hbo, h⟩ := h
    exact j_iret dX8_isLineRight_18 rfl (zBo_n hbo) h
theorem vX8_isLineRight_21 (post : Option Value → GG → Prop) (v1 : Int32) (v2 : Int32) (v3 : Int32) (G : GG) (h : ((34 : Int32) ≤ v3 → (zJ kX8_isLineRight post 73 [(0, .ref 49), (1, .int v1), (2, .int v2), (3, .int (0 : Int32))] [] G)) ∧ (¬ (34 : Int32) ≤ v3 → (CTi kX8_waitAt [.ref 49, .int v2, .int v1, .int (v3 / (2 : Int32)), .int ((v3 - v3 / (2 : Int32) * (2 : Int32)) * (G 49 5))] G (fun r2 G1 => ((0 : Int32) ≤ r2 → (zJ kX8_isLineRight post 21 [(0, .ref 49), (1, .int v1), (2, .int v2), (3, .int (v3 + (1 : Int32)))] [] G1)) ∧ (¬ (0 : Int32) ≤ r2 → (CTi kX8_tells [.ref 49, .int (2 : Int32), .int v1, .int (v3 / (2 : Int32)), .int ((v3 - v3 / (2 : Int32) * (2 : Int32)) * (G1 49 5))] G1 (fun r4 G3 => (zBo r4) ∧ (post (some (.int r4)) G3)))))))) : zJ kX8_isLineRight post 21 [(0, .ref 49), (1, .int v1), (2, .int v2), (3, .int v3)] [] G := by
  refine j_iload_n 3 22 rfl dX8_isLineRight_21 rfl rfl ?_
  refine j_bipush (34 : Int32) 24 rfl dX8_isLineRight_22 (by decide) ?_
  obtain ⟨hbt, hbf⟩ := h
  refine j_icmp_ge 27 71 rfl (by decide) dX8_isLineRight_24 (fun hc => ?_) (fun hc => ?_)
  · have h := hbt hc
    refine j_iconst (0 : Int32) 72 rfl dX8_isLineRight_71 (by decide) ?_
    refine j_istore_n [(0, .ref 49), (1, .int v1), (2, .int v2), (3, .int (0 : Int32))] 73 rfl dX8_isLineRight_72 rfl (by decide) rfl ?_
    exact h
  · have h := hbf hc
    refine j_aload_n 0 28 rfl dX8_isLineRight_27 rfl rfl ?_
    refine j_iload_n 2 29 rfl dX8_isLineRight_28 rfl rfl ?_
    refine j_iload_n 1 30 rfl dX8_isLineRight_29 rfl rfl ?_
    refine j_iload_n 3 31 rfl dX8_isLineRight_30 rfl rfl ?_
    refine j_iconst (2 : Int32) 32 rfl dX8_isLineRight_31 (by decide) ?_
    refine j_idiv 33 rfl dX8_isLineRight_32 (by decide) ?_
    refine j_iload_n 3 34 rfl dX8_isLineRight_33 rfl rfl ?_
    refine j_iconst (2 : Int32) 35 rfl dX8_isLineRight_34 (by decide) ?_
    refine j_irem 36 rfl dX8_isLineRight_35 (by decide) ?_
    refine j_aload_n 0 37 rfl dX8_isLineRight_36 rfl rfl ?_
    refine j_getI 40 rfl dX8_isLineRight_37 lf_X8_98 ly_49 rfl ?_
    refine j_imul 41 rfl dX8_isLineRight_40 ?_
    refine j_callV (K' := kX8_waitAt) (As := [.int v2, .int v1, .int (v3 / (2 : Int32)), .int ((v3 - v3 / (2 : Int32) * (2 : Int32)) * (G 49 5))]) (S := []) dX8_isLineRight_41 ll_X8_124 ok_X8_waitAt ⟨by decide, by decide⟩ ly_49 rfl rfl (Nat.le_of_ble_eq_true rfl) rfl (CT.mono h (fun r G1 hr => ?_))
    obtain ⟨r2, rfl, h⟩ := hr
    show zJ kX8_isLineRight post 44 [(0, .ref 49), (1, .int v1), (2, .int v2), (3, .int v3)] [.int r2] G1
    obtain ⟨hbt, hbf⟩ := h
    refine j_if_ge 47 65 rfl (by decide) dX8_isLineRight_44 (fun hc => ?_) (fun hc => ?_)
    · have h := hbt hc
      refine j_iinc 3 (v3 + (1 : Int32)) [(0, .ref 49), (1, .int v1), (2, .int v2), (3, .int (v3 + (1 : Int32)))] 68 rfl dX8_isLineRight_65 rfl rfl (by decide) rfl ?_
      refine j_goto 21 (by decide) dX8_isLineRight_68 ?_
      exact h
    · have h := hbf hc
      refine j_aload_n 0 48 rfl dX8_isLineRight_47 rfl rfl ?_
      refine j_iconst (2 : Int32) 49 rfl dX8_isLineRight_48 (by decide) ?_
      refine j_iload_n 1 50 rfl dX8_isLineRight_49 rfl rfl ?_
      refine j_iload_n 3 51 rfl dX8_isLineRight_50 rfl rfl ?_
      refine j_iconst (2 : Int32) 52 rfl dX8_isLineRight_51 (by decide) ?_
      refine j_idiv 53 rfl dX8_isLineRight_52 (by decide) ?_
      refine j_iload_n 3 54 rfl dX8_isLineRight_53 rfl rfl ?_
      refine j_iconst (2 : Int32) 55 rfl dX8_isLineRight_54 (by decide) ?_
      refine j_irem 56 rfl dX8_isLineRight_55 (by decide) ?_
      refine j_aload_n 0 57 rfl dX8_isLineRight_56 rfl rfl ?_
      refine j_getI 60 rfl dX8_isLineRight_57 lf_X8_98 ly_49 rfl ?_
      refine j_imul 61 rfl dX8_isLineRight_60 ?_
      refine j_callV (K' := kX8_tells) (As := [.int (2 : Int32), .int v1, .int (v3 / (2 : Int32)), .int ((v3 - v3 / (2 : Int32) * (2 : Int32)) * (G1 49 5))]) (S := []) dX8_isLineRight_61 ll_X8_159 ok_X8_tells ⟨by decide, by decide⟩ ly_49 rfl rfl (Nat.le_of_ble_eq_true rfl) rfl (CT.mono h (fun r G3 hr => ?_))
      obtain ⟨r4, rfl, h⟩ := hr
      show zJ kX8_isLineRight post 64 [(0, .ref 49), (1, .int v1), (2, .int v2), (3, .int v3)] [.int r4] G3
      obtain ⟨hbo, h⟩ := h
      exact j_iret dX8_isLineRight_64 rfl (zBo_n hbo) h
theorem vX8_isLineRight_73 (post : Option Value → GG → Prop) (v1 : Int32) (v2 : Int32) (v3 : Int32) (G : GG) (h : ((34 : Int32) ≤ v3 → (post (some (.int (1 : Int32))) G)) ∧ (¬ (34 : Int32) ≤ v3 → (CTi kX8_tooShort [.ref 49, .int v1, .int (v3 / (2 : Int32)), .int ((v3 - v3 / (2 : Int32) * (2 : Int32)) * (G 49 5))] G (fun r2 G1 => ((0 : Int32) ≤ r2 → (zJ kX8_isLineRight post 120 [(0, .ref 49), (1, .int v1), (3, .int v3), (4, .int ((v3 - v3 / (2 : Int32) * (2 : Int32)) * (G 49 5)))] [] G1)) ∧ (¬ (0 : Int32) ≤ r2 → (CTi kX8_waitAt [.ref 49, .int v2, .int v1, .int (v3 / (2 : Int32)), .int ((v3 - v3 / (2 : Int32) * (2 : Int32)) * (G 49 5))] G1 (fun r4 G3 => (r4 ≤ (G3 49 4) → (zJ kX8_isLineRight post 73 [(0, .ref 49), (1, .int v1), (2, .int v2), (3, .int (v3 + (1 : Int32)))] [] G3)) ∧ (¬ r4 ≤ (G3 49 4) → (zJ kX8_isLineRight post 120 [(0, .ref 49), (1, .int v1), (3, .int v3), (4, .int ((v3 - v3 / (2 : Int32) * (2 : Int32)) * (G 49 5)))] [] G3))))))))) : zJ kX8_isLineRight post 73 [(0, .ref 49), (1, .int v1), (2, .int v2), (3, .int v3)] [] G := by
  refine j_iload_n 3 74 rfl dX8_isLineRight_73 rfl rfl ?_
  refine j_bipush (34 : Int32) 76 rfl dX8_isLineRight_74 (by decide) ?_
  obtain ⟨hbt, hbf⟩ := h
  refine j_icmp_ge 79 138 rfl (by decide) dX8_isLineRight_76 (fun hc => ?_) (fun hc => ?_)
  · have h := hbt hc
    refine j_iconst (1 : Int32) 139 rfl dX8_isLineRight_138 (by decide) ?_
    exact j_iret dX8_isLineRight_139 rfl rfl h
  · have h := hbf hc
    refine j_iload_n 3 80 rfl dX8_isLineRight_79 rfl rfl ?_
    refine j_iconst (2 : Int32) 81 rfl dX8_isLineRight_80 (by decide) ?_
    refine j_irem 82 rfl dX8_isLineRight_81 (by decide) ?_
    refine j_aload_n 0 83 rfl dX8_isLineRight_82 rfl rfl ?_
    refine j_getI 86 rfl dX8_isLineRight_83 lf_X8_98 ly_49 rfl ?_
    refine j_imul 87 rfl dX8_isLineRight_86 ?_
    refine j_istore [(0, .ref 49), (1, .int v1), (2, .int v2), (3, .int v3), (4, .int ((v3 - v3 / (2 : Int32) * (2 : Int32)) * (G 49 5)))] 89 rfl dX8_isLineRight_87 (by decide) rfl ?_
    refine j_aload_n 0 90 rfl dX8_isLineRight_89 rfl rfl ?_
    refine j_iload_n 1 91 rfl dX8_isLineRight_90 rfl rfl ?_
    refine j_iload_n 3 92 rfl dX8_isLineRight_91 rfl rfl ?_
    refine j_iconst (2 : Int32) 93 rfl dX8_isLineRight_92 (by decide) ?_
    refine j_idiv 94 rfl dX8_isLineRight_93 (by decide) ?_
    refine j_iload 4 96 rfl dX8_isLineRight_94 rfl ?_
    refine j_callV (K' := kX8_tooShort) (As := [.int v1, .int (v3 / (2 : Int32)), .int ((v3 - v3 / (2 : Int32) * (2 : Int32)) * (G 49 5))]) (S := []) dX8_isLineRight_96 ll_X8_163 ok_X8_tooShort ⟨by decide, by decide⟩ ly_49 rfl rfl (Nat.le_of_ble_eq_true rfl) rfl (CT.mono h (fun r G1 hr => ?_))
    obtain ⟨r2, rfl, h⟩ := hr
    show zJ kX8_isLineRight post 99 [(0, .ref 49), (1, .int v1), (2, .int v2), (3, .int v3), (4, .int ((v3 - v3 / (2 : Int32) * (2 : Int32)) * (G 49 5)))] [.int r2] G1
    obtain ⟨hbt, hbf⟩ := h
    refine j_if_ge 102 120 rfl (by decide) dX8_isLineRight_99 (fun hc => ?_) (fun hc => ?_)
    · have h := hbt hc
      refine j_sub [0, 1, 3, 4] rfl ?_
      exact h
    · have h := hbf hc
      refine j_aload_n 0 103 rfl dX8_isLineRight_102 rfl rfl ?_
      refine j_iload_n 2 104 rfl dX8_isLineRight_103 rfl rfl ?_
      refine j_iload_n 1 105 rfl dX8_isLineRight_104 rfl rfl ?_
      refine j_iload_n 3 106 rfl dX8_isLineRight_105 rfl rfl ?_
      refine j_iconst (2 : Int32) 107 rfl dX8_isLineRight_106 (by decide) ?_
      refine j_idiv 108 rfl dX8_isLineRight_107 (by decide) ?_
      refine j_iload 4 110 rfl dX8_isLineRight_108 rfl ?_
      refine j_callV (K' := kX8_waitAt) (As := [.int v2, .int v1, .int (v3 / (2 : Int32)), .int ((v3 - v3 / (2 : Int32) * (2 : Int32)) * (G 49 5))]) (S := []) dX8_isLineRight_110 ll_X8_124 ok_X8_waitAt ⟨by decide, by decide⟩ ly_49 rfl rfl (Nat.le_of_ble_eq_true rfl) rfl (CT.mono h (fun r G3 hr => ?_))
      obtain ⟨r4, rfl, h⟩ := hr
      show zJ kX8_isLineRight post 113 [(0, .ref 49), (1, .int v1), (2, .int v2), (3, .int v3), (4, .int ((v3 - v3 / (2 : Int32) * (2 : Int32)) * (G 49 5)))] [.int r4] G3
      refine j_aload_n 0 114 rfl dX8_isLineRight_113 rfl rfl ?_
      refine j_getI 117 rfl dX8_isLineRight_114 lf_X8_23 ly_49 rfl ?_
      obtain ⟨hbt, hbf⟩ := h
      refine j_icmp_le 120 132 rfl (by decide) dX8_isLineRight_117 (fun hc => ?_) (fun hc => ?_)
      · have h := hbt hc
        refine j_iinc 3 (v3 + (1 : Int32)) [(0, .ref 49), (1, .int v1), (2, .int v2), (3, .int (v3 + (1 : Int32))), (4, .int ((v3 - v3 / (2 : Int32) * (2 : Int32)) * (G 49 5)))] 135 rfl dX8_isLineRight_132 rfl rfl (by decide) rfl ?_
        refine j_goto 73 (by decide) dX8_isLineRight_135 ?_
        refine j_sub [0, 1, 2, 3] rfl ?_
        exact h
      · have h := hbf hc
        refine j_sub [0, 1, 3, 4] rfl ?_
        exact h
theorem vX8_isLineRight_120 (post : Option Value → GG → Prop) (v1 : Int32) (v3 : Int32) (v4 : Int32) (G : GG) (h : CTi kX8_tells [.ref 49, .int (3 : Int32), .int v1, .int (v3 / (2 : Int32)), .int v4] G (fun r2 G1 => (zBo r2) ∧ (post (some (.int r2)) G1))) : zJ kX8_isLineRight post 120 [(0, .ref 49), (1, .int v1), (3, .int v3), (4, .int v4)] [] G := by
  refine j_aload_n 0 121 rfl dX8_isLineRight_120 rfl rfl ?_
  refine j_iconst (3 : Int32) 122 rfl dX8_isLineRight_121 (by decide) ?_
  refine j_iload_n 1 123 rfl dX8_isLineRight_122 rfl rfl ?_
  refine j_iload_n 2 124 rfl dX8_isLineRight_123 rfl rfl ?_
  refine j_iconst (2 : Int32) 125 rfl dX8_isLineRight_124 (by decide) ?_
  refine j_idiv 126 rfl dX8_isLineRight_125 (by decide) ?_
  refine j_iload 3 128 rfl dX8_isLineRight_126 rfl ?_
  refine j_callV (K' := kX8_tells) (As := [.int (3 : Int32), .int v1, .int (v3 / (2 : Int32)), .int v4]) (S := []) dX8_isLineRight_128 ll_X8_159 ok_X8_tells ⟨by decide, by decide⟩ ly_49 rfl rfl (Nat.le_of_ble_eq_true rfl) rfl (CT.mono h (fun r G1 hr => ?_))
  obtain ⟨r2, rfl, h⟩ := hr
  show zJ kX8_isLineRight post 131 [(0, .ref 49), (1, .int v1), (3, .int v3), (4, .int v4)] [.int r2] G1
  obtain ⟨hbo, h⟩ := h
  exact j_iret dX8_isLineRight_131 rfl (zBo_n hbo) h
theorem vX8_isRight (post : Option Value → GG → Prop)  (G : GG) (h : zJ kX8_isRight post 22 [(0, .ref 49), (1, .int (1 : Int32))] [] (gU (gU (gU (gU G 49 24 (0 : Int32)) 49 25 (-1 : Int32)) 49 26 (-1 : Int32)) 49 27 (-1 : Int32))) : CT kX8_isRight [.ref 49] G post := by
  refine CT.of (by decide) (Nat.le_of_ble_eq_true rfl) ?_
  show zJ kX8_isRight post 0 [(0, .ref 49)] [] G
  refine j_aload_n 0 1 rfl dX8_isRight_0 rfl rfl ?_
  refine j_iconst (0 : Int32) 2 rfl dX8_isRight_1 (by decide) ?_
  refine j_put 5 rfl dX8_isRight_2 lp_X8_147 ly_49 rfl rfl rfl ?_
  refine j_aload_n 0 6 rfl dX8_isRight_5 rfl rfl ?_
  refine j_iconst (-1 : Int32) 7 rfl dX8_isRight_6 (by decide) ?_
  refine j_put 10 rfl dX8_isRight_7 lp_X8_150 ly_49 rfl rfl rfl ?_
  refine j_aload_n 0 11 rfl dX8_isRight_10 rfl rfl ?_
  refine j_iconst (-1 : Int32) 12 rfl dX8_isRight_11 (by decide) ?_
  refine j_put 15 rfl dX8_isRight_12 lp_X8_153 ly_49 rfl rfl rfl ?_
  refine j_aload_n 0 16 rfl dX8_isRight_15 rfl rfl ?_
  refine j_iconst (-1 : Int32) 17 rfl dX8_isRight_16 (by decide) ?_
  refine j_put 20 rfl dX8_isRight_17 lp_X8_156 ly_49 rfl rfl rfl ?_
  refine j_iconst (1 : Int32) 21 rfl dX8_isRight_20 (by decide) ?_
  refine j_istore_n [(0, .ref 49), (1, .int (1 : Int32))] 22 rfl dX8_isRight_21 rfl (by decide) rfl ?_
  exact h
theorem vX8_isRight_22 (post : Option Value → GG → Prop) (v1 : Int32) (G : GG) (h : ((G 49 0) ≤ v1 → (zJ kX8_isRight post 48 [(0, .ref 49), (1, .int (1 : Int32))] [] G)) ∧ (¬ (G 49 0) ≤ v1 → (CTi kX8_isLineRight [.ref 49, .int v1] G (fun r2 G1 => (¬ r2 = (0 : Int32) → (zJ kX8_isRight post 22 [(0, .ref 49), (1, .int (v1 + (1 : Int32)))] [] G1)) ∧ (r2 = (0 : Int32) → (post (some (.int (0 : Int32))) G1)))))) : zJ kX8_isRight post 22 [(0, .ref 49), (1, .int v1)] [] G := by
  refine j_iload_n 1 23 rfl dX8_isRight_22 rfl rfl ?_
  refine j_aload_n 0 24 rfl dX8_isRight_23 rfl rfl ?_
  refine j_getI 27 rfl dX8_isRight_24 lf_X8_7 ly_49 rfl ?_
  obtain ⟨hbt, hbf⟩ := h
  refine j_icmp_ge 30 46 rfl (by decide) dX8_isRight_27 (fun hc => ?_) (fun hc => ?_)
  · have h := hbt hc
    refine j_iconst (1 : Int32) 47 rfl dX8_isRight_46 (by decide) ?_
    refine j_istore_n [(0, .ref 49), (1, .int (1 : Int32))] 48 rfl dX8_isRight_47 rfl (by decide) rfl ?_
    exact h
  · have h := hbf hc
    refine j_aload_n 0 31 rfl dX8_isRight_30 rfl rfl ?_
    refine j_iload_n 1 32 rfl dX8_isRight_31 rfl rfl ?_
    refine j_callV (K' := kX8_isLineRight) (As := [.int v1]) (S := []) dX8_isRight_32 ll_X8_166 ok_X8_isLineRight ⟨by decide, by decide⟩ ly_49 rfl rfl (Nat.le_of_ble_eq_true rfl) rfl (CT.mono h (fun r G1 hr => ?_))
    obtain ⟨r2, rfl, h⟩ := hr
    show zJ kX8_isRight post 35 [(0, .ref 49), (1, .int v1)] [.int r2] G1
    obtain ⟨hbt, hbf⟩ := h
    refine j_if_ne 38 40 rfl (by decide) dX8_isRight_35 (fun hc => ?_) (fun hc => ?_)
    · have h := hbt hc
      refine j_iinc 1 (v1 + (1 : Int32)) [(0, .ref 49), (1, .int (v1 + (1 : Int32)))] 43 rfl dX8_isRight_40 rfl rfl (by decide) rfl ?_
      refine j_goto 22 (by decide) dX8_isRight_43 ?_
      exact h
    · have h := hbf hc
      refine j_iconst (0 : Int32) 39 rfl dX8_isRight_38 (by decide) ?_
      exact j_iret dX8_isRight_39 rfl rfl h
theorem vX8_isRight_48 (post : Option Value → GG → Prop) (v1 : Int32) (G : GG) (h : ((G 49 0) ≤ v1 → (post (some (.int (1 : Int32))) G)) ∧ (¬ (G 49 0) ≤ v1 → ((vp_in v1 30) ∧ (((G 56 v1.toNatClampNeg) = (0 : Int32) → (zJ kX8_isRight post 48 [(0, .ref 49), (1, .int (v1 + (1 : Int32)))] [] G)) ∧ (¬ (G 56 v1.toNatClampNeg) = (0 : Int32) → (CTi kX8_loadOf [.ref 49, .int v1] G (fun r3 G2 => CTi kX8_waitBy [.ref 49, .int v1, .long r3.toInt64, .long (1 : Int64)] G2 (fun r5 G4 => (r5 < (0 : Int32) → (zJ kX8_isRight post 48 [(0, .ref 49), (1, .int (v1 + (1 : Int32)))] [] G4)) ∧ (¬ r5 < (0 : Int32) → (CTi kX8_tells [.ref 49, .int (4 : Int32), .int v1, .int (-1 : Int32), .int (-1 : Int32)] G4 (fun r7 G6 => (zBo r7) ∧ (post (some (.int r7)) G6)))))))))))) : zJ kX8_isRight post 48 [(0, .ref 49), (1, .int v1)] [] G := by
  refine j_iload_n 1 49 rfl dX8_isRight_48 rfl rfl ?_
  refine j_aload_n 0 50 rfl dX8_isRight_49 rfl rfl ?_
  refine j_getI 53 rfl dX8_isRight_50 lf_X8_7 ly_49 rfl ?_
  obtain ⟨hbt, hbf⟩ := h
  refine j_icmp_ge 56 95 rfl (by decide) dX8_isRight_53 (fun hc => ?_) (fun hc => ?_)
  · have h := hbt hc
    refine j_iconst (1 : Int32) 96 rfl dX8_isRight_95 (by decide) ?_
    exact j_iret dX8_isRight_96 rfl rfl h
  · have h := hbf hc
    refine j_aload_n 0 57 rfl dX8_isRight_56 rfl rfl ?_
    refine j_getR 60 rfl dX8_isRight_57 lf_X8_45 ly_49 rfl ?_
    refine j_iload_n 1 61 rfl dX8_isRight_60 rfl rfl ?_
    obtain ⟨h1, h⟩ := h
    refine j_zald 62 rfl dX8_isRight_61 ly_56 h1 ?_
    obtain ⟨hbt, hbf⟩ := h
    refine j_if_eq 65 89 rfl (by decide) dX8_isRight_62 (fun hc => ?_) (fun hc => ?_)
    · have h := hbt hc
      refine j_iinc 1 (v1 + (1 : Int32)) [(0, .ref 49), (1, .int (v1 + (1 : Int32)))] 92 rfl dX8_isRight_89 rfl rfl (by decide) rfl ?_
      refine j_goto 48 (by decide) dX8_isRight_92 ?_
      exact h
    · have h := hbf hc
      refine j_aload_n 0 66 rfl dX8_isRight_65 rfl rfl ?_
      refine j_iload_n 1 67 rfl dX8_isRight_66 rfl rfl ?_
      refine j_aload_n 0 68 rfl dX8_isRight_67 rfl rfl ?_
      refine j_iload_n 1 69 rfl dX8_isRight_68 rfl rfl ?_
      refine j_callV (K' := kX8_loadOf) (As := [.int v1]) (S := [.int v1, .ref 49]) dX8_isRight_69 ll_X8_144 ok_X8_loadOf ⟨by decide, by decide⟩ ly_49 rfl rfl (Nat.le_of_ble_eq_true rfl) rfl (CT.mono h (fun r G2 hr => ?_))
      obtain ⟨r3, rfl, h⟩ := hr
      show zJ kX8_isRight post 72 [(0, .ref 49), (1, .int v1)] [.int r3, .int v1, .ref 49] G2
      refine j_i2l 73 rfl dX8_isRight_72 ?_
      refine j_lconst (1 : Int64) 74 rfl dX8_isRight_73 (by decide) ?_
      refine j_callV (K' := kX8_waitBy) (As := [.int v1, .long r3.toInt64, .long (1 : Int64)]) (S := []) dX8_isRight_74 ll_X8_113 ok_X8_waitBy ⟨by decide, by decide⟩ ly_49 rfl rfl (Nat.le_of_ble_eq_true rfl) rfl (CT.mono h (fun r G4 hr => ?_))
      obtain ⟨r5, rfl, h⟩ := hr
      show zJ kX8_isRight post 77 [(0, .ref 49), (1, .int v1)] [.int r5] G4
      obtain ⟨hbt, hbf⟩ := h
      refine j_if_lt 80 89 rfl (by decide) dX8_isRight_77 (fun hc => ?_) (fun hc => ?_)
      · have h := hbt hc
        refine j_iinc 1 (v1 + (1 : Int32)) [(0, .ref 49), (1, .int (v1 + (1 : Int32)))] 92 rfl dX8_isRight_89 rfl rfl (by decide) rfl ?_
        refine j_goto 48 (by decide) dX8_isRight_92 ?_
        exact h
      · have h := hbf hc
        refine j_aload_n 0 81 rfl dX8_isRight_80 rfl rfl ?_
        refine j_iconst (4 : Int32) 82 rfl dX8_isRight_81 (by decide) ?_
        refine j_iload_n 1 83 rfl dX8_isRight_82 rfl rfl ?_
        refine j_iconst (-1 : Int32) 84 rfl dX8_isRight_83 (by decide) ?_
        refine j_iconst (-1 : Int32) 85 rfl dX8_isRight_84 (by decide) ?_
        refine j_callV (K' := kX8_tells) (As := [.int (4 : Int32), .int v1, .int (-1 : Int32), .int (-1 : Int32)]) (S := []) dX8_isRight_85 ll_X8_159 ok_X8_tells ⟨by decide, by decide⟩ ly_49 rfl rfl (Nat.le_of_ble_eq_true rfl) rfl (CT.mono h (fun r G6 hr => ?_))
        obtain ⟨r7, rfl, h⟩ := hr
        show zJ kX8_isRight post 88 [(0, .ref 49), (1, .int v1)] [.int r7] G6
        obtain ⟨hbo, h⟩ := h
        exact j_iret dX8_isRight_88 rfl (zBo_n hbo) h
theorem vX8_right (post : Option Value → GG → Prop) (v1 : Int32) (G : GG) (h : CTi kX8_isRight [.ref 49] G (fun r2 G1 => (¬ v1 = (0 : Int32) → ((¬ v1 = (1 : Int32) → ((¬ v1 = (2 : Int32) → ((¬ v1 = (3 : Int32) → (post (some (.int (-1 : Int32))) G1)) ∧ (v1 = (3 : Int32) → (post (some (.int (G1 49 27))) G1)))) ∧ (v1 = (2 : Int32) → (post (some (.int (G1 49 26))) G1)))) ∧ (v1 = (1 : Int32) → (post (some (.int (G1 49 25))) G1)))) ∧ (v1 = (0 : Int32) → (post (some (.int (G1 49 24))) G1)))) : CT kX8_right [.ref 49, .int v1] G post := by
  refine CT.of (by decide) (Nat.le_of_ble_eq_true rfl) ?_
  show zJ kX8_right post 0 [(0, .ref 49), (1, .int v1)] [] G
  refine j_aload_n 0 1 rfl dX8_right_0 rfl rfl ?_
  refine j_callV (K' := kX8_isRight) (As := []) (S := []) dX8_right_1 ll_X8_169 ok_X8_isRight ⟨by decide, by decide⟩ ly_49 rfl rfl (Nat.le_of_ble_eq_true rfl) rfl (CT.mono h (fun r G1 hr => ?_))
  obtain ⟨r2, rfl, h⟩ := hr
  show zJ kX8_right post 4 [(0, .ref 49), (1, .int v1)] [.int r2] G1
  refine j_pop 5 rfl dX8_right_4 rfl ?_
  refine j_iload_n 1 6 rfl dX8_right_5 rfl rfl ?_
  obtain ⟨hbt, hbf⟩ := h
  refine j_if_ne 9 16 rfl (by decide) dX8_right_6 (fun hc => ?_) (fun hc => ?_)
  · have h := hbt hc
    refine j_iload_n 1 17 rfl dX8_right_16 rfl rfl ?_
    refine j_iconst (1 : Int32) 18 rfl dX8_right_17 (by decide) ?_
    obtain ⟨hbt, hbf⟩ := h
    refine j_icmp_ne 21 28 rfl (by decide) dX8_right_18 (fun hc => ?_) (fun hc => ?_)
    · have h := hbt hc
      refine j_iload_n 1 29 rfl dX8_right_28 rfl rfl ?_
      refine j_iconst (2 : Int32) 30 rfl dX8_right_29 (by decide) ?_
      obtain ⟨hbt, hbf⟩ := h
      refine j_icmp_ne 33 40 rfl (by decide) dX8_right_30 (fun hc => ?_) (fun hc => ?_)
      · have h := hbt hc
        refine j_iload_n 1 41 rfl dX8_right_40 rfl rfl ?_
        refine j_iconst (3 : Int32) 42 rfl dX8_right_41 (by decide) ?_
        obtain ⟨hbt, hbf⟩ := h
        refine j_icmp_ne 45 52 rfl (by decide) dX8_right_42 (fun hc => ?_) (fun hc => ?_)
        · have h := hbt hc
          refine j_iconst (-1 : Int32) 53 rfl dX8_right_52 (by decide) ?_
          exact j_iret dX8_right_53 rfl rfl h
        · have h := hbf hc
          refine j_aload_n 0 46 rfl dX8_right_45 rfl rfl ?_
          refine j_getI 49 rfl dX8_right_46 lf_X8_156 ly_49 rfl ?_
          refine j_goto 53 (by decide) dX8_right_49 ?_
          exact j_iret dX8_right_53 rfl rfl h
      · have h := hbf hc
        refine j_aload_n 0 34 rfl dX8_right_33 rfl rfl ?_
        refine j_getI 37 rfl dX8_right_34 lf_X8_153 ly_49 rfl ?_
        refine j_goto 53 (by decide) dX8_right_37 ?_
        exact j_iret dX8_right_53 rfl rfl h
    · have h := hbf hc
      refine j_aload_n 0 22 rfl dX8_right_21 rfl rfl ?_
      refine j_getI 25 rfl dX8_right_22 lf_X8_150 ly_49 rfl ?_
      refine j_goto 53 (by decide) dX8_right_25 ?_
      exact j_iret dX8_right_53 rfl rfl h
  · have h := hbf hc
    refine j_aload_n 0 10 rfl dX8_right_9 rfl rfl ?_
    refine j_getI 13 rfl dX8_right_10 lf_X8_147 ly_49 rfl ?_
    refine j_goto 53 (by decide) dX8_right_13 ?_
    exact j_iret dX8_right_53 rfl rfl h
theorem vX8_raises (post : Option Value → GG → Prop)  (G : GG) (h : zJ kX8_raises post 2 [(0, .ref 49), (1, .int (1 : Int32))] [] G) : CT kX8_raises [.ref 49] G post := by
  refine CT.of (by decide) (Nat.le_of_ble_eq_true rfl) ?_
  show zJ kX8_raises post 0 [(0, .ref 49)] [] G
  refine j_iconst (1 : Int32) 1 rfl dX8_raises_0 (by decide) ?_
  refine j_istore_n [(0, .ref 49), (1, .int (1 : Int32))] 2 rfl dX8_raises_1 rfl (by decide) rfl ?_
  exact h
theorem vX8_raises_2 (post : Option Value → GG → Prop) (v1 : Int32) (G : GG) (h : ((G 49 0) ≤ v1 → (post (some (.int (0 : Int32))) G)) ∧ (¬ (G 49 0) ≤ v1 → (zJ kX8_raises post 12 [(0, .ref 49), (1, .int v1), (2, .int (0 : Int32))] [] G))) : zJ kX8_raises post 2 [(0, .ref 49), (1, .int v1)] [] G := by
  refine j_iload_n 1 3 rfl dX8_raises_2 rfl rfl ?_
  refine j_aload_n 0 4 rfl dX8_raises_3 rfl rfl ?_
  refine j_getI 7 rfl dX8_raises_4 lf_X8_7 ly_49 rfl ?_
  obtain ⟨hbt, hbf⟩ := h
  refine j_icmp_ge 10 79 rfl (by decide) dX8_raises_7 (fun hc => ?_) (fun hc => ?_)
  · have h := hbt hc
    refine j_iconst (0 : Int32) 80 rfl dX8_raises_79 (by decide) ?_
    exact j_iret dX8_raises_80 rfl rfl h
  · have h := hbf hc
    refine j_iconst (0 : Int32) 11 rfl dX8_raises_10 (by decide) ?_
    refine j_istore_n [(0, .ref 49), (1, .int v1), (2, .int (0 : Int32))] 12 rfl dX8_raises_11 rfl (by decide) rfl ?_
    exact h
theorem vX8_raises_12 (post : Option Value → GG → Prop) (v1 : Int32) (v2 : Int32) (G : GG) (h : ((34 : Int32) ≤ v2 → (zJ kX8_raises post 2 [(0, .ref 49), (1, .int (v1 + (1 : Int32)))] [] G)) ∧ (¬ (34 : Int32) ≤ v2 → (CTi kX8_tooShort [.ref 49, .int v1, .int (v2 / (2 : Int32)), .int ((v2 - v2 / (2 : Int32) * (2 : Int32)) * (G 49 5))] G (fun r2 G1 => ((0 : Int32) ≤ r2 → ((vp_in r2 30) ∧ ((¬ (G1 58 r2.toNatClampNeg) = (40 : Int32) → ((vp_in r2 30) ∧ ((vp_in r2 30) ∧ (post (some (.int (1 : Int32))) (gU G1 58 r2.toNatClampNeg ((G1 58 r2.toNatClampNeg) + (1 : Int32))))))) ∧ ((G1 58 r2.toNatClampNeg) = (40 : Int32) → (post (some (.int (-1 : Int32))) G1))))) ∧ (¬ (0 : Int32) ≤ r2 → (zJ kX8_raises post 12 [(0, .ref 49), (1, .int v1), (2, .int (v2 + (1 : Int32)))] [] G1)))))) : zJ kX8_raises post 12 [(0, .ref 49), (1, .int v1), (2, .int v2)] [] G := by
  refine j_iload_n 2 13 rfl dX8_raises_12 rfl rfl ?_
  refine j_bipush (34 : Int32) 15 rfl dX8_raises_13 (by decide) ?_
  obtain ⟨hbt, hbf⟩ := h
  refine j_icmp_ge 18 73 rfl (by decide) dX8_raises_15 (fun hc => ?_) (fun hc => ?_)
  · have h := hbt hc
    refine j_iinc 1 (v1 + (1 : Int32)) [(0, .ref 49), (1, .int (v1 + (1 : Int32))), (2, .int v2)] 76 rfl dX8_raises_73 rfl rfl (by decide) rfl ?_
    refine j_goto 2 (by decide) dX8_raises_76 ?_
    refine j_sub [0, 1] rfl ?_
    exact h
  · have h := hbf hc
    refine j_aload_n 0 19 rfl dX8_raises_18 rfl rfl ?_
    refine j_iload_n 1 20 rfl dX8_raises_19 rfl rfl ?_
    refine j_iload_n 2 21 rfl dX8_raises_20 rfl rfl ?_
    refine j_iconst (2 : Int32) 22 rfl dX8_raises_21 (by decide) ?_
    refine j_idiv 23 rfl dX8_raises_22 (by decide) ?_
    refine j_iload_n 2 24 rfl dX8_raises_23 rfl rfl ?_
    refine j_iconst (2 : Int32) 25 rfl dX8_raises_24 (by decide) ?_
    refine j_irem 26 rfl dX8_raises_25 (by decide) ?_
    refine j_aload_n 0 27 rfl dX8_raises_26 rfl rfl ?_
    refine j_getI 30 rfl dX8_raises_27 lf_X8_98 ly_49 rfl ?_
    refine j_imul 31 rfl dX8_raises_30 ?_
    refine j_callV (K' := kX8_tooShort) (As := [.int v1, .int (v2 / (2 : Int32)), .int ((v2 - v2 / (2 : Int32) * (2 : Int32)) * (G 49 5))]) (S := []) dX8_raises_31 ll_X8_163 ok_X8_tooShort ⟨by decide, by decide⟩ ly_49 rfl rfl (Nat.le_of_ble_eq_true rfl) rfl (CT.mono h (fun r G1 hr => ?_))
    obtain ⟨r2, rfl, h⟩ := hr
    show zJ kX8_raises post 34 [(0, .ref 49), (1, .int v1), (2, .int v2)] [.int r2] G1
    refine j_istore_n [(0, .ref 49), (1, .int v1), (2, .int v2), (3, .int r2)] 35 rfl dX8_raises_34 rfl (by decide) rfl ?_
    refine j_iload_n 3 36 rfl dX8_raises_35 rfl rfl ?_
    obtain ⟨hbt, hbf⟩ := h
    refine j_if_ge 39 42 rfl (by decide) dX8_raises_36 (fun hc => ?_) (fun hc => ?_)
    · have h := hbt hc
      refine j_aload_n 0 43 rfl dX8_raises_42 rfl rfl ?_
      refine j_getR 46 rfl dX8_raises_43 lf_X8_52 ly_49 rfl ?_
      refine j_iload_n 3 47 rfl dX8_raises_46 rfl rfl ?_
      obtain ⟨h3, h⟩ := h
      refine j_iald 48 rfl dX8_raises_47 ly_58 h3 ?_
      refine j_bipush (40 : Int32) 50 rfl dX8_raises_48 (by decide) ?_
      obtain ⟨hbt, hbf⟩ := h
      refine j_icmp_ne 53 55 rfl (by decide) dX8_raises_50 (fun hc => ?_) (fun hc => ?_)
      · have h := hbt hc
        refine j_aload_n 0 56 rfl dX8_raises_55 rfl rfl ?_
        refine j_getR 59 rfl dX8_raises_56 lf_X8_52 ly_49 rfl ?_
        refine j_iload_n 3 60 rfl dX8_raises_59 rfl rfl ?_
        refine j_dup2 61 rfl dX8_raises_60 rfl rfl ?_
        obtain ⟨h4, h⟩ := h
        refine j_iald 62 rfl dX8_raises_61 ly_58 h4 ?_
        refine j_iconst (1 : Int32) 63 rfl dX8_raises_62 (by decide) ?_
        refine j_iadd 64 rfl dX8_raises_63 ?_
        obtain ⟨h5, h⟩ := h
        refine j_iast 65 rfl dX8_raises_64 ly_58 h5 ?_
        refine j_iconst (1 : Int32) 66 rfl dX8_raises_65 (by decide) ?_
        exact j_iret dX8_raises_66 rfl rfl h
      · have h := hbf hc
        refine j_iconst (-1 : Int32) 54 rfl dX8_raises_53 (by decide) ?_
        exact j_iret dX8_raises_54 rfl rfl h
    · have h := hbf hc
      refine j_goto 67 (by decide) dX8_raises_39 ?_
      refine j_iinc 2 (v2 + (1 : Int32)) [(0, .ref 49), (1, .int v1), (2, .int (v2 + (1 : Int32))), (3, .int r2)] 70 rfl dX8_raises_67 rfl rfl (by decide) rfl ?_
      refine j_goto 12 (by decide) dX8_raises_70 ?_
      refine j_sub [0, 1, 2] rfl ?_
      exact h
theorem vX8_fit (post : Option Value → GG → Prop)  (G : GG) (h : zJ kX8_fit post 2 [(0, .ref 49), (1, .int (1 : Int32))] [] G) : CT kX8_fit [.ref 49] G post := by
  refine CT.of (by decide) (Nat.le_of_ble_eq_true rfl) ?_
  show zJ kX8_fit post 0 [(0, .ref 49)] [] G
  refine j_iconst (1 : Int32) 1 rfl dX8_fit_0 (by decide) ?_
  refine j_istore_n [(0, .ref 49), (1, .int (1 : Int32))] 2 rfl dX8_fit_1 rfl (by decide) rfl ?_
  exact h
theorem vX8_fit_2 (post : Option Value → GG → Prop) (v1 : Int32) (G : GG) (h : ((G 49 0) ≤ v1 → (zJ kX8_fit post 46 [(0, .ref 49), (1, .int (1 : Int32))] [] G)) ∧ (¬ (G 49 0) ≤ v1 → ((vp_in v1 30) ∧ ((vp_in v1 30) ∧ ((vp_in v1 30) ∧ ((((gU G 65 v1.toNatClampNeg (G 58 v1.toNatClampNeg)) 56 v1.toNatClampNeg) = (0 : Int32) → (zJ kX8_fit post 2 [(0, .ref 49), (1, .int (v1 + (1 : Int32)))] [] (gU G 65 v1.toNatClampNeg (G 58 v1.toNatClampNeg)))) ∧ (¬ ((gU G 65 v1.toNatClampNeg (G 58 v1.toNatClampNeg)) 56 v1.toNatClampNeg) = (0 : Int32) → ((vp_in v1 30) ∧ (zJ kX8_fit post 2 [(0, .ref 49), (1, .int (v1 + (1 : Int32)))] [] (gU (gU G 65 v1.toNatClampNeg (G 58 v1.toNatClampNeg)) 58 v1.toNatClampNeg (1 : Int32))))))))))) : zJ kX8_fit post 2 [(0, .ref 49), (1, .int v1)] [] G := by
  refine j_iload_n 1 3 rfl dX8_fit_2 rfl rfl ?_
  refine j_aload_n 0 4 rfl dX8_fit_3 rfl rfl ?_
  refine j_getI 7 rfl dX8_fit_4 lf_X8_7 ly_49 rfl ?_
  obtain ⟨hbt, hbf⟩ := h
  refine j_icmp_ge 10 44 rfl (by decide) dX8_fit_7 (fun hc => ?_) (fun hc => ?_)
  · have h := hbt hc
    refine j_iconst (1 : Int32) 45 rfl dX8_fit_44 (by decide) ?_
    refine j_istore_n [(0, .ref 49), (1, .int (1 : Int32))] 46 rfl dX8_fit_45 rfl (by decide) rfl ?_
    exact h
  · have h := hbf hc
    refine j_aload_n 0 11 rfl dX8_fit_10 rfl rfl ?_
    refine j_getR 14 rfl dX8_fit_11 lf_X8_73 ly_49 rfl ?_
    refine j_iload_n 1 15 rfl dX8_fit_14 rfl rfl ?_
    refine j_aload_n 0 16 rfl dX8_fit_15 rfl rfl ?_
    refine j_getR 19 rfl dX8_fit_16 lf_X8_52 ly_49 rfl ?_
    refine j_iload_n 1 20 rfl dX8_fit_19 rfl rfl ?_
    obtain ⟨h1, h⟩ := h
    refine j_iald 21 rfl dX8_fit_20 ly_58 h1 ?_
    obtain ⟨h2, h⟩ := h
    refine j_iast 22 rfl dX8_fit_21 ly_65 h2 ?_
    refine j_aload_n 0 23 rfl dX8_fit_22 rfl rfl ?_
    refine j_getR 26 rfl dX8_fit_23 lf_X8_45 ly_49 rfl ?_
    refine j_iload_n 1 27 rfl dX8_fit_26 rfl rfl ?_
    obtain ⟨h3, h⟩ := h
    refine j_zald 28 rfl dX8_fit_27 ly_56 h3 ?_
    obtain ⟨hbt, hbf⟩ := h
    refine j_if_eq 31 38 rfl (by decide) dX8_fit_28 (fun hc => ?_) (fun hc => ?_)
    · have h := hbt hc
      refine j_iinc 1 (v1 + (1 : Int32)) [(0, .ref 49), (1, .int (v1 + (1 : Int32)))] 41 rfl dX8_fit_38 rfl rfl (by decide) rfl ?_
      refine j_goto 2 (by decide) dX8_fit_41 ?_
      exact h
    · have h := hbf hc
      refine j_aload_n 0 32 rfl dX8_fit_31 rfl rfl ?_
      refine j_getR 35 rfl dX8_fit_32 lf_X8_52 ly_49 rfl ?_
      refine j_iload_n 1 36 rfl dX8_fit_35 rfl rfl ?_
      refine j_iconst (1 : Int32) 37 rfl dX8_fit_36 (by decide) ?_
      obtain ⟨h4, h⟩ := h
      refine j_iast 38 rfl dX8_fit_37 ly_58 h4 ?_
      refine j_iinc 1 (v1 + (1 : Int32)) [(0, .ref 49), (1, .int (v1 + (1 : Int32)))] 41 rfl dX8_fit_38 rfl rfl (by decide) rfl ?_
      refine j_goto 2 (by decide) dX8_fit_41 ?_
      exact h
theorem vX8_fit_46 (post : Option Value → GG → Prop) (v1 : Int32) (G : GG) (h : (¬ v1 = (1 : Int32) → ((v1 < (0 : Int32) → (zJ kX8_fit post 72 [(0, .ref 49), (2, .int (1 : Int32))] [] G)) ∧ (¬ v1 < (0 : Int32) → (CTi kX8_isRight [.ref 49] G (fun r2 G1 => (¬ r2 = (0 : Int32) → (zJ kX8_fit post 109 [(0, .ref 49), (2, .int (0 : Int32)), (3, .int (1 : Int32))] [] (gU G1 49 19 (0 : Int32)))) ∧ (r2 = (0 : Int32) → (zJ kX8_fit post 72 [(0, .ref 49), (2, .int (1 : Int32))] [] G1))))))) ∧ (v1 = (1 : Int32) → (CTi kX8_raises [.ref 49] G (fun r4 G3 => zJ kX8_fit post 46 [(0, .ref 49), (1, .int r4)] [] G3)))) : zJ kX8_fit post 46 [(0, .ref 49), (1, .int v1)] [] G := by
  refine j_iload_n 1 47 rfl dX8_fit_46 rfl rfl ?_
  refine j_iconst (1 : Int32) 48 rfl dX8_fit_47 (by decide) ?_
  obtain ⟨hbt, hbf⟩ := h
  refine j_icmp_ne 51 59 rfl (by decide) dX8_fit_48 (fun hc => ?_) (fun hc => ?_)
  · have h := hbt hc
    refine j_iload_n 1 60 rfl dX8_fit_59 rfl rfl ?_
    obtain ⟨hbt, hbf⟩ := h
    refine j_if_lt 63 70 rfl (by decide) dX8_fit_60 (fun hc => ?_) (fun hc => ?_)
    · have h := hbt hc
      refine j_iconst (1 : Int32) 71 rfl dX8_fit_70 (by decide) ?_
      refine j_istore_n [(0, .ref 49), (1, .int v1), (2, .int (1 : Int32))] 72 rfl dX8_fit_71 rfl (by decide) rfl ?_
      refine j_sub [0, 2] rfl ?_
      exact h
    · have h := hbf hc
      refine j_aload_n 0 64 rfl dX8_fit_63 rfl rfl ?_
      refine j_callV (K' := kX8_isRight) (As := []) (S := []) dX8_fit_64 ll_X8_169 ok_X8_isRight ⟨by decide, by decide⟩ ly_49 rfl rfl (Nat.le_of_ble_eq_true rfl) rfl (CT.mono h (fun r G1 hr => ?_))
      obtain ⟨r2, rfl, h⟩ := hr
      show zJ kX8_fit post 67 [(0, .ref 49), (1, .int v1)] [.int r2] G1
      obtain ⟨hbt, hbf⟩ := h
      refine j_if_ne 70 100 rfl (by decide) dX8_fit_67 (fun hc => ?_) (fun hc => ?_)
      · have h := hbt hc
        refine j_aload_n 0 101 rfl dX8_fit_100 rfl rfl ?_
        refine j_iconst (0 : Int32) 102 rfl dX8_fit_101 (by decide) ?_
        refine j_put 105 rfl dX8_fit_102 lp_X8_91 ly_49 rfl rfl rfl ?_
        refine j_iconst (0 : Int32) 106 rfl dX8_fit_105 (by decide) ?_
        refine j_istore_n [(0, .ref 49), (1, .int v1), (2, .int (0 : Int32))] 107 rfl dX8_fit_106 rfl (by decide) rfl ?_
        refine j_iconst (1 : Int32) 108 rfl dX8_fit_107 (by decide) ?_
        refine j_istore_n [(0, .ref 49), (1, .int v1), (2, .int (0 : Int32)), (3, .int (1 : Int32))] 109 rfl dX8_fit_108 rfl (by decide) rfl ?_
        refine j_sub [0, 2, 3] rfl ?_
        exact h
      · have h := hbf hc
        refine j_iconst (1 : Int32) 71 rfl dX8_fit_70 (by decide) ?_
        refine j_istore_n [(0, .ref 49), (1, .int v1), (2, .int (1 : Int32))] 72 rfl dX8_fit_71 rfl (by decide) rfl ?_
        refine j_sub [0, 2] rfl ?_
        exact h
  · have h := hbf hc
    refine j_aload_n 0 52 rfl dX8_fit_51 rfl rfl ?_
    refine j_callV (K' := kX8_raises) (As := []) (S := []) dX8_fit_52 ll_X8_173 ok_X8_raises ⟨by decide, by decide⟩ ly_49 rfl rfl (Nat.le_of_ble_eq_true rfl) rfl (CT.mono h (fun r G3 hr => ?_))
    obtain ⟨r4, rfl, h⟩ := hr
    show zJ kX8_fit post 55 [(0, .ref 49), (1, .int v1)] [.int r4] G3
    refine j_istore_n [(0, .ref 49), (1, .int r4)] 56 rfl dX8_fit_55 rfl (by decide) rfl ?_
    refine j_goto 46 (by decide) dX8_fit_56 ?_
    exact h
theorem vX8_fit_72 (post : Option Value → GG → Prop) (v2 : Int32) (G : GG) (h : ((G 49 0) ≤ v2 → (post (some (.int (-1 : Int32))) G)) ∧ (¬ (G 49 0) ≤ v2 → ((vp_in v2 30) ∧ ((vp_in v2 30) ∧ (zJ kX8_fit post 72 [(0, .ref 49), (2, .int (v2 + (1 : Int32)))] [] (gU G 58 v2.toNatClampNeg (G 65 v2.toNatClampNeg))))))) : zJ kX8_fit post 72 [(0, .ref 49), (2, .int v2)] [] G := by
  refine j_iload_n 1 73 rfl dX8_fit_72 rfl rfl ?_
  refine j_aload_n 0 74 rfl dX8_fit_73 rfl rfl ?_
  refine j_getI 77 rfl dX8_fit_74 lf_X8_7 ly_49 rfl ?_
  obtain ⟨hbt, hbf⟩ := h
  refine j_icmp_ge 80 98 rfl (by decide) dX8_fit_77 (fun hc => ?_) (fun hc => ?_)
  · have h := hbt hc
    refine j_iconst (-1 : Int32) 99 rfl dX8_fit_98 (by decide) ?_
    exact j_iret dX8_fit_99 rfl rfl h
  · have h := hbf hc
    refine j_aload_n 0 81 rfl dX8_fit_80 rfl rfl ?_
    refine j_getR 84 rfl dX8_fit_81 lf_X8_52 ly_49 rfl ?_
    refine j_iload_n 1 85 rfl dX8_fit_84 rfl rfl ?_
    refine j_aload_n 0 86 rfl dX8_fit_85 rfl rfl ?_
    refine j_getR 89 rfl dX8_fit_86 lf_X8_73 ly_49 rfl ?_
    refine j_iload_n 1 90 rfl dX8_fit_89 rfl rfl ?_
    obtain ⟨h1, h⟩ := h
    refine j_iald 91 rfl dX8_fit_90 ly_65 h1 ?_
    obtain ⟨h2, h⟩ := h
    refine j_iast 92 rfl dX8_fit_91 ly_58 h2 ?_
    refine j_iinc 1 (v2 + (1 : Int32)) [(0, .ref 49), (2, .int (v2 + (1 : Int32)))] 95 rfl dX8_fit_92 rfl rfl (by decide) rfl ?_
    refine j_goto 72 (by decide) dX8_fit_95 ?_
    exact h
theorem vX8_fit_109 (post : Option Value → GG → Prop) (v2 : Int32) (v3 : Int32) (G : GG) (h : ((G 49 0) ≤ v3 → (post (some (.int v2)) G)) ∧ (¬ (G 49 0) ≤ v3 → ((vp_in v3 30) ∧ (((G 56 v3.toNatClampNeg) = (0 : Int32) → (zJ kX8_fit post 109 [(0, .ref 49), (2, .int (v2 + (0 : Int32))), (3, .int (v3 + (1 : Int32)))] [] G)) ∧ (¬ (G 56 v3.toNatClampNeg) = (0 : Int32) → ((vp_in v3 30) ∧ (zJ kX8_fit post 109 [(0, .ref 49), (2, .int (v2 + (G 58 v3.toNatClampNeg))), (3, .int (v3 + (1 : Int32)))] [] G))))))) : zJ kX8_fit post 109 [(0, .ref 49), (2, .int v2), (3, .int v3)] [] G := by
  refine j_iload_n 2 110 rfl dX8_fit_109 rfl rfl ?_
  refine j_aload_n 0 111 rfl dX8_fit_110 rfl rfl ?_
  refine j_getI 114 rfl dX8_fit_111 lf_X8_7 ly_49 rfl ?_
  obtain ⟨hbt, hbf⟩ := h
  refine j_icmp_ge 117 145 rfl (by decide) dX8_fit_114 (fun hc => ?_) (fun hc => ?_)
  · have h := hbt hc
    refine j_iload_n 1 146 rfl dX8_fit_145 rfl rfl ?_
    exact j_iret dX8_fit_146 rfl rfl h
  · have h := hbf hc
    refine j_iload_n 1 118 rfl dX8_fit_117 rfl rfl ?_
    refine j_aload_n 0 119 rfl dX8_fit_118 rfl rfl ?_
    refine j_getR 122 rfl dX8_fit_119 lf_X8_45 ly_49 rfl ?_
    refine j_iload_n 2 123 rfl dX8_fit_122 rfl rfl ?_
    obtain ⟨h1, h⟩ := h
    refine j_zald 124 rfl dX8_fit_123 ly_56 h1 ?_
    obtain ⟨hbt, hbf⟩ := h
    refine j_if_eq 127 136 rfl (by decide) dX8_fit_124 (fun hc => ?_) (fun hc => ?_)
    · have h := hbt hc
      refine j_iconst (0 : Int32) 137 rfl dX8_fit_136 (by decide) ?_
      refine j_iadd 138 rfl dX8_fit_137 ?_
      refine j_istore_n [(0, .ref 49), (2, .int (v2 + (0 : Int32))), (3, .int v3)] 139 rfl dX8_fit_138 rfl (by decide) rfl ?_
      refine j_iinc 2 (v3 + (1 : Int32)) [(0, .ref 49), (2, .int (v2 + (0 : Int32))), (3, .int (v3 + (1 : Int32)))] 142 rfl dX8_fit_139 rfl rfl (by decide) rfl ?_
      refine j_goto 109 (by decide) dX8_fit_142 ?_
      exact h
    · have h := hbf hc
      refine j_aload_n 0 128 rfl dX8_fit_127 rfl rfl ?_
      refine j_getR 131 rfl dX8_fit_128 lf_X8_52 ly_49 rfl ?_
      refine j_iload_n 2 132 rfl dX8_fit_131 rfl rfl ?_
      obtain ⟨h2, h⟩ := h
      refine j_iald 133 rfl dX8_fit_132 ly_58 h2 ?_
      refine j_goto 137 (by decide) dX8_fit_133 ?_
      refine j_iadd 138 rfl dX8_fit_137 ?_
      refine j_istore_n [(0, .ref 49), (2, .int (v2 + (G 58 v3.toNatClampNeg))), (3, .int v3)] 139 rfl dX8_fit_138 rfl (by decide) rfl ?_
      refine j_iinc 2 (v3 + (1 : Int32)) [(0, .ref 49), (2, .int (v2 + (G 58 v3.toNatClampNeg))), (3, .int (v3 + (1 : Int32)))] 142 rfl dX8_fit_139 rfl rfl (by decide) rfl ?_
      refine j_goto 109 (by decide) dX8_fit_142 ?_
      exact h
theorem vX8_growth (post : Option Value → GG → Prop)  (G : GG) (h : zJ kX8_growth post 5 [(0, .ref 49), (1, .int (100000 : Int32)), (2, .int (1 : Int32))] [] G) : CT kX8_growth [.ref 49] G post := by
  refine CT.of (by decide) (Nat.le_of_ble_eq_true rfl) ?_
  show zJ kX8_growth post 0 [(0, .ref 49)] [] G
  refine j_ldc (100000 : Int32) 2 rfl dX8_growth_0 lc_X8_22 ?_
  refine j_istore_n [(0, .ref 49), (1, .int (100000 : Int32))] 3 rfl dX8_growth_2 rfl (by decide) rfl ?_
  refine j_iconst (1 : Int32) 4 rfl dX8_growth_3 (by decide) ?_
  refine j_istore_n [(0, .ref 49), (1, .int (100000 : Int32)), (2, .int (1 : Int32))] 5 rfl dX8_growth_4 rfl (by decide) rfl ?_
  exact h
theorem vX8_growth_5 (post : Option Value → GG → Prop) (v1 : Int32) (v2 : Int32) (G : GG) (h : ((G 49 0) ≤ v2 → (post (some (.int v1)) G)) ∧ (¬ (G 49 0) ≤ v2 → (CTi kX8_loadOf [.ref 49, .int v2] G (fun r2 G1 => (vp_in v2 30) ∧ (((G1 56 v2.toNatClampNeg) = (0 : Int32) → (zJ kX8_growth post 5 [(0, .ref 49), (1, .int v1), (2, .int (v2 + (1 : Int32)))] [] G1)) ∧ (¬ (G1 56 v2.toNatClampNeg) = (0 : Int32) → ((vp_in v2 30) ∧ ((vp_in (G1 57 v2.toNatClampNeg) 8) ∧ (((G1 53 (G1 57 v2.toNatClampNeg).toNatClampNeg) = (0 : Int32) → (zJ kX8_growth post 5 [(0, .ref 49), (1, .int v1), (2, .int (v2 + (1 : Int32)))] [] G1)) ∧ (¬ (G1 53 (G1 57 v2.toNatClampNeg).toNatClampNeg) = (0 : Int32) → ((¬ r2.toInt64 = (0 : Int64) → ((vp_in v2 30) ∧ ((vp_in v2 30) ∧ ((vp_in ((8 : Int32) * (G1 57 v2.toNatClampNeg)) 64) ∧ ((¬ ((10 : Int64) * r2.toInt64) = (0 : Int64)) ∧ ((v1.toInt64 ≤ (((((((100 : Int64) * (G1 59 v2.toNatClampNeg).toInt64) * (G1 54 ((8 : Int32) * (G1 57 v2.toNatClampNeg)).toNatClampNeg).toInt64) + ((10 : Int64) * r2.toInt64)) - (1 : Int64)) / ((10 : Int64) * r2.toInt64)) - (1 : Int64)) → (zJ kX8_growth post 5 [(0, .ref 49), (1, .int v1), (2, .int (v2 + (1 : Int32)))] [] G1)) ∧ (¬ v1.toInt64 ≤ (((((((100 : Int64) * (G1 59 v2.toNatClampNeg).toInt64) * (G1 54 ((8 : Int32) * (G1 57 v2.toNatClampNeg)).toNatClampNeg).toInt64) + ((10 : Int64) * r2.toInt64)) - (1 : Int64)) / ((10 : Int64) * r2.toInt64)) - (1 : Int64)) → (zJ kX8_growth post 5 [(0, .ref 49), (1, .int (((((((100 : Int64) * (G1 59 v2.toNatClampNeg).toInt64) * (G1 54 ((8 : Int32) * (G1 57 v2.toNatClampNeg)).toNatClampNeg).toInt64) + ((10 : Int64) * r2.toInt64)) - (1 : Int64)) / ((10 : Int64) * r2.toInt64)) - (1 : Int64)).toInt32), (2, .int (v2 + (1 : Int32)))] [] G1)))))))) ∧ (r2.toInt64 = (0 : Int64) → (zJ kX8_growth post 5 [(0, .ref 49), (1, .int v1), (2, .int (v2 + (1 : Int32)))] [] G1))))))))))))) : zJ kX8_growth post 5 [(0, .ref 49), (1, .int v1), (2, .int v2)] [] G := by
  refine j_iload_n 2 6 rfl dX8_growth_5 rfl rfl ?_
  refine j_aload_n 0 7 rfl dX8_growth_6 rfl rfl ?_
  refine j_getI 10 rfl dX8_growth_7 lf_X8_7 ly_49 rfl ?_
  obtain ⟨hbt, hbf⟩ := h
  refine j_icmp_ge 13 121 rfl (by decide) dX8_growth_10 (fun hc => ?_) (fun hc => ?_)
  · have h := hbt hc
    refine j_iload_n 1 122 rfl dX8_growth_121 rfl rfl ?_
    exact j_iret dX8_growth_122 rfl rfl h
  · have h := hbf hc
    refine j_aload_n 0 14 rfl dX8_growth_13 rfl rfl ?_
    refine j_iload_n 2 15 rfl dX8_growth_14 rfl rfl ?_
    refine j_callV (K' := kX8_loadOf) (As := [.int v2]) (S := []) dX8_growth_15 ll_X8_144 ok_X8_loadOf ⟨by decide, by decide⟩ ly_49 rfl rfl (Nat.le_of_ble_eq_true rfl) rfl (CT.mono h (fun r G1 hr => ?_))
    obtain ⟨r2, rfl, h⟩ := hr
    show zJ kX8_growth post 18 [(0, .ref 49), (1, .int v1), (2, .int v2)] [.int r2] G1
    refine j_i2l 19 rfl dX8_growth_18 ?_
    refine j_lstore_n [(0, .ref 49), (1, .int v1), (2, .int v2), (3, .long r2.toInt64)] 20 rfl dX8_growth_19 rfl (by decide) rfl ?_
    refine j_aload_n 0 21 rfl dX8_growth_20 rfl rfl ?_
    refine j_getR 24 rfl dX8_growth_21 lf_X8_45 ly_49 rfl ?_
    refine j_iload_n 2 25 rfl dX8_growth_24 rfl rfl ?_
    obtain ⟨h3, h⟩ := h
    refine j_zald 26 rfl dX8_growth_25 ly_56 h3 ?_
    obtain ⟨hbt, hbf⟩ := h
    refine j_if_eq 29 115 rfl (by decide) dX8_growth_26 (fun hc => ?_) (fun hc => ?_)
    · have h := hbt hc
      refine j_iinc 2 (v2 + (1 : Int32)) [(0, .ref 49), (1, .int v1), (2, .int (v2 + (1 : Int32))), (3, .long r2.toInt64)] 118 rfl dX8_growth_115 rfl rfl (by decide) rfl ?_
      refine j_goto 5 (by decide) dX8_growth_118 ?_
      refine j_sub [0, 1, 2] rfl ?_
      exact h
    · have h := hbf hc
      refine j_aload_n 0 30 rfl dX8_growth_29 rfl rfl ?_
      refine j_getR 33 rfl dX8_growth_30 lf_X8_36 ly_49 rfl ?_
      refine j_aload_n 0 34 rfl dX8_growth_33 rfl rfl ?_
      refine j_getR 37 rfl dX8_growth_34 lf_X8_49 ly_49 rfl ?_
      refine j_iload_n 2 38 rfl dX8_growth_37 rfl rfl ?_
      obtain ⟨h4, h⟩ := h
      refine j_iald 39 rfl dX8_growth_38 ly_57 h4 ?_
      obtain ⟨h5, h⟩ := h
      refine j_iald 40 rfl dX8_growth_39 ly_53 h5 ?_
      obtain ⟨hbt, hbf⟩ := h
      refine j_if_eq 43 115 rfl (by decide) dX8_growth_40 (fun hc => ?_) (fun hc => ?_)
      · have h := hbt hc
        refine j_iinc 2 (v2 + (1 : Int32)) [(0, .ref 49), (1, .int v1), (2, .int (v2 + (1 : Int32))), (3, .long r2.toInt64)] 118 rfl dX8_growth_115 rfl rfl (by decide) rfl ?_
        refine j_goto 5 (by decide) dX8_growth_118 ?_
        refine j_sub [0, 1, 2] rfl ?_
        exact h
      · have h := hbf hc
        refine j_lload_n 3 44 rfl dX8_growth_43 rfl rfl ?_
        refine j_lconst (0 : Int64) 45 rfl dX8_growth_44 (by decide) ?_
        obtain ⟨hbt, hbf⟩ := h
        refine j_lif_ne 46 49 52 rfl rfl (by decide) dX8_growth_45 dX8_growth_46 (fun hc => ?_) (fun hc => ?_)
        · have h := hbt hc
          refine j_ldc2_w (100 : Int64) 55 rfl dX8_growth_52 lc_X8_177 ?_
          refine j_aload_n 0 56 rfl dX8_growth_55 rfl rfl ?_
          refine j_getR 59 rfl dX8_growth_56 lf_X8_55 ly_49 rfl ?_
          refine j_iload_n 2 60 rfl dX8_growth_59 rfl rfl ?_
          obtain ⟨h6, h⟩ := h
          refine j_iald 61 rfl dX8_growth_60 ly_59 h6 ?_
          refine j_i2l 62 rfl dX8_growth_61 ?_
          refine j_lmul 63 rfl dX8_growth_62 ?_
          refine j_aload_n 0 64 rfl dX8_growth_63 rfl rfl ?_
          refine j_getR 67 rfl dX8_growth_64 lf_X8_39 ly_49 rfl ?_
          refine j_bipush (8 : Int32) 69 rfl dX8_growth_67 (by decide) ?_
          refine j_aload_n 0 70 rfl dX8_growth_69 rfl rfl ?_
          refine j_getR 73 rfl dX8_growth_70 lf_X8_49 ly_49 rfl ?_
          refine j_iload_n 2 74 rfl dX8_growth_73 rfl rfl ?_
          obtain ⟨h7, h⟩ := h
          refine j_iald 75 rfl dX8_growth_74 ly_57 h7 ?_
          refine j_imul 76 rfl dX8_growth_75 ?_
          obtain ⟨h8, h⟩ := h
          refine j_iald 77 rfl dX8_growth_76 ly_54 h8 ?_
          refine j_i2l 78 rfl dX8_growth_77 ?_
          refine j_lmul 79 rfl dX8_growth_78 ?_
          refine j_lstore [(0, .ref 49), (1, .int v1), (2, .int v2), (3, .long r2.toInt64), (5, .long (((100 : Int64) * (G1 59 v2.toNatClampNeg).toInt64) * (G1 54 ((8 : Int32) * (G1 57 v2.toNatClampNeg)).toNatClampNeg).toInt64))] 81 rfl dX8_growth_79 (by decide) rfl ?_
          refine j_lload 4 83 rfl dX8_growth_81 rfl ?_
          refine j_ldc2_w (10 : Int64) 86 rfl dX8_growth_83 lc_X8_103 ?_
          refine j_lload_n 3 87 rfl dX8_growth_86 rfl rfl ?_
          refine j_lmul 88 rfl dX8_growth_87 ?_
          refine j_ladd 89 rfl dX8_growth_88 ?_
          refine j_lconst (1 : Int64) 90 rfl dX8_growth_89 (by decide) ?_
          refine j_lsub 91 rfl dX8_growth_90 ?_
          refine j_ldc2_w (10 : Int64) 94 rfl dX8_growth_91 lc_X8_103 ?_
          refine j_lload_n 3 95 rfl dX8_growth_94 rfl rfl ?_
          refine j_lmul 96 rfl dX8_growth_95 ?_
          obtain ⟨h9, h⟩ := h
          refine j_ldiv 97 rfl dX8_growth_96 h9 ?_
          refine j_lstore [(0, .ref 49), (1, .int v1), (2, .int v2), (3, .long r2.toInt64), (5, .long (((100 : Int64) * (G1 59 v2.toNatClampNeg).toInt64) * (G1 54 ((8 : Int32) * (G1 57 v2.toNatClampNeg)).toNatClampNeg).toInt64)), (7, .long ((((((100 : Int64) * (G1 59 v2.toNatClampNeg).toInt64) * (G1 54 ((8 : Int32) * (G1 57 v2.toNatClampNeg)).toNatClampNeg).toInt64) + ((10 : Int64) * r2.toInt64)) - (1 : Int64)) / ((10 : Int64) * r2.toInt64)))] 99 rfl dX8_growth_97 (by decide) rfl ?_
          refine j_lload 5 101 rfl dX8_growth_99 rfl ?_
          refine j_lconst (1 : Int64) 102 rfl dX8_growth_101 (by decide) ?_
          refine j_lsub 103 rfl dX8_growth_102 ?_
          refine j_iload_n 1 104 rfl dX8_growth_103 rfl rfl ?_
          refine j_i2l 105 rfl dX8_growth_104 ?_
          obtain ⟨hbt, hbf⟩ := h
          refine j_lif_ge 106 109 115 rfl rfl (by decide) dX8_growth_105 dX8_growth_106 (fun hc => ?_) (fun hc => ?_)
          · have h := hbt hc
            refine j_iinc 2 (v2 + (1 : Int32)) [(0, .ref 49), (1, .int v1), (2, .int (v2 + (1 : Int32))), (3, .long r2.toInt64), (5, .long (((100 : Int64) * (G1 59 v2.toNatClampNeg).toInt64) * (G1 54 ((8 : Int32) * (G1 57 v2.toNatClampNeg)).toNatClampNeg).toInt64)), (7, .long ((((((100 : Int64) * (G1 59 v2.toNatClampNeg).toInt64) * (G1 54 ((8 : Int32) * (G1 57 v2.toNatClampNeg)).toNatClampNeg).toInt64) + ((10 : Int64) * r2.toInt64)) - (1 : Int64)) / ((10 : Int64) * r2.toInt64)))] 118 rfl dX8_growth_115 rfl rfl (by decide) rfl ?_
            refine j_goto 5 (by decide) dX8_growth_118 ?_
            refine j_sub [0, 1, 2] rfl ?_
            exact h
          · have h := hbf hc
            refine j_lload 5 111 rfl dX8_growth_109 rfl ?_
            refine j_lconst (1 : Int64) 112 rfl dX8_growth_111 (by decide) ?_
            refine j_lsub 113 rfl dX8_growth_112 ?_
            refine j_l2i 114 rfl dX8_growth_113 ?_
            refine j_istore_n [(0, .ref 49), (1, .int (((((((100 : Int64) * (G1 59 v2.toNatClampNeg).toInt64) * (G1 54 ((8 : Int32) * (G1 57 v2.toNatClampNeg)).toNatClampNeg).toInt64) + ((10 : Int64) * r2.toInt64)) - (1 : Int64)) / ((10 : Int64) * r2.toInt64)) - (1 : Int64)).toInt32), (2, .int v2), (3, .long r2.toInt64), (5, .long (((100 : Int64) * (G1 59 v2.toNatClampNeg).toInt64) * (G1 54 ((8 : Int32) * (G1 57 v2.toNatClampNeg)).toNatClampNeg).toInt64)), (7, .long ((((((100 : Int64) * (G1 59 v2.toNatClampNeg).toInt64) * (G1 54 ((8 : Int32) * (G1 57 v2.toNatClampNeg)).toNatClampNeg).toInt64) + ((10 : Int64) * r2.toInt64)) - (1 : Int64)) / ((10 : Int64) * r2.toInt64)))] 115 rfl dX8_growth_114 rfl (by decide) rfl ?_
            refine j_iinc 2 (v2 + (1 : Int32)) [(0, .ref 49), (1, .int (((((((100 : Int64) * (G1 59 v2.toNatClampNeg).toInt64) * (G1 54 ((8 : Int32) * (G1 57 v2.toNatClampNeg)).toNatClampNeg).toInt64) + ((10 : Int64) * r2.toInt64)) - (1 : Int64)) / ((10 : Int64) * r2.toInt64)) - (1 : Int64)).toInt32), (2, .int (v2 + (1 : Int32))), (3, .long r2.toInt64), (5, .long (((100 : Int64) * (G1 59 v2.toNatClampNeg).toInt64) * (G1 54 ((8 : Int32) * (G1 57 v2.toNatClampNeg)).toNatClampNeg).toInt64)), (7, .long ((((((100 : Int64) * (G1 59 v2.toNatClampNeg).toInt64) * (G1 54 ((8 : Int32) * (G1 57 v2.toNatClampNeg)).toNatClampNeg).toInt64) + ((10 : Int64) * r2.toInt64)) - (1 : Int64)) / ((10 : Int64) * r2.toInt64)))] 118 rfl dX8_growth_115 rfl rfl (by decide) rfl ?_
            refine j_goto 5 (by decide) dX8_growth_118 ?_
            refine j_sub [0, 1, 2] rfl ?_
            exact h
        · have h := hbf hc
          refine j_goto 115 (by decide) dX8_growth_49 ?_
          refine j_iinc 2 (v2 + (1 : Int32)) [(0, .ref 49), (1, .int v1), (2, .int (v2 + (1 : Int32))), (3, .long r2.toInt64)] 118 rfl dX8_growth_115 rfl rfl (by decide) rfl ?_
          refine j_goto 5 (by decide) dX8_growth_118 ?_
          refine j_sub [0, 1, 2] rfl ?_
          exact h
theorem vX8_goal (post : Option Value → GG → Prop)  (G : GG) (h : zJ kX8_goal post 9 [(0, .ref 49), (1, .int (0 : Int32)), (2, .int (0 : Int32))] [] (gU G 49 17 (1 : Int32))) : CT kX8_goal [.ref 49] G post := by
  refine CT.of (by decide) (Nat.le_of_ble_eq_true rfl) ?_
  show zJ kX8_goal post 0 [(0, .ref 49)] [] G
  refine j_aload_n 0 1 rfl dX8_goal_0 rfl rfl ?_
  refine j_iconst (1 : Int32) 2 rfl dX8_goal_1 (by decide) ?_
  refine j_put 5 rfl dX8_goal_2 lp_X8_179 ly_49 rfl rfl rfl ?_
  refine j_iconst (0 : Int32) 6 rfl dX8_goal_5 (by decide) ?_
  refine j_istore_n [(0, .ref 49), (1, .int (0 : Int32))] 7 rfl dX8_goal_6 rfl (by decide) rfl ?_
  refine j_iconst (0 : Int32) 8 rfl dX8_goal_7 (by decide) ?_
  refine j_istore_n [(0, .ref 49), (1, .int (0 : Int32)), (2, .int (0 : Int32))] 9 rfl dX8_goal_8 rfl (by decide) rfl ?_
  exact h
theorem vX8_goal_9 (post : Option Value → GG → Prop) (v1 : Int32) (v2 : Int32) (G : GG) (h : ((30 : Int32) ≤ v2 → (post (some (.int v1)) G)) ∧ (¬ (30 : Int32) ≤ v2 → ((v2 ≤ (0 : Int32) → (zJ kX8_goal post 50 [(0, .ref 49), (1, .int v1), (2, .int v2)] [.int v2, .ref 61] G)) ∧ (¬ v2 ≤ (0 : Int32) → (((G 49 0) ≤ v2 → (zJ kX8_goal post 50 [(0, .ref 49), (1, .int v1), (2, .int v2)] [.int v2, .ref 61] G)) ∧ (¬ (G 49 0) ≤ v2 → ((vp_in v2 30) ∧ (((G 56 v2.toNatClampNeg) = (0 : Int32) → (zJ kX8_goal post 50 [(0, .ref 49), (1, .int v1), (2, .int v2)] [.int v2, .ref 61] G)) ∧ (¬ (G 56 v2.toNatClampNeg) = (0 : Int32) → ((vp_in v2 30) ∧ (zJ kX8_goal post 51 [(0, .ref 49), (1, .int v1), (2, .int v2)] [.int (G 58 v2.toNatClampNeg), .int v2, .ref 61] G))))))))))) : zJ kX8_goal post 9 [(0, .ref 49), (1, .int v1), (2, .int v2)] [] G := by
  refine j_iload_n 2 10 rfl dX8_goal_9 rfl rfl ?_
  refine j_bipush (30 : Int32) 12 rfl dX8_goal_10 (by decide) ?_
  obtain ⟨hbt, hbf⟩ := h
  refine j_icmp_ge 15 75 rfl (by decide) dX8_goal_12 (fun hc => ?_) (fun hc => ?_)
  · have h := hbt hc
    refine j_iload_n 1 76 rfl dX8_goal_75 rfl rfl ?_
    exact j_iret dX8_goal_76 rfl rfl h
  · have h := hbf hc
    refine j_aload_n 0 16 rfl dX8_goal_15 rfl rfl ?_
    refine j_getR 19 rfl dX8_goal_16 lf_X8_61 ly_49 rfl ?_
    refine j_iload_n 2 20 rfl dX8_goal_19 rfl rfl ?_
    refine j_iload_n 2 21 rfl dX8_goal_20 rfl rfl ?_
    obtain ⟨hbt, hbf⟩ := h
    refine j_if_le 24 50 rfl (by decide) dX8_goal_21 (fun hc => ?_) (fun hc => ?_)
    · have h := hbt hc
      exact h
    · have h := hbf hc
      refine j_iload_n 2 25 rfl dX8_goal_24 rfl rfl ?_
      refine j_aload_n 0 26 rfl dX8_goal_25 rfl rfl ?_
      refine j_getI 29 rfl dX8_goal_26 lf_X8_7 ly_49 rfl ?_
      obtain ⟨hbt, hbf⟩ := h
      refine j_icmp_ge 32 50 rfl (by decide) dX8_goal_29 (fun hc => ?_) (fun hc => ?_)
      · have h := hbt hc
        exact h
      · have h := hbf hc
        refine j_aload_n 0 33 rfl dX8_goal_32 rfl rfl ?_
        refine j_getR 36 rfl dX8_goal_33 lf_X8_45 ly_49 rfl ?_
        refine j_iload_n 2 37 rfl dX8_goal_36 rfl rfl ?_
        obtain ⟨h1, h⟩ := h
        refine j_zald 38 rfl dX8_goal_37 ly_56 h1 ?_
        obtain ⟨hbt, hbf⟩ := h
        refine j_if_eq 41 50 rfl (by decide) dX8_goal_38 (fun hc => ?_) (fun hc => ?_)
        · have h := hbt hc
          exact h
        · have h := hbf hc
          refine j_aload_n 0 42 rfl dX8_goal_41 rfl rfl ?_
          refine j_getR 45 rfl dX8_goal_42 lf_X8_52 ly_49 rfl ?_
          refine j_iload_n 2 46 rfl dX8_goal_45 rfl rfl ?_
          obtain ⟨h2, h⟩ := h
          refine j_iald 47 rfl dX8_goal_46 ly_58 h2 ?_
          refine j_goto 51 (by decide) dX8_goal_47 ?_
          exact h
theorem vX8_goal_50 (post : Option Value → GG → Prop) (v1 : Int32) (v2 : Int32) (s0 : Int32) (G : GG) (h : zJ kX8_goal post 51 [(0, .ref 49), (1, .int v1), (2, .int v2)] [.int (-1 : Int32), .int s0, .ref 61] G) : zJ kX8_goal post 50 [(0, .ref 49), (1, .int v1), (2, .int v2)] [.int s0, .ref 61] G := by
  refine j_iconst (-1 : Int32) 51 rfl dX8_goal_50 (by decide) ?_
  exact h
theorem vX8_goal_51 (post : Option Value → GG → Prop) (v1 : Int32) (v2 : Int32) (s0 : Int32) (s1 : Int32) (G : GG) (h : (vp_in s1 30) ∧ ((vp_in v2 30) ∧ (((0 : Int32) ≤ ((gU G 61 s1.toNatClampNeg s0) 61 v2.toNatClampNeg) → (zJ kX8_goal post 9 [(0, .ref 49), (1, .int (v1 + (1 : Int32))), (2, .int (v2 + (1 : Int32)))] [] (gU G 61 s1.toNatClampNeg s0))) ∧ (¬ (0 : Int32) ≤ ((gU G 61 s1.toNatClampNeg s0) 61 v2.toNatClampNeg) → (zJ kX8_goal post 9 [(0, .ref 49), (1, .int (v1 + (0 : Int32))), (2, .int (v2 + (1 : Int32)))] [] (gU G 61 s1.toNatClampNeg s0)))))) : zJ kX8_goal post 51 [(0, .ref 49), (1, .int v1), (2, .int v2)] [.int s0, .int s1, .ref 61] G := by
  obtain ⟨h1, h⟩ := h
  refine j_iast 52 rfl dX8_goal_51 ly_61 h1 ?_
  refine j_iload_n 1 53 rfl dX8_goal_52 rfl rfl ?_
  refine j_aload_n 0 54 rfl dX8_goal_53 rfl rfl ?_
  refine j_getR 57 rfl dX8_goal_54 lf_X8_61 ly_49 rfl ?_
  refine j_iload_n 2 58 rfl dX8_goal_57 rfl rfl ?_
  obtain ⟨h2, h⟩ := h
  refine j_iald 59 rfl dX8_goal_58 ly_61 h2 ?_
  obtain ⟨hbt, hbf⟩ := h
  refine j_if_ge 62 66 rfl (by decide) dX8_goal_59 (fun hc => ?_) (fun hc => ?_)
  · have h := hbt hc
    refine j_iconst (1 : Int32) 67 rfl dX8_goal_66 (by decide) ?_
    refine j_iadd 68 rfl dX8_goal_67 ?_
    refine j_istore_n [(0, .ref 49), (1, .int (v1 + (1 : Int32))), (2, .int v2)] 69 rfl dX8_goal_68 rfl (by decide) rfl ?_
    refine j_iinc 2 (v2 + (1 : Int32)) [(0, .ref 49), (1, .int (v1 + (1 : Int32))), (2, .int (v2 + (1 : Int32)))] 72 rfl dX8_goal_69 rfl rfl (by decide) rfl ?_
    refine j_goto 9 (by decide) dX8_goal_72 ?_
    exact h
  · have h := hbf hc
    refine j_iconst (0 : Int32) 63 rfl dX8_goal_62 (by decide) ?_
    refine j_goto 67 (by decide) dX8_goal_63 ?_
    refine j_iadd 68 rfl dX8_goal_67 ?_
    refine j_istore_n [(0, .ref 49), (1, .int (v1 + (0 : Int32))), (2, .int v2)] 69 rfl dX8_goal_68 rfl (by decide) rfl ?_
    refine j_iinc 2 (v2 + (1 : Int32)) [(0, .ref 49), (1, .int (v1 + (0 : Int32))), (2, .int (v2 + (1 : Int32)))] 72 rfl dX8_goal_69 rfl rfl (by decide) rfl ?_
    refine j_goto 9 (by decide) dX8_goal_72 ?_
    exact h
theorem vX8_take (post : Option Value → GG → Prop) (v1 : Int32) (G : GG) (h : zJ kX8_take post 2 [(0, .ref 49), (1, .int v1), (2, .int (0 : Int32))] [] G) : CT kX8_take [.ref 49, .int v1] G post := by
  refine CT.of (by decide) (Nat.le_of_ble_eq_true rfl) ?_
  show zJ kX8_take post 0 [(0, .ref 49), (1, .int v1)] [] G
  refine j_iconst (0 : Int32) 1 rfl dX8_take_0 (by decide) ?_
  refine j_istore_n [(0, .ref 49), (1, .int v1), (2, .int (0 : Int32))] 2 rfl dX8_take_1 rfl (by decide) rfl ?_
  exact h
theorem vX8_take_2 (post : Option Value → GG → Prop) (v1 : Int32) (v2 : Int32) (G : GG) (h : ((G 49 30) ≤ v2 → (post none G)) ∧ (¬ (G 49 30) ≤ v2 → ((vp_in v2 30) ∧ ((¬ ((v1 >>> (v2 &&& (31 : Int32))) &&& (1 : Int32)) = (1 : Int32) → ((vp_in v2 30) ∧ ((vp_in (G 66 v2.toNatClampNeg) 30) ∧ ((vp_in (G 66 v2.toNatClampNeg) 30) ∧ (zJ kX8_take post 2 [(0, .ref 49), (1, .int v1), (2, .int (v2 + (1 : Int32)))] [] (gU G 58 (G 66 v2.toNatClampNeg).toNatClampNeg (G 65 (G 66 v2.toNatClampNeg).toNatClampNeg))))))) ∧ (((v1 >>> (v2 &&& (31 : Int32))) &&& (1 : Int32)) = (1 : Int32) → ((vp_in v2 30) ∧ ((vp_in (G 66 v2.toNatClampNeg) 30) ∧ ((vp_in (G 66 v2.toNatClampNeg) 30) ∧ (zJ kX8_take post 2 [(0, .ref 49), (1, .int v1), (2, .int (v2 + (1 : Int32)))] [] (gU G 58 (G 66 v2.toNatClampNeg).toNatClampNeg (G 61 (G 66 v2.toNatClampNeg).toNatClampNeg))))))))))) : zJ kX8_take post 2 [(0, .ref 49), (1, .int v1), (2, .int v2)] [] G := by
  refine j_iload_n 2 3 rfl dX8_take_2 rfl rfl ?_
  refine j_aload_n 0 4 rfl dX8_take_3 rfl rfl ?_
  refine j_getI 7 rfl dX8_take_4 lf_X8_182 ly_49 rfl ?_
  obtain ⟨hbt, hbf⟩ := h
  refine j_icmp_ge 10 61 rfl (by decide) dX8_take_7 (fun hc => ?_) (fun hc => ?_)
  · have h := hbt hc
    exact j_vret dX8_take_61 rfl h
  · have h := hbf hc
    refine j_aload_n 0 11 rfl dX8_take_10 rfl rfl ?_
    refine j_getR 14 rfl dX8_take_11 lf_X8_52 ly_49 rfl ?_
    refine j_aload_n 0 15 rfl dX8_take_14 rfl rfl ?_
    refine j_getR 18 rfl dX8_take_15 lf_X8_76 ly_49 rfl ?_
    refine j_iload_n 2 19 rfl dX8_take_18 rfl rfl ?_
    obtain ⟨h1, h⟩ := h
    refine j_iald 20 rfl dX8_take_19 ly_66 h1 ?_
    refine j_iload_n 1 21 rfl dX8_take_20 rfl rfl ?_
    refine j_iload_n 2 22 rfl dX8_take_21 rfl rfl ?_
    refine j_ishr 23 rfl dX8_take_22 ?_
    refine j_iconst (1 : Int32) 24 rfl dX8_take_23 (by decide) ?_
    refine j_iand 25 rfl dX8_take_24 ?_
    refine j_iconst (1 : Int32) 26 rfl dX8_take_25 (by decide) ?_
    obtain ⟨hbt, hbf⟩ := h
    refine j_icmp_ne 29 43 rfl (by decide) dX8_take_26 (fun hc => ?_) (fun hc => ?_)
    · have h := hbt hc
      refine j_aload_n 0 44 rfl dX8_take_43 rfl rfl ?_
      refine j_getR 47 rfl dX8_take_44 lf_X8_73 ly_49 rfl ?_
      refine j_aload_n 0 48 rfl dX8_take_47 rfl rfl ?_
      refine j_getR 51 rfl dX8_take_48 lf_X8_76 ly_49 rfl ?_
      refine j_iload_n 2 52 rfl dX8_take_51 rfl rfl ?_
      obtain ⟨h2, h⟩ := h
      refine j_iald 53 rfl dX8_take_52 ly_66 h2 ?_
      obtain ⟨h3, h⟩ := h
      refine j_iald 54 rfl dX8_take_53 ly_65 h3 ?_
      obtain ⟨h4, h⟩ := h
      refine j_iast 55 rfl dX8_take_54 ly_58 h4 ?_
      refine j_iinc 2 (v2 + (1 : Int32)) [(0, .ref 49), (1, .int v1), (2, .int (v2 + (1 : Int32)))] 58 rfl dX8_take_55 rfl rfl (by decide) rfl ?_
      refine j_goto 2 (by decide) dX8_take_58 ?_
      exact h
    · have h := hbf hc
      refine j_aload_n 0 30 rfl dX8_take_29 rfl rfl ?_
      refine j_getR 33 rfl dX8_take_30 lf_X8_61 ly_49 rfl ?_
      refine j_aload_n 0 34 rfl dX8_take_33 rfl rfl ?_
      refine j_getR 37 rfl dX8_take_34 lf_X8_76 ly_49 rfl ?_
      refine j_iload_n 2 38 rfl dX8_take_37 rfl rfl ?_
      obtain ⟨h5, h⟩ := h
      refine j_iald 39 rfl dX8_take_38 ly_66 h5 ?_
      obtain ⟨h6, h⟩ := h
      refine j_iald 40 rfl dX8_take_39 ly_61 h6 ?_
      refine j_goto 54 (by decide) dX8_take_40 ?_
      obtain ⟨h7, h⟩ := h
      refine j_iast 55 rfl dX8_take_54 ly_58 h7 ?_
      refine j_iinc 2 (v2 + (1 : Int32)) [(0, .ref 49), (1, .int v1), (2, .int (v2 + (1 : Int32)))] 58 rfl dX8_take_55 rfl rfl (by decide) rfl ?_
      refine j_goto 2 (by decide) dX8_take_58 ?_
      exact h
theorem vX8_change (post : Option Value → GG → Prop)  (G : GG) (h : (¬ (G 49 17) = (0 : Int32) → (zJ kX8_change post 16 [(0, .ref 49), (1, .int (1 : Int32))] [] (gU G 49 30 (0 : Int32)))) ∧ ((G 49 17) = (0 : Int32) → (post (some (.int (-1 : Int32))) G))) : CT kX8_change [.ref 49] G post := by
  refine CT.of (by decide) (Nat.le_of_ble_eq_true rfl) ?_
  show zJ kX8_change post 0 [(0, .ref 49)] [] G
  refine j_aload_n 0 1 rfl dX8_change_0 rfl rfl ?_
  refine j_getI 4 rfl dX8_change_1 lf_X8_179 ly_49 rfl ?_
  obtain ⟨hbt, hbf⟩ := h
  refine j_if_ne 7 9 rfl (by decide) dX8_change_4 (fun hc => ?_) (fun hc => ?_)
  · have h := hbt hc
    refine j_aload_n 0 10 rfl dX8_change_9 rfl rfl ?_
    refine j_iconst (0 : Int32) 11 rfl dX8_change_10 (by decide) ?_
    refine j_put 14 rfl dX8_change_11 lp_X8_182 ly_49 rfl rfl rfl ?_
    refine j_iconst (1 : Int32) 15 rfl dX8_change_14 (by decide) ?_
    refine j_istore_n [(0, .ref 49), (1, .int (1 : Int32))] 16 rfl dX8_change_15 rfl (by decide) rfl ?_
    exact h
  · have h := hbf hc
    refine j_iconst (-1 : Int32) 8 rfl dX8_change_7 (by decide) ?_
    exact j_iret dX8_change_8 rfl rfl h
theorem vX8_change_16 (post : Option Value → GG → Prop) (v1 : Int32) (G : GG) (h : ((G 49 0) ≤ v1 → (((G 49 30) ≤ (10 : Int32) → (zJ kX8_change post 99 [(0, .ref 49), (1, .int (0 : Int32))] [] G)) ∧ (¬ (G 49 30) ≤ (10 : Int32) → (post (some (.int (-1 : Int32))) G)))) ∧ (¬ (G 49 0) ≤ v1 → ((vp_in v1 30) ∧ (((G 56 v1.toNatClampNeg) = (0 : Int32) → (zJ kX8_change post 16 [(0, .ref 49), (1, .int (v1 + (1 : Int32)))] [] G)) ∧ (¬ (G 56 v1.toNatClampNeg) = (0 : Int32) → ((vp_in v1 30) ∧ (((G 61 v1.toNatClampNeg) < (0 : Int32) → (zJ kX8_change post 16 [(0, .ref 49), (1, .int (v1 + (1 : Int32)))] [] G)) ∧ (¬ (G 61 v1.toNatClampNeg) < (0 : Int32) → ((vp_in v1 30) ∧ ((vp_in v1 30) ∧ ((¬ (G 61 v1.toNatClampNeg) = (G 58 v1.toNatClampNeg) → ((vp_in (G 49 30) 30) ∧ (zJ kX8_change post 16 [(0, .ref 49), (1, .int (v1 + (1 : Int32)))] [] (gU (gU G 66 (G 49 30).toNatClampNeg v1) 49 30 (((gU G 66 (G 49 30).toNatClampNeg v1) 49 30) + (1 : Int32)))))) ∧ ((G 61 v1.toNatClampNeg) = (G 58 v1.toNatClampNeg) → (zJ kX8_change post 16 [(0, .ref 49), (1, .int (v1 + (1 : Int32)))] [] G))))))))))))) : zJ kX8_change post 16 [(0, .ref 49), (1, .int v1)] [] G := by
  refine j_iload_n 1 17 rfl dX8_change_16 rfl rfl ?_
  refine j_aload_n 0 18 rfl dX8_change_17 rfl rfl ?_
  refine j_getI 21 rfl dX8_change_18 lf_X8_7 ly_49 rfl ?_
  obtain ⟨hbt, hbf⟩ := h
  refine j_icmp_ge 24 86 rfl (by decide) dX8_change_21 (fun hc => ?_) (fun hc => ?_)
  · have h := hbt hc
    refine j_aload_n 0 87 rfl dX8_change_86 rfl rfl ?_
    refine j_getI 90 rfl dX8_change_87 lf_X8_182 ly_49 rfl ?_
    refine j_bipush (10 : Int32) 92 rfl dX8_change_90 (by decide) ?_
    obtain ⟨hbt, hbf⟩ := h
    refine j_icmp_le 95 97 rfl (by decide) dX8_change_92 (fun hc => ?_) (fun hc => ?_)
    · have h := hbt hc
      refine j_iconst (0 : Int32) 98 rfl dX8_change_97 (by decide) ?_
      refine j_istore_n [(0, .ref 49), (1, .int (0 : Int32))] 99 rfl dX8_change_98 rfl (by decide) rfl ?_
      exact h
    · have h := hbf hc
      refine j_iconst (-1 : Int32) 96 rfl dX8_change_95 (by decide) ?_
      exact j_iret dX8_change_96 rfl rfl h
  · have h := hbf hc
    refine j_aload_n 0 25 rfl dX8_change_24 rfl rfl ?_
    refine j_getR 28 rfl dX8_change_25 lf_X8_45 ly_49 rfl ?_
    refine j_iload_n 1 29 rfl dX8_change_28 rfl rfl ?_
    obtain ⟨h1, h⟩ := h
    refine j_zald 30 rfl dX8_change_29 ly_56 h1 ?_
    obtain ⟨hbt, hbf⟩ := h
    refine j_if_eq 33 80 rfl (by decide) dX8_change_30 (fun hc => ?_) (fun hc => ?_)
    · have h := hbt hc
      refine j_iinc 1 (v1 + (1 : Int32)) [(0, .ref 49), (1, .int (v1 + (1 : Int32)))] 83 rfl dX8_change_80 rfl rfl (by decide) rfl ?_
      refine j_goto 16 (by decide) dX8_change_83 ?_
      exact h
    · have h := hbf hc
      refine j_aload_n 0 34 rfl dX8_change_33 rfl rfl ?_
      refine j_getR 37 rfl dX8_change_34 lf_X8_61 ly_49 rfl ?_
      refine j_iload_n 1 38 rfl dX8_change_37 rfl rfl ?_
      obtain ⟨h2, h⟩ := h
      refine j_iald 39 rfl dX8_change_38 ly_61 h2 ?_
      obtain ⟨hbt, hbf⟩ := h
      refine j_if_lt 42 80 rfl (by decide) dX8_change_39 (fun hc => ?_) (fun hc => ?_)
      · have h := hbt hc
        refine j_iinc 1 (v1 + (1 : Int32)) [(0, .ref 49), (1, .int (v1 + (1 : Int32)))] 83 rfl dX8_change_80 rfl rfl (by decide) rfl ?_
        refine j_goto 16 (by decide) dX8_change_83 ?_
        exact h
      · have h := hbf hc
        refine j_aload_n 0 43 rfl dX8_change_42 rfl rfl ?_
        refine j_getR 46 rfl dX8_change_43 lf_X8_61 ly_49 rfl ?_
        refine j_iload_n 1 47 rfl dX8_change_46 rfl rfl ?_
        obtain ⟨h3, h⟩ := h
        refine j_iald 48 rfl dX8_change_47 ly_61 h3 ?_
        refine j_aload_n 0 49 rfl dX8_change_48 rfl rfl ?_
        refine j_getR 52 rfl dX8_change_49 lf_X8_52 ly_49 rfl ?_
        refine j_iload_n 1 53 rfl dX8_change_52 rfl rfl ?_
        obtain ⟨h4, h⟩ := h
        refine j_iald 54 rfl dX8_change_53 ly_58 h4 ?_
        obtain ⟨hbt, hbf⟩ := h
        refine j_icmp_ne 57 60 rfl (by decide) dX8_change_54 (fun hc => ?_) (fun hc => ?_)
        · have h := hbt hc
          refine j_aload_n 0 61 rfl dX8_change_60 rfl rfl ?_
          refine j_getR 64 rfl dX8_change_61 lf_X8_76 ly_49 rfl ?_
          refine j_aload_n 0 65 rfl dX8_change_64 rfl rfl ?_
          refine j_getI 68 rfl dX8_change_65 lf_X8_182 ly_49 rfl ?_
          refine j_iload_n 1 69 rfl dX8_change_68 rfl rfl ?_
          obtain ⟨h5, h⟩ := h
          refine j_iast 70 rfl dX8_change_69 ly_66 h5 ?_
          refine j_aload_n 0 71 rfl dX8_change_70 rfl rfl ?_
          refine j_dup 72 rfl dX8_change_71 rfl ?_
          refine j_getI 75 rfl dX8_change_72 lf_X8_182 ly_49 rfl ?_
          refine j_iconst (1 : Int32) 76 rfl dX8_change_75 (by decide) ?_
          refine j_iadd 77 rfl dX8_change_76 ?_
          refine j_put 80 rfl dX8_change_77 lp_X8_182 ly_49 rfl rfl rfl ?_
          refine j_iinc 1 (v1 + (1 : Int32)) [(0, .ref 49), (1, .int (v1 + (1 : Int32)))] 83 rfl dX8_change_80 rfl rfl (by decide) rfl ?_
          refine j_goto 16 (by decide) dX8_change_83 ?_
          exact h
        · have h := hbf hc
          refine j_goto 80 (by decide) dX8_change_57 ?_
          refine j_iinc 1 (v1 + (1 : Int32)) [(0, .ref 49), (1, .int (v1 + (1 : Int32)))] 83 rfl dX8_change_80 rfl rfl (by decide) rfl ?_
          refine j_goto 16 (by decide) dX8_change_83 ?_
          exact h
theorem vX8_change_99 (post : Option Value → GG → Prop) (v1 : Int32) (G : GG) (h : ((G 49 30) ≤ v1 → (zJ kX8_change post 146 [(0, .ref 49), (1, .int (((1 : Int32) <<< ((G 49 30) &&& (31 : Int32))) - (1 : Int32))), (2, .int (((1 : Int32) <<< ((G 49 30) &&& (31 : Int32))) - (1 : Int32)))] [] G)) ∧ (¬ (G 49 30) ≤ v1 → ((vp_in v1 30) ∧ ((vp_in v1 30) ∧ ((vp_in (G 66 v1.toNatClampNeg) 30) ∧ ((vp_in (G 66 v1.toNatClampNeg) 30) ∧ (zJ kX8_change post 99 [(0, .ref 49), (1, .int (v1 + (1 : Int32)))] [] (gU G 65 (G 66 v1.toNatClampNeg).toNatClampNeg (G 58 (G 66 v1.toNatClampNeg).toNatClampNeg))))))))) : zJ kX8_change post 99 [(0, .ref 49), (1, .int v1)] [] G := by
  refine j_iload_n 1 100 rfl dX8_change_99 rfl rfl ?_
  refine j_aload_n 0 101 rfl dX8_change_100 rfl rfl ?_
  refine j_getI 104 rfl dX8_change_101 lf_X8_182 ly_49 rfl ?_
  obtain ⟨hbt, hbf⟩ := h
  refine j_icmp_ge 107 135 rfl (by decide) dX8_change_104 (fun hc => ?_) (fun hc => ?_)
  · have h := hbt hc
    refine j_iconst (1 : Int32) 136 rfl dX8_change_135 (by decide) ?_
    refine j_aload_n 0 137 rfl dX8_change_136 rfl rfl ?_
    refine j_getI 140 rfl dX8_change_137 lf_X8_182 ly_49 rfl ?_
    refine j_ishl 141 rfl dX8_change_140 ?_
    refine j_iconst (1 : Int32) 142 rfl dX8_change_141 (by decide) ?_
    refine j_isub 143 rfl dX8_change_142 ?_
    refine j_istore_n [(0, .ref 49), (1, .int (((1 : Int32) <<< ((G 49 30) &&& (31 : Int32))) - (1 : Int32)))] 144 rfl dX8_change_143 rfl (by decide) rfl ?_
    refine j_iload_n 1 145 rfl dX8_change_144 rfl rfl ?_
    refine j_istore_n [(0, .ref 49), (1, .int (((1 : Int32) <<< ((G 49 30) &&& (31 : Int32))) - (1 : Int32))), (2, .int (((1 : Int32) <<< ((G 49 30) &&& (31 : Int32))) - (1 : Int32)))] 146 rfl dX8_change_145 rfl (by decide) rfl ?_
    exact h
  · have h := hbf hc
    refine j_aload_n 0 108 rfl dX8_change_107 rfl rfl ?_
    refine j_getR 111 rfl dX8_change_108 lf_X8_73 ly_49 rfl ?_
    refine j_aload_n 0 112 rfl dX8_change_111 rfl rfl ?_
    refine j_getR 115 rfl dX8_change_112 lf_X8_76 ly_49 rfl ?_
    refine j_iload_n 1 116 rfl dX8_change_115 rfl rfl ?_
    obtain ⟨h1, h⟩ := h
    refine j_iald 117 rfl dX8_change_116 ly_66 h1 ?_
    refine j_aload_n 0 118 rfl dX8_change_117 rfl rfl ?_
    refine j_getR 121 rfl dX8_change_118 lf_X8_52 ly_49 rfl ?_
    refine j_aload_n 0 122 rfl dX8_change_121 rfl rfl ?_
    refine j_getR 125 rfl dX8_change_122 lf_X8_76 ly_49 rfl ?_
    refine j_iload_n 1 126 rfl dX8_change_125 rfl rfl ?_
    obtain ⟨h2, h⟩ := h
    refine j_iald 127 rfl dX8_change_126 ly_66 h2 ?_
    obtain ⟨h3, h⟩ := h
    refine j_iald 128 rfl dX8_change_127 ly_58 h3 ?_
    obtain ⟨h4, h⟩ := h
    refine j_iast 129 rfl dX8_change_128 ly_65 h4 ?_
    refine j_iinc 1 (v1 + (1 : Int32)) [(0, .ref 49), (1, .int (v1 + (1 : Int32)))] 132 rfl dX8_change_129 rfl rfl (by decide) rfl ?_
    refine j_goto 99 (by decide) dX8_change_132 ?_
    exact h
theorem vX8_change_146 (post : Option Value → GG → Prop) (v1 : Int32) (v2 : Int32) (G : GG) (h : (v2 < (0 : Int32) → (CTv kX8_take [.ref 49, .int (0 : Int32)] G (fun G1 => (vp_in (0 : Int32) 1024) ∧ (((G1 67 (0 : Int32).toNatClampNeg) = (1 : Int32) → (zJ kX8_change post 271 [(0, .ref 49), (1, .int v1), (2, .int (0 : Int32))] [] (gU G1 49 23 (0 : Int32)))) ∧ (¬ (G1 67 (0 : Int32).toNatClampNeg) = (1 : Int32) → (post (some (.int (-1 : Int32))) G1)))))) ∧ (¬ v2 < (0 : Int32) → ((¬ v2 = v1 → (zJ kX8_change post 164 [(0, .ref 49), (1, .int v1), (2, .int v2), (3, .int (0 : Int32)), (4, .int (0 : Int32))] [] G)) ∧ (v2 = v1 → (zJ kX8_change post 164 [(0, .ref 49), (1, .int v1), (2, .int v2), (3, .int (1 : Int32)), (4, .int (0 : Int32))] [] G))))) : zJ kX8_change post 146 [(0, .ref 49), (1, .int v1), (2, .int v2)] [] G := by
  refine j_iload_n 2 147 rfl dX8_change_146 rfl rfl ?_
  obtain ⟨hbt, hbf⟩ := h
  refine j_if_lt 150 247 rfl (by decide) dX8_change_147 (fun hc => ?_) (fun hc => ?_)
  · have h := hbt hc
    refine j_aload_n 0 248 rfl dX8_change_247 rfl rfl ?_
    refine j_iconst (0 : Int32) 249 rfl dX8_change_248 (by decide) ?_
    refine j_callV (K' := kX8_take) (As := [.int (0 : Int32)]) (S := []) dX8_change_249 ll_X8_185 ok_X8_take ⟨by decide, by decide⟩ ly_49 rfl rfl (Nat.le_of_ble_eq_true rfl) rfl (CT.mono h (fun r G1 hr => ?_))
    obtain ⟨rfl, h⟩ := hr
    show zJ kX8_change post 252 [(0, .ref 49), (1, .int v1), (2, .int v2)] [] G1
    refine j_aload_n 0 253 rfl dX8_change_252 rfl rfl ?_
    refine j_getR 256 rfl dX8_change_253 lf_X8_79 ly_49 rfl ?_
    refine j_iconst (0 : Int32) 257 rfl dX8_change_256 (by decide) ?_
    obtain ⟨h2, h⟩ := h
    refine j_bald 258 rfl dX8_change_257 ly_67 h2 ?_
    refine j_iconst (1 : Int32) 259 rfl dX8_change_258 (by decide) ?_
    obtain ⟨hbt, hbf⟩ := h
    refine j_icmp_eq 262 264 rfl (by decide) dX8_change_259 (fun hc => ?_) (fun hc => ?_)
    · have h := hbt hc
      refine j_aload_n 0 265 rfl dX8_change_264 rfl rfl ?_
      refine j_iconst (0 : Int32) 266 rfl dX8_change_265 (by decide) ?_
      refine j_put 269 rfl dX8_change_266 lp_X8_189 ly_49 rfl rfl rfl ?_
      refine j_iconst (0 : Int32) 270 rfl dX8_change_269 (by decide) ?_
      refine j_istore_n [(0, .ref 49), (1, .int v1), (2, .int (0 : Int32))] 271 rfl dX8_change_270 rfl (by decide) rfl ?_
      exact h
    · have h := hbf hc
      refine j_iconst (-1 : Int32) 263 rfl dX8_change_262 (by decide) ?_
      exact j_iret dX8_change_263 rfl rfl h
  · have h := hbf hc
    refine j_iload_n 2 151 rfl dX8_change_150 rfl rfl ?_
    refine j_iload_n 1 152 rfl dX8_change_151 rfl rfl ?_
    obtain ⟨hbt, hbf⟩ := h
    refine j_icmp_ne 155 159 rfl (by decide) dX8_change_152 (fun hc => ?_) (fun hc => ?_)
    · have h := hbt hc
      refine j_iconst (0 : Int32) 160 rfl dX8_change_159 (by decide) ?_
      refine j_istore_n [(0, .ref 49), (1, .int v1), (2, .int v2), (3, .int (0 : Int32))] 161 rfl dX8_change_160 rfl (by decide) rfl ?_
      refine j_iconst (0 : Int32) 162 rfl dX8_change_161 (by decide) ?_
      refine j_istore [(0, .ref 49), (1, .int v1), (2, .int v2), (3, .int (0 : Int32)), (4, .int (0 : Int32))] 164 rfl dX8_change_162 (by decide) rfl ?_
      exact h
    · have h := hbf hc
      refine j_iconst (1 : Int32) 156 rfl dX8_change_155 (by decide) ?_
      refine j_goto 160 (by decide) dX8_change_156 ?_
      refine j_istore_n [(0, .ref 49), (1, .int v1), (2, .int v2), (3, .int (1 : Int32))] 161 rfl dX8_change_160 rfl (by decide) rfl ?_
      refine j_iconst (0 : Int32) 162 rfl dX8_change_161 (by decide) ?_
      refine j_istore [(0, .ref 49), (1, .int v1), (2, .int v2), (3, .int (1 : Int32)), (4, .int (0 : Int32))] 164 rfl dX8_change_162 (by decide) rfl ?_
      exact h
theorem vX8_change_164 (post : Option Value → GG → Prop) (v1 : Int32) (v2 : Int32) (v3 : Int32) (v4 : Int32) (G : GG) (h : ((G 49 30) ≤ v4 → (CTv kX8_take [.ref 49, .int v2] G (fun G1 => (v3 = (0 : Int32) → ((vp_in v2 1024) ∧ (vp_nar .byte ((2 : Int32).toInt8.toInt32) = (2 : Int32).toInt8.toInt32) ∧ (zJ kX8_change post 146 [(0, .ref 49), (1, .int v1), (2, .int (v2 + (-1 : Int32)))] [] (gU G1 67 v2.toNatClampNeg ((2 : Int32).toInt8.toInt32))))) ∧ (¬ v3 = (0 : Int32) → (CTi kX8_isRight [.ref 49] G1 (fun r5 G4 => (r5 = (0 : Int32) → ((vp_in v2 1024) ∧ (vp_nar .byte ((2 : Int32).toInt8.toInt32) = (2 : Int32).toInt8.toInt32) ∧ (zJ kX8_change post 146 [(0, .ref 49), (1, .int v1), (2, .int (v2 + (-1 : Int32)))] [] (gU G4 67 v2.toNatClampNeg ((2 : Int32).toInt8.toInt32))))) ∧ (¬ r5 = (0 : Int32) → ((vp_in v2 1024) ∧ (vp_nar .byte ((1 : Int32).toInt8.toInt32) = (1 : Int32).toInt8.toInt32) ∧ (zJ kX8_change post 146 [(0, .ref 49), (1, .int v1), (2, .int (v2 + (-1 : Int32)))] [] (gU G4 67 v2.toNatClampNeg ((1 : Int32).toInt8.toInt32))))))))))) ∧ (¬ (G 49 30) ≤ v4 → ((¬ v3 = (0 : Int32) → (zJ kX8_change post 164 [(0, .ref 49), (1, .int v1), (2, .int v2), (3, .int (1 : Int32)), (4, .int (v4 + (1 : Int32)))] [] G)) ∧ (v3 = (0 : Int32) → ((¬ ((v2 >>> (v4 &&& (31 : Int32))) &&& (1 : Int32)) = (0 : Int32) → (zJ kX8_change post 164 [(0, .ref 49), (1, .int v1), (2, .int v2), (3, .int (0 : Int32)), (4, .int (v4 + (1 : Int32)))] [] G)) ∧ (((v2 >>> (v4 &&& (31 : Int32))) &&& (1 : Int32)) = (0 : Int32) → ((vp_in (v2 ||| ((1 : Int32) <<< (v4 &&& (31 : Int32)))) 1024) ∧ ((¬ (G 67 (v2 ||| ((1 : Int32) <<< (v4 &&& (31 : Int32)))).toNatClampNeg) = (1 : Int32) → (zJ kX8_change post 164 [(0, .ref 49), (1, .int v1), (2, .int v2), (3, .int (0 : Int32)), (4, .int (v4 + (1 : Int32)))] [] G)) ∧ ((G 67 (v2 ||| ((1 : Int32) <<< (v4 &&& (31 : Int32)))).toNatClampNeg) = (1 : Int32) → (zJ kX8_change post 164 [(0, .ref 49), (1, .int v1), (2, .int v2), (3, .int (1 : Int32)), (4, .int (v4 + (1 : Int32)))] [] G)))))))))) : zJ kX8_change post 164 [(0, .ref 49), (1, .int v1), (2, .int v2), (3, .int v3), (4, .int v4)] [] G := by
  refine j_iload 4 166 rfl dX8_change_164 rfl ?_
  refine j_aload_n 0 167 rfl dX8_change_166 rfl rfl ?_
  refine j_getI 170 rfl dX8_change_167 lf_X8_182 ly_49 rfl ?_
  obtain ⟨hbt, hbf⟩ := h
  refine j_icmp_ge 173 213 rfl (by decide) dX8_change_170 (fun hc => ?_) (fun hc => ?_)
  · have h := hbt hc
    refine j_aload_n 0 214 rfl dX8_change_213 rfl rfl ?_
    refine j_iload_n 2 215 rfl dX8_change_214 rfl rfl ?_
    refine j_callV (K' := kX8_take) (As := [.int v2]) (S := []) dX8_change_215 ll_X8_185 ok_X8_take ⟨by decide, by decide⟩ ly_49 rfl rfl (Nat.le_of_ble_eq_true rfl) rfl (CT.mono h (fun r G1 hr => ?_))
    obtain ⟨rfl, h⟩ := hr
    show zJ kX8_change post 218 [(0, .ref 49), (1, .int v1), (2, .int v2), (3, .int v3), (4, .int v4)] [] G1
    refine j_aload_n 0 219 rfl dX8_change_218 rfl rfl ?_
    refine j_getR 222 rfl dX8_change_219 lf_X8_79 ly_49 rfl ?_
    refine j_iload_n 2 223 rfl dX8_change_222 rfl rfl ?_
    refine j_iload_n 3 224 rfl dX8_change_223 rfl rfl ?_
    obtain ⟨hbt, hbf⟩ := h
    refine j_if_eq 227 238 rfl (by decide) dX8_change_224 (fun hc => ?_) (fun hc => ?_)
    · have h := hbt hc
      refine j_iconst (2 : Int32) 239 rfl dX8_change_238 (by decide) ?_
      refine j_i2b 240 rfl dX8_change_239 ?_
      obtain ⟨h2, h⟩ := h
      obtain ⟨h3, h⟩ := h
      refine j_bast 241 rfl dX8_change_240 ly_67 h2 h3 ?_
      refine j_iinc 2 (v2 + (-1 : Int32)) [(0, .ref 49), (1, .int v1), (2, .int (v2 + (-1 : Int32))), (3, .int v3), (4, .int v4)] 244 rfl dX8_change_241 rfl rfl (by decide) rfl ?_
      refine j_goto 146 (by decide) dX8_change_244 ?_
      refine j_sub [0, 1, 2] rfl ?_
      exact h
    · have h := hbf hc
      refine j_aload_n 0 228 rfl dX8_change_227 rfl rfl ?_
      refine j_callV (K' := kX8_isRight) (As := []) (S := [.int v2, .ref 67]) dX8_change_228 ll_X8_169 ok_X8_isRight ⟨by decide, by decide⟩ ly_49 rfl rfl (Nat.le_of_ble_eq_true rfl) rfl (CT.mono h (fun r G4 hr => ?_))
      obtain ⟨r5, rfl, h⟩ := hr
      show zJ kX8_change post 231 [(0, .ref 49), (1, .int v1), (2, .int v2), (3, .int v3), (4, .int v4)] [.int r5, .int v2, .ref 67] G4
      obtain ⟨hbt, hbf⟩ := h
      refine j_if_eq 234 238 rfl (by decide) dX8_change_231 (fun hc => ?_) (fun hc => ?_)
      · have h := hbt hc
        refine j_iconst (2 : Int32) 239 rfl dX8_change_238 (by decide) ?_
        refine j_i2b 240 rfl dX8_change_239 ?_
        obtain ⟨h6, h⟩ := h
        obtain ⟨h7, h⟩ := h
        refine j_bast 241 rfl dX8_change_240 ly_67 h6 h7 ?_
        refine j_iinc 2 (v2 + (-1 : Int32)) [(0, .ref 49), (1, .int v1), (2, .int (v2 + (-1 : Int32))), (3, .int v3), (4, .int v4)] 244 rfl dX8_change_241 rfl rfl (by decide) rfl ?_
        refine j_goto 146 (by decide) dX8_change_244 ?_
        refine j_sub [0, 1, 2] rfl ?_
        exact h
      · have h := hbf hc
        refine j_iconst (1 : Int32) 235 rfl dX8_change_234 (by decide) ?_
        refine j_goto 239 (by decide) dX8_change_235 ?_
        refine j_i2b 240 rfl dX8_change_239 ?_
        obtain ⟨h8, h⟩ := h
        obtain ⟨h9, h⟩ := h
        refine j_bast 241 rfl dX8_change_240 ly_67 h8 h9 ?_
        refine j_iinc 2 (v2 + (-1 : Int32)) [(0, .ref 49), (1, .int v1), (2, .int (v2 + (-1 : Int32))), (3, .int v3), (4, .int v4)] 244 rfl dX8_change_241 rfl rfl (by decide) rfl ?_
        refine j_goto 146 (by decide) dX8_change_244 ?_
        refine j_sub [0, 1, 2] rfl ?_
        exact h
  · have h := hbf hc
    refine j_iload_n 3 174 rfl dX8_change_173 rfl rfl ?_
    obtain ⟨hbt, hbf⟩ := h
    refine j_if_ne 177 201 rfl (by decide) dX8_change_174 (fun hc => ?_) (fun hc => ?_)
    · have h := hbt hc
      refine j_iconst (1 : Int32) 202 rfl dX8_change_201 (by decide) ?_
      refine j_goto 206 (by decide) dX8_change_202 ?_
      refine j_istore_n [(0, .ref 49), (1, .int v1), (2, .int v2), (3, .int (1 : Int32)), (4, .int v4)] 207 rfl dX8_change_206 rfl (by decide) rfl ?_
      refine j_iinc 4 (v4 + (1 : Int32)) [(0, .ref 49), (1, .int v1), (2, .int v2), (3, .int (1 : Int32)), (4, .int (v4 + (1 : Int32)))] 210 rfl dX8_change_207 rfl rfl (by decide) rfl ?_
      refine j_goto 164 (by decide) dX8_change_210 ?_
      exact h
    · have h := hbf hc
      refine j_iload_n 2 178 rfl dX8_change_177 rfl rfl ?_
      refine j_iload 4 180 rfl dX8_change_178 rfl ?_
      refine j_ishr 181 rfl dX8_change_180 ?_
      refine j_iconst (1 : Int32) 182 rfl dX8_change_181 (by decide) ?_
      refine j_iand 183 rfl dX8_change_182 ?_
      obtain ⟨hbt, hbf⟩ := h
      refine j_if_ne 186 205 rfl (by decide) dX8_change_183 (fun hc => ?_) (fun hc => ?_)
      · have h := hbt hc
        refine j_iconst (0 : Int32) 206 rfl dX8_change_205 (by decide) ?_
        refine j_istore_n [(0, .ref 49), (1, .int v1), (2, .int v2), (3, .int (0 : Int32)), (4, .int v4)] 207 rfl dX8_change_206 rfl (by decide) rfl ?_
        refine j_iinc 4 (v4 + (1 : Int32)) [(0, .ref 49), (1, .int v1), (2, .int v2), (3, .int (0 : Int32)), (4, .int (v4 + (1 : Int32)))] 210 rfl dX8_change_207 rfl rfl (by decide) rfl ?_
        refine j_goto 164 (by decide) dX8_change_210 ?_
        exact h
      · have h := hbf hc
        refine j_aload_n 0 187 rfl dX8_change_186 rfl rfl ?_
        refine j_getR 190 rfl dX8_change_187 lf_X8_79 ly_49 rfl ?_
        refine j_iload_n 2 191 rfl dX8_change_190 rfl rfl ?_
        refine j_iconst (1 : Int32) 192 rfl dX8_change_191 (by decide) ?_
        refine j_iload 4 194 rfl dX8_change_192 rfl ?_
        refine j_ishl 195 rfl dX8_change_194 ?_
        refine j_ior 196 rfl dX8_change_195 ?_
        obtain ⟨h10, h⟩ := h
        refine j_bald 197 rfl dX8_change_196 ly_67 h10 ?_
        refine j_iconst (1 : Int32) 198 rfl dX8_change_197 (by decide) ?_
        obtain ⟨hbt, hbf⟩ := h
        refine j_icmp_ne 201 205 rfl (by decide) dX8_change_198 (fun hc => ?_) (fun hc => ?_)
        · have h := hbt hc
          refine j_iconst (0 : Int32) 206 rfl dX8_change_205 (by decide) ?_
          refine j_istore_n [(0, .ref 49), (1, .int v1), (2, .int v2), (3, .int (0 : Int32)), (4, .int v4)] 207 rfl dX8_change_206 rfl (by decide) rfl ?_
          refine j_iinc 4 (v4 + (1 : Int32)) [(0, .ref 49), (1, .int v1), (2, .int v2), (3, .int (0 : Int32)), (4, .int (v4 + (1 : Int32)))] 210 rfl dX8_change_207 rfl rfl (by decide) rfl ?_
          refine j_goto 164 (by decide) dX8_change_210 ?_
          exact h
        · have h := hbf hc
          refine j_iconst (1 : Int32) 202 rfl dX8_change_201 (by decide) ?_
          refine j_goto 206 (by decide) dX8_change_202 ?_
          refine j_istore_n [(0, .ref 49), (1, .int v1), (2, .int v2), (3, .int (1 : Int32)), (4, .int v4)] 207 rfl dX8_change_206 rfl (by decide) rfl ?_
          refine j_iinc 4 (v4 + (1 : Int32)) [(0, .ref 49), (1, .int v1), (2, .int v2), (3, .int (1 : Int32)), (4, .int (v4 + (1 : Int32)))] 210 rfl dX8_change_207 rfl rfl (by decide) rfl ?_
          refine j_goto 164 (by decide) dX8_change_210 ?_
          exact h
theorem vX8_change_271 (post : Option Value → GG → Prop) (v1 : Int32) (v2 : Int32) (G : GG) (h : (v2 = v1 → (post (some (.int (G 49 23))) G)) ∧ (¬ v2 = v1 → (zJ kX8_change post 278 [(0, .ref 49), (1, .int v1), (2, .int v2), (3, .int (0 : Int32))] [] G))) : zJ kX8_change post 271 [(0, .ref 49), (1, .int v1), (2, .int v2)] [] G := by
  refine j_iload_n 2 272 rfl dX8_change_271 rfl rfl ?_
  refine j_iload_n 1 273 rfl dX8_change_272 rfl rfl ?_
  obtain ⟨hbt, hbf⟩ := h
  refine j_icmp_eq 276 341 rfl (by decide) dX8_change_273 (fun hc => ?_) (fun hc => ?_)
  · have h := hbt hc
    refine j_aload_n 0 342 rfl dX8_change_341 rfl rfl ?_
    refine j_getI 345 rfl dX8_change_342 lf_X8_189 ly_49 rfl ?_
    exact j_iret dX8_change_345 rfl rfl h
  · have h := hbf hc
    refine j_iconst (0 : Int32) 277 rfl dX8_change_276 (by decide) ?_
    refine j_istore_n [(0, .ref 49), (1, .int v1), (2, .int v2), (3, .int (0 : Int32))] 278 rfl dX8_change_277 rfl (by decide) rfl ?_
    exact h
theorem vX8_change_278 (post : Option Value → GG → Prop) (v1 : Int32) (v2 : Int32) (v3 : Int32) (G : GG) (h : (((v2 >>> (v3 &&& (31 : Int32))) &&& (1 : Int32)) = (1 : Int32) → (zJ kX8_change post 278 [(0, .ref 49), (1, .int v1), (2, .int v2), (3, .int (v3 + (1 : Int32)))] [] G)) ∧ (¬ ((v2 >>> (v3 &&& (31 : Int32))) &&& (1 : Int32)) = (1 : Int32) → ((vp_in (v2 ||| ((1 : Int32) <<< (v3 &&& (31 : Int32)))) 1024) ∧ (((G 67 (v2 ||| ((1 : Int32) <<< (v3 &&& (31 : Int32)))).toNatClampNeg) = (1 : Int32) → ((vp_in v3 30) ∧ ((vp_in (G 49 23) 10) ∧ (zJ kX8_change post 271 [(0, .ref 49), (1, .int v1), (2, .int (v2 ||| ((1 : Int32) <<< (v3 &&& (31 : Int32)))))] [] (gU (gU G 64 (G 49 23).toNatClampNeg (G 66 v3.toNatClampNeg)) 49 23 (((gU G 64 (G 49 23).toNatClampNeg (G 66 v3.toNatClampNeg)) 49 23) + (1 : Int32))))))) ∧ (¬ (G 67 (v2 ||| ((1 : Int32) <<< (v3 &&& (31 : Int32)))).toNatClampNeg) = (1 : Int32) → (zJ kX8_change post 278 [(0, .ref 49), (1, .int v1), (2, .int v2), (3, .int (v3 + (1 : Int32)))] [] G)))))) : zJ kX8_change post 278 [(0, .ref 49), (1, .int v1), (2, .int v2), (3, .int v3)] [] G := by
  refine j_iload_n 2 279 rfl dX8_change_278 rfl rfl ?_
  refine j_iload_n 3 280 rfl dX8_change_279 rfl rfl ?_
  refine j_ishr 281 rfl dX8_change_280 ?_
  refine j_iconst (1 : Int32) 282 rfl dX8_change_281 (by decide) ?_
  refine j_iand 283 rfl dX8_change_282 ?_
  refine j_iconst (1 : Int32) 284 rfl dX8_change_283 (by decide) ?_
  obtain ⟨hbt, hbf⟩ := h
  refine j_icmp_eq 287 301 rfl (by decide) dX8_change_284 (fun hc => ?_) (fun hc => ?_)
  · have h := hbt hc
    refine j_iinc 3 (v3 + (1 : Int32)) [(0, .ref 49), (1, .int v1), (2, .int v2), (3, .int (v3 + (1 : Int32)))] 304 rfl dX8_change_301 rfl rfl (by decide) rfl ?_
    refine j_goto 278 (by decide) dX8_change_304 ?_
    exact h
  · have h := hbf hc
    refine j_aload_n 0 288 rfl dX8_change_287 rfl rfl ?_
    refine j_getR 291 rfl dX8_change_288 lf_X8_79 ly_49 rfl ?_
    refine j_iload_n 2 292 rfl dX8_change_291 rfl rfl ?_
    refine j_iconst (1 : Int32) 293 rfl dX8_change_292 (by decide) ?_
    refine j_iload_n 3 294 rfl dX8_change_293 rfl rfl ?_
    refine j_ishl 295 rfl dX8_change_294 ?_
    refine j_ior 296 rfl dX8_change_295 ?_
    obtain ⟨h1, h⟩ := h
    refine j_bald 297 rfl dX8_change_296 ly_67 h1 ?_
    refine j_iconst (1 : Int32) 298 rfl dX8_change_297 (by decide) ?_
    obtain ⟨hbt, hbf⟩ := h
    refine j_icmp_eq 301 307 rfl (by decide) dX8_change_298 (fun hc => ?_) (fun hc => ?_)
    · have h := hbt hc
      refine j_aload_n 0 308 rfl dX8_change_307 rfl rfl ?_
      refine j_getR 311 rfl dX8_change_308 lf_X8_70 ly_49 rfl ?_
      refine j_aload_n 0 312 rfl dX8_change_311 rfl rfl ?_
      refine j_getI 315 rfl dX8_change_312 lf_X8_189 ly_49 rfl ?_
      refine j_aload_n 0 316 rfl dX8_change_315 rfl rfl ?_
      refine j_getR 319 rfl dX8_change_316 lf_X8_76 ly_49 rfl ?_
      refine j_iload_n 3 320 rfl dX8_change_319 rfl rfl ?_
      obtain ⟨h2, h⟩ := h
      refine j_iald 321 rfl dX8_change_320 ly_66 h2 ?_
      obtain ⟨h3, h⟩ := h
      refine j_iast 322 rfl dX8_change_321 ly_64 h3 ?_
      refine j_aload_n 0 323 rfl dX8_change_322 rfl rfl ?_
      refine j_dup 324 rfl dX8_change_323 rfl ?_
      refine j_getI 327 rfl dX8_change_324 lf_X8_189 ly_49 rfl ?_
      refine j_iconst (1 : Int32) 328 rfl dX8_change_327 (by decide) ?_
      refine j_iadd 329 rfl dX8_change_328 ?_
      refine j_put 332 rfl dX8_change_329 lp_X8_189 ly_49 rfl rfl rfl ?_
      refine j_iload_n 2 333 rfl dX8_change_332 rfl rfl ?_
      refine j_iconst (1 : Int32) 334 rfl dX8_change_333 (by decide) ?_
      refine j_iload_n 3 335 rfl dX8_change_334 rfl rfl ?_
      refine j_ishl 336 rfl dX8_change_335 ?_
      refine j_ior 337 rfl dX8_change_336 ?_
      refine j_istore_n [(0, .ref 49), (1, .int v1), (2, .int (v2 ||| ((1 : Int32) <<< (v3 &&& (31 : Int32))))), (3, .int v3)] 338 rfl dX8_change_337 rfl (by decide) rfl ?_
      refine j_goto 271 (by decide) dX8_change_338 ?_
      refine j_sub [0, 1, 2] rfl ?_
      exact h
    · have h := hbf hc
      refine j_iinc 3 (v3 + (1 : Int32)) [(0, .ref 49), (1, .int v1), (2, .int v2), (3, .int (v3 + (1 : Int32)))] 304 rfl dX8_change_301 rfl rfl (by decide) rfl ?_
      refine j_goto 278 (by decide) dX8_change_304 ?_
      exact h
theorem vX8_step (post : Option Value → GG → Prop) (v1 : Int32) (G : GG) (h : CTi kX8_isIn [.int v1, .int (0 : Int32), .int ((G 49 23) - (1 : Int32))] G (fun r2 G1 => (r2 = (0 : Int32) → (post (some (.int (-1 : Int32))) G1)) ∧ (¬ r2 = (0 : Int32) → ((vp_in v1 10) ∧ (post (some (.int (G1 64 v1.toNatClampNeg))) G1))))) : CT kX8_step [.ref 49, .int v1] G post := by
  refine CT.of (by decide) (Nat.le_of_ble_eq_true rfl) ?_
  show zJ kX8_step post 0 [(0, .ref 49), (1, .int v1)] [] G
  refine j_iload_n 1 1 rfl dX8_step_0 rfl rfl ?_
  refine j_iconst (0 : Int32) 2 rfl dX8_step_1 (by decide) ?_
  refine j_aload_n 0 3 rfl dX8_step_2 rfl rfl ?_
  refine j_getI 6 rfl dX8_step_3 lf_X8_189 ly_49 rfl ?_
  refine j_iconst (1 : Int32) 7 rfl dX8_step_6 (by decide) ?_
  refine j_isub 8 rfl dX8_step_7 ?_
  refine j_callS (K' := kX8_isIn) (As := [.int v1, .int (0 : Int32), .int ((G 49 23) - (1 : Int32))]) (S := []) dX8_step_8 ll_X8_83 ok_X8_isIn ⟨by decide, by decide⟩ rfl (Nat.le_of_ble_eq_true rfl) rfl (CT.mono h (fun r G1 hr => ?_))
  obtain ⟨r2, rfl, h⟩ := hr
  show zJ kX8_step post 11 [(0, .ref 49), (1, .int v1)] [.int r2] G1
  obtain ⟨hbt, hbf⟩ := h
  refine j_if_eq 14 23 rfl (by decide) dX8_step_11 (fun hc => ?_) (fun hc => ?_)
  · have h := hbt hc
    refine j_iconst (-1 : Int32) 24 rfl dX8_step_23 (by decide) ?_
    exact j_iret dX8_step_24 rfl rfl h
  · have h := hbf hc
    refine j_aload_n 0 15 rfl dX8_step_14 rfl rfl ?_
    refine j_getR 18 rfl dX8_step_15 lf_X8_70 ly_49 rfl ?_
    refine j_iload_n 1 19 rfl dX8_step_18 rfl rfl ?_
    obtain ⟨h3, h⟩ := h
    refine j_iald 20 rfl dX8_step_19 ly_64 h3 ?_
    refine j_goto 24 (by decide) dX8_step_20 ?_
    exact j_iret dX8_step_24 rfl rfl h
theorem vX8_about (post : Option Value → GG → Prop) (v1 : Int32) (G : GG) (h : zJ kX8_about post 4 [(0, .ref 49), (1, .int v1), (2, .int (0 : Int32)), (3, .int (1 : Int32))] [] G) : CT kX8_about [.ref 49, .int v1] G post := by
  refine CT.of (by decide) (Nat.le_of_ble_eq_true rfl) ?_
  show zJ kX8_about post 0 [(0, .ref 49), (1, .int v1)] [] G
  refine j_iconst (0 : Int32) 1 rfl dX8_about_0 (by decide) ?_
  refine j_istore_n [(0, .ref 49), (1, .int v1), (2, .int (0 : Int32))] 2 rfl dX8_about_1 rfl (by decide) rfl ?_
  refine j_iconst (1 : Int32) 3 rfl dX8_about_2 (by decide) ?_
  refine j_istore_n [(0, .ref 49), (1, .int v1), (2, .int (0 : Int32)), (3, .int (1 : Int32))] 4 rfl dX8_about_3 rfl (by decide) rfl ?_
  exact h
theorem vX8_about_4 (post : Option Value → GG → Prop) (v1 : Int32) (v2 : Int32) (v3 : Int32) (G : GG) (h : ((G 49 0) ≤ v3 → ((v1.toInt < 0 ∨ 8 < v1.toInt → (post (some (.int (-1 : Int32))) G)) ∧ (v1 = (0 : Int32) → (post (some (.int (G 49 0))) G)) ∧ (v1 = (1 : Int32) → (post (some (.int v2)) G)) ∧ (v1 = (2 : Int32) → (post (some (.int (G 49 1))) G)) ∧ (v1 = (3 : Int32) → (post (some (.int (G 49 2))) G)) ∧ (v1 = (4 : Int32) → (post (some (.int (G 49 3))) G)) ∧ (v1 = (5 : Int32) → (post (some (.int (G 49 4))) G)) ∧ (v1 = (6 : Int32) → (post (some (.int (G 49 5))) G)) ∧ (v1 = (7 : Int32) → (((G 49 17) = (0 : Int32) → (post (some (.int (0 : Int32))) G)) ∧ (¬ (G 49 17) = (0 : Int32) → (post (some (.int (1 : Int32))) G)))) ∧ (v1 = (8 : Int32) → (post (some (.int (G 49 23))) G)))) ∧ (¬ (G 49 0) ≤ v3 → ((vp_in v3 30) ∧ (((G 56 v3.toNatClampNeg) = (0 : Int32) → (zJ kX8_about post 4 [(0, .ref 49), (1, .int v1), (2, .int (v2 + (0 : Int32))), (3, .int (v3 + (1 : Int32)))] [] G)) ∧ (¬ (G 56 v3.toNatClampNeg) = (0 : Int32) → (zJ kX8_about post 4 [(0, .ref 49), (1, .int v1), (2, .int (v2 + (1 : Int32))), (3, .int (v3 + (1 : Int32)))] [] G)))))) : zJ kX8_about post 4 [(0, .ref 49), (1, .int v1), (2, .int v2), (3, .int v3)] [] G := by
  refine j_iload_n 3 5 rfl dX8_about_4 rfl rfl ?_
  refine j_aload_n 0 6 rfl dX8_about_5 rfl rfl ?_
  refine j_getI 9 rfl dX8_about_6 lf_X8_7 ly_49 rfl ?_
  obtain ⟨hbt, hbf⟩ := h
  refine j_icmp_ge 12 35 rfl (by decide) dX8_about_9 (fun hc => ?_) (fun hc => ?_)
  · have h := hbt hc
    refine j_iload_n 1 36 rfl dX8_about_35 rfl rfl ?_
    obtain ⟨hdf, h⟩ := h
    by_cases hout : v1.toInt < 0 ∨ 8 < v1.toInt
    · have h := hdf hout
      refine j_tabOut 138 dX8_about_36 hout (by decide) ?_
      refine j_iconst (-1 : Int32) 139 rfl dX8_about_138 (by decide) ?_
      exact j_iret dX8_about_139 rfl rfl h
    · have hin : v1.toInt = 0 ∨ v1.toInt = 1 ∨ v1.toInt = 2 ∨ v1.toInt = 3 ∨ v1.toInt = 4 ∨ v1.toInt = 5 ∨ v1.toInt = 6 ∨ v1.toInt = 7 ∨ v1.toInt = 8 := by omega
      obtain ⟨hc0, hc1, hc2, hc3, hc4, hc5, hc6, hc7, hc8⟩ := h
      rcases hin with hv | hv | hv | hv | hv | hv | hv | hv | hv
      · have h := hc0 (Int32.toInt_inj.mp (hv.trans (by decide)))
        refine j_tabIn 88 dX8_about_36 hv (by decide) (by decide) rfl (by decide) ?_
        refine j_aload_n 0 89 rfl dX8_about_88 rfl rfl ?_
        refine j_getI 92 rfl dX8_about_89 lf_X8_7 ly_49 rfl ?_
        exact j_iret dX8_about_92 rfl rfl h
      · have h := hc1 (Int32.toInt_inj.mp (hv.trans (by decide)))
        refine j_tabIn 93 dX8_about_36 hv (by decide) (by decide) rfl (by decide) ?_
        refine j_iload_n 2 94 rfl dX8_about_93 rfl rfl ?_
        exact j_iret dX8_about_94 rfl rfl h
      · have h := hc2 (Int32.toInt_inj.mp (hv.trans (by decide)))
        refine j_tabIn 95 dX8_about_36 hv (by decide) (by decide) rfl (by decide) ?_
        refine j_aload_n 0 96 rfl dX8_about_95 rfl rfl ?_
        refine j_getI 99 rfl dX8_about_96 lf_X8_13 ly_49 rfl ?_
        exact j_iret dX8_about_99 rfl rfl h
      · have h := hc3 (Int32.toInt_inj.mp (hv.trans (by decide)))
        refine j_tabIn 100 dX8_about_36 hv (by decide) (by decide) rfl (by decide) ?_
        refine j_aload_n 0 101 rfl dX8_about_100 rfl rfl ?_
        refine j_getI 104 rfl dX8_about_101 lf_X8_16 ly_49 rfl ?_
        exact j_iret dX8_about_104 rfl rfl h
      · have h := hc4 (Int32.toInt_inj.mp (hv.trans (by decide)))
        refine j_tabIn 105 dX8_about_36 hv (by decide) (by decide) rfl (by decide) ?_
        refine j_aload_n 0 106 rfl dX8_about_105 rfl rfl ?_
        refine j_getI 109 rfl dX8_about_106 lf_X8_19 ly_49 rfl ?_
        exact j_iret dX8_about_109 rfl rfl h
      · have h := hc5 (Int32.toInt_inj.mp (hv.trans (by decide)))
        refine j_tabIn 110 dX8_about_36 hv (by decide) (by decide) rfl (by decide) ?_
        refine j_aload_n 0 111 rfl dX8_about_110 rfl rfl ?_
        refine j_getI 114 rfl dX8_about_111 lf_X8_23 ly_49 rfl ?_
        exact j_iret dX8_about_114 rfl rfl h
      · have h := hc6 (Int32.toInt_inj.mp (hv.trans (by decide)))
        refine j_tabIn 115 dX8_about_36 hv (by decide) (by decide) rfl (by decide) ?_
        refine j_aload_n 0 116 rfl dX8_about_115 rfl rfl ?_
        refine j_getI 119 rfl dX8_about_116 lf_X8_98 ly_49 rfl ?_
        exact j_iret dX8_about_119 rfl rfl h
      · have h := hc7 (Int32.toInt_inj.mp (hv.trans (by decide)))
        refine j_tabIn 120 dX8_about_36 hv (by decide) (by decide) rfl (by decide) ?_
        refine j_aload_n 0 121 rfl dX8_about_120 rfl rfl ?_
        refine j_getI 124 rfl dX8_about_121 lf_X8_179 ly_49 rfl ?_
        obtain ⟨hbt, hbf⟩ := h
        refine j_if_eq 127 131 rfl (by decide) dX8_about_124 (fun hc => ?_) (fun hc => ?_)
        · have h := hbt hc
          refine j_iconst (0 : Int32) 132 rfl dX8_about_131 (by decide) ?_
          exact j_iret dX8_about_132 rfl rfl h
        · have h := hbf hc
          refine j_iconst (1 : Int32) 128 rfl dX8_about_127 (by decide) ?_
          refine j_goto 132 (by decide) dX8_about_128 ?_
          exact j_iret dX8_about_132 rfl rfl h
      · have h := hc8 (Int32.toInt_inj.mp (hv.trans (by decide)))
        refine j_tabIn 133 dX8_about_36 hv (by decide) (by decide) rfl (by decide) ?_
        refine j_aload_n 0 134 rfl dX8_about_133 rfl rfl ?_
        refine j_getI 137 rfl dX8_about_134 lf_X8_189 ly_49 rfl ?_
        exact j_iret dX8_about_137 rfl rfl h
  · have h := hbf hc
    refine j_iload_n 2 13 rfl dX8_about_12 rfl rfl ?_
    refine j_aload_n 0 14 rfl dX8_about_13 rfl rfl ?_
    refine j_getR 17 rfl dX8_about_14 lf_X8_45 ly_49 rfl ?_
    refine j_iload_n 3 18 rfl dX8_about_17 rfl rfl ?_
    obtain ⟨h1, h⟩ := h
    refine j_zald 19 rfl dX8_about_18 ly_56 h1 ?_
    obtain ⟨hbt, hbf⟩ := h
    refine j_if_eq 22 26 rfl (by decide) dX8_about_19 (fun hc => ?_) (fun hc => ?_)
    · have h := hbt hc
      refine j_iconst (0 : Int32) 27 rfl dX8_about_26 (by decide) ?_
      refine j_iadd 28 rfl dX8_about_27 ?_
      refine j_istore_n [(0, .ref 49), (1, .int v1), (2, .int (v2 + (0 : Int32))), (3, .int v3)] 29 rfl dX8_about_28 rfl (by decide) rfl ?_
      refine j_iinc 3 (v3 + (1 : Int32)) [(0, .ref 49), (1, .int v1), (2, .int (v2 + (0 : Int32))), (3, .int (v3 + (1 : Int32)))] 32 rfl dX8_about_29 rfl rfl (by decide) rfl ?_
      refine j_goto 4 (by decide) dX8_about_32 ?_
      exact h
    · have h := hbf hc
      refine j_iconst (1 : Int32) 23 rfl dX8_about_22 (by decide) ?_
      refine j_goto 27 (by decide) dX8_about_23 ?_
      refine j_iadd 28 rfl dX8_about_27 ?_
      refine j_istore_n [(0, .ref 49), (1, .int v1), (2, .int (v2 + (1 : Int32))), (3, .int v3)] 29 rfl dX8_about_28 rfl (by decide) rfl ?_
      refine j_iinc 3 (v3 + (1 : Int32)) [(0, .ref 49), (1, .int v1), (2, .int (v2 + (1 : Int32))), (3, .int (v3 + (1 : Int32)))] 32 rfl dX8_about_29 rfl rfl (by decide) rfl ?_
      refine j_goto 4 (by decide) dX8_about_32 ?_
      exact h
