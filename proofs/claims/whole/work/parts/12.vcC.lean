theorem vX7_source (post : Option Value → GG → Prop) (v1 : Int32) (v2 : Int32) (G : GG) (h : CTi kX7_isWithin [.int v1, .int (1 : Int32), .int (10000 : Int32)] G (fun r2 G1 => (r2 = (0 : Int32) → (post (some (.int (0 : Int32))) G1)) ∧ (¬ r2 = (0 : Int32) → (CTi kX7_isWithin [.int v2, .int (1 : Int32), .int (1000 : Int32)] G1 (fun r4 G3 => (¬ r4 = (0 : Int32) → (post (some (.int (1 : Int32))) (gU (gU (gU G3 1 1 v1) 1 2 v2) 0 9 (0 : Int32)))) ∧ (r4 = (0 : Int32) → (post (some (.int (0 : Int32))) G3))))))) : CT kX7_source [.ref 0, .int v1, .int v2] G post := by
  refine CT.of (by decide) (Nat.le_of_ble_eq_true rfl) ?_
  show zJ kX7_source post 0 [(0, .ref 0), (1, .int v1), (2, .int v2)] [] G
  refine j_iload_n 1 1 rfl dX7_source_0 rfl rfl ?_
  refine j_iconst (1 : Int32) 2 rfl dX7_source_1 (by decide) ?_
  refine j_sipush (10000 : Int32) 5 rfl dX7_source_2 (by decide) ?_
  refine j_callS (K' := kX7_isWithin) (As := [.int v1, .int (1 : Int32), .int (10000 : Int32)]) (S := []) dX7_source_5 ll_X7_62 ok_X7_isWithin ⟨by decide, by decide⟩ rfl (Nat.le_of_ble_eq_true rfl) rfl (CT.mono h (fun r G1 hr => ?_))
  obtain ⟨r2, rfl, h⟩ := hr
  show zJ kX7_source post 8 [(0, .ref 0), (1, .int v1), (2, .int v2)] [.int r2] G1
  obtain ⟨hbt, hbf⟩ := h
  refine j_if_eq 11 22 rfl (by decide) dX7_source_8 (fun hc => ?_) (fun hc => ?_)
  · have h := hbt hc
    refine j_iconst (0 : Int32) 23 rfl dX7_source_22 (by decide) ?_
    exact j_iret dX7_source_23 rfl rfl h
  · have h := hbf hc
    refine j_iload_n 2 12 rfl dX7_source_11 rfl rfl ?_
    refine j_iconst (1 : Int32) 13 rfl dX7_source_12 (by decide) ?_
    refine j_sipush (1000 : Int32) 16 rfl dX7_source_13 (by decide) ?_
    refine j_callS (K' := kX7_isWithin) (As := [.int v2, .int (1 : Int32), .int (1000 : Int32)]) (S := []) dX7_source_16 ll_X7_62 ok_X7_isWithin ⟨by decide, by decide⟩ rfl (Nat.le_of_ble_eq_true rfl) rfl (CT.mono h (fun r G3 hr => ?_))
    obtain ⟨r4, rfl, h⟩ := hr
    show zJ kX7_source post 19 [(0, .ref 0), (1, .int v1), (2, .int v2)] [.int r4] G3
    obtain ⟨hbt, hbf⟩ := h
    refine j_if_ne 22 24 rfl (by decide) dX7_source_19 (fun hc => ?_) (fun hc => ?_)
    · have h := hbt hc
      refine j_aload_n 0 25 rfl dX7_source_24 rfl rfl ?_
      refine j_getR 28 rfl dX7_source_25 lf_X7_10 ly_0 rfl ?_
      refine j_iload_n 1 29 rfl dX7_source_28 rfl rfl ?_
      refine j_put 32 rfl dX7_source_29 lp_X7_66 ly_1 rfl rfl rfl ?_
      refine j_aload_n 0 33 rfl dX7_source_32 rfl rfl ?_
      refine j_getR 36 rfl dX7_source_33 lf_X7_10 ly_0 rfl ?_
      refine j_iload_n 2 37 rfl dX7_source_36 rfl rfl ?_
      refine j_put 40 rfl dX7_source_37 lp_X7_70 ly_1 rfl rfl rfl ?_
      refine j_aload_n 0 41 rfl dX7_source_40 rfl rfl ?_
      refine j_iconst (0 : Int32) 42 rfl dX7_source_41 (by decide) ?_
      refine j_put 45 rfl dX7_source_42 lp_X7_73 ly_0 rfl rfl rfl ?_
      refine j_iconst (1 : Int32) 46 rfl dX7_source_45 (by decide) ?_
      exact j_iret dX7_source_46 rfl rfl h
    · have h := hbf hc
      refine j_iconst (0 : Int32) 23 rfl dX7_source_22 (by decide) ?_
      exact j_iret dX7_source_23 rfl rfl h
theorem vX7_line (post : Option Value → GG → Prop) (v1 : Int32) (v2 : Int32) (G : GG) (h : CTi kX3_isKnot [.ref 1, .int v1] G (fun r2 G1 => (r2 = (0 : Int32) → (post (some (.int (-1 : Int32))) G1)) ∧ (¬ r2 = (0 : Int32) → (CTi kX7_isWithin [.int v2, .int (1 : Int32), .int (1000 : Int32)] G1 (fun r4 G3 => (r4 = (0 : Int32) → (post (some (.int (-1 : Int32))) G3)) ∧ (¬ r4 = (0 : Int32) → (((G3 1 0) < (30 : Int32) → (CTi kX3_hang [.ref 1, .int v1, .int v2] (gU G3 0 9 (0 : Int32)) (fun r6 G5 => post (some (.int r6)) G5))) ∧ (¬ (G3 1 0) < (30 : Int32) → (post (some (.int (-1 : Int32))) G3))))))))) : CT kX7_line [.ref 0, .int v1, .int v2] G post := by
  refine CT.of (by decide) (Nat.le_of_ble_eq_true rfl) ?_
  show zJ kX7_line post 0 [(0, .ref 0), (1, .int v1), (2, .int v2)] [] G
  refine j_aload_n 0 1 rfl dX7_line_0 rfl rfl ?_
  refine j_getR 4 rfl dX7_line_1 lf_X7_10 ly_0 rfl ?_
  refine j_iload_n 1 5 rfl dX7_line_4 rfl rfl ?_
  refine j_callV (K' := kX3_isKnot) (As := [.int v1]) (S := []) dX7_line_5 ll_X7_77 ok_X3_isKnot ⟨by decide, by decide⟩ ly_1 rfl rfl (Nat.le_of_ble_eq_true rfl) rfl (CT.mono h (fun r G1 hr => ?_))
  obtain ⟨r2, rfl, h⟩ := hr
  show zJ kX7_line post 8 [(0, .ref 0), (1, .int v1), (2, .int v2)] [.int r2] G1
  obtain ⟨hbt, hbf⟩ := h
  refine j_if_eq 11 34 rfl (by decide) dX7_line_8 (fun hc => ?_) (fun hc => ?_)
  · have h := hbt hc
    refine j_iconst (-1 : Int32) 35 rfl dX7_line_34 (by decide) ?_
    exact j_iret dX7_line_35 rfl rfl h
  · have h := hbf hc
    refine j_iload_n 2 12 rfl dX7_line_11 rfl rfl ?_
    refine j_iconst (1 : Int32) 13 rfl dX7_line_12 (by decide) ?_
    refine j_sipush (1000 : Int32) 16 rfl dX7_line_13 (by decide) ?_
    refine j_callS (K' := kX7_isWithin) (As := [.int v2, .int (1 : Int32), .int (1000 : Int32)]) (S := []) dX7_line_16 ll_X7_62 ok_X7_isWithin ⟨by decide, by decide⟩ rfl (Nat.le_of_ble_eq_true rfl) rfl (CT.mono h (fun r G3 hr => ?_))
    obtain ⟨r4, rfl, h⟩ := hr
    show zJ kX7_line post 19 [(0, .ref 0), (1, .int v1), (2, .int v2)] [.int r4] G3
    obtain ⟨hbt, hbf⟩ := h
    refine j_if_eq 22 34 rfl (by decide) dX7_line_19 (fun hc => ?_) (fun hc => ?_)
    · have h := hbt hc
      refine j_iconst (-1 : Int32) 35 rfl dX7_line_34 (by decide) ?_
      exact j_iret dX7_line_35 rfl rfl h
    · have h := hbf hc
      refine j_aload_n 0 23 rfl dX7_line_22 rfl rfl ?_
      refine j_getR 26 rfl dX7_line_23 lf_X7_10 ly_0 rfl ?_
      refine j_getI 29 rfl dX7_line_26 lf_X7_81 ly_1 rfl ?_
      refine j_bipush (30 : Int32) 31 rfl dX7_line_29 (by decide) ?_
      obtain ⟨hbt, hbf⟩ := h
      refine j_icmp_lt 34 36 rfl (by decide) dX7_line_31 (fun hc => ?_) (fun hc => ?_)
      · have h := hbt hc
        refine j_aload_n 0 37 rfl dX7_line_36 rfl rfl ?_
        refine j_iconst (0 : Int32) 38 rfl dX7_line_37 (by decide) ?_
        refine j_put 41 rfl dX7_line_38 lp_X7_73 ly_0 rfl rfl rfl ?_
        refine j_aload_n 0 42 rfl dX7_line_41 rfl rfl ?_
        refine j_getR 45 rfl dX7_line_42 lf_X7_10 ly_0 rfl ?_
        refine j_iload_n 1 46 rfl dX7_line_45 rfl rfl ?_
        refine j_iload_n 2 47 rfl dX7_line_46 rfl rfl ?_
        refine j_callV (K' := kX3_hang) (As := [.int v1, .int v2]) (S := []) dX7_line_47 ll_X7_84 ok_X3_hang ⟨by decide, by decide⟩ ly_1 rfl rfl (Nat.le_of_ble_eq_true rfl) rfl (CT.mono h (fun r G5 hr => ?_))
        obtain ⟨r6, rfl, h⟩ := hr
        show zJ kX7_line post 50 [(0, .ref 0), (1, .int v1), (2, .int v2)] [.int r6] G5
        exact j_iret dX7_line_50 rfl rfl h
      · have h := hbf hc
        refine j_iconst (-1 : Int32) 35 rfl dX7_line_34 (by decide) ?_
        exact j_iret dX7_line_35 rfl rfl h
theorem vX7_load (post : Option Value → GG → Prop) (v1 : Int32) (v2 : Int32) (G : GG) (h : CTi kX3_isKnot [.ref 1, .int v1] G (fun r2 G1 => (r2 = (0 : Int32) → (post (some (.int (0 : Int32))) G1)) ∧ (¬ r2 = (0 : Int32) → (CTi kX7_isWithin [.int v2, .int (0 : Int32), .int (1000 : Int32)] G1 (fun r4 G3 => (¬ r4 = (0 : Int32) → ((vp_in v1 30) ∧ (post (some (.int (1 : Int32))) (gU (gU G3 6 v1.toNatClampNeg v2) 0 9 (0 : Int32))))) ∧ (r4 = (0 : Int32) → (post (some (.int (0 : Int32))) G3))))))) : CT kX7_load [.ref 0, .int v1, .int v2] G post := by
  refine CT.of (by decide) (Nat.le_of_ble_eq_true rfl) ?_
  show zJ kX7_load post 0 [(0, .ref 0), (1, .int v1), (2, .int v2)] [] G
  refine j_aload_n 0 1 rfl dX7_load_0 rfl rfl ?_
  refine j_getR 4 rfl dX7_load_1 lf_X7_10 ly_0 rfl ?_
  refine j_iload_n 1 5 rfl dX7_load_4 rfl rfl ?_
  refine j_callV (K' := kX3_isKnot) (As := [.int v1]) (S := []) dX7_load_5 ll_X7_77 ok_X3_isKnot ⟨by decide, by decide⟩ ly_1 rfl rfl (Nat.le_of_ble_eq_true rfl) rfl (CT.mono h (fun r G1 hr => ?_))
  obtain ⟨r2, rfl, h⟩ := hr
  show zJ kX7_load post 8 [(0, .ref 0), (1, .int v1), (2, .int v2)] [.int r2] G1
  obtain ⟨hbt, hbf⟩ := h
  refine j_if_eq 11 22 rfl (by decide) dX7_load_8 (fun hc => ?_) (fun hc => ?_)
  · have h := hbt hc
    refine j_iconst (0 : Int32) 23 rfl dX7_load_22 (by decide) ?_
    exact j_iret dX7_load_23 rfl rfl h
  · have h := hbf hc
    refine j_iload_n 2 12 rfl dX7_load_11 rfl rfl ?_
    refine j_iconst (0 : Int32) 13 rfl dX7_load_12 (by decide) ?_
    refine j_sipush (1000 : Int32) 16 rfl dX7_load_13 (by decide) ?_
    refine j_callS (K' := kX7_isWithin) (As := [.int v2, .int (0 : Int32), .int (1000 : Int32)]) (S := []) dX7_load_16 ll_X7_62 ok_X7_isWithin ⟨by decide, by decide⟩ rfl (Nat.le_of_ble_eq_true rfl) rfl (CT.mono h (fun r G3 hr => ?_))
    obtain ⟨r4, rfl, h⟩ := hr
    show zJ kX7_load post 19 [(0, .ref 0), (1, .int v1), (2, .int v2)] [.int r4] G3
    obtain ⟨hbt, hbf⟩ := h
    refine j_if_ne 22 24 rfl (by decide) dX7_load_19 (fun hc => ?_) (fun hc => ?_)
    · have h := hbt hc
      refine j_aload_n 0 25 rfl dX7_load_24 rfl rfl ?_
      refine j_getR 28 rfl dX7_load_25 lf_X7_10 ly_0 rfl ?_
      refine j_getR 31 rfl dX7_load_28 lf_X7_88 ly_1 rfl ?_
      refine j_iload_n 1 32 rfl dX7_load_31 rfl rfl ?_
      refine j_iload_n 2 33 rfl dX7_load_32 rfl rfl ?_
      obtain ⟨h5, h⟩ := h
      refine j_iast 34 rfl dX7_load_33 ly_6 h5 ?_
      refine j_aload_n 0 35 rfl dX7_load_34 rfl rfl ?_
      refine j_iconst (0 : Int32) 36 rfl dX7_load_35 (by decide) ?_
      refine j_put 39 rfl dX7_load_36 lp_X7_73 ly_0 rfl rfl rfl ?_
      refine j_iconst (1 : Int32) 40 rfl dX7_load_39 (by decide) ?_
      exact j_iret dX7_load_40 rfl rfl h
    · have h := hbf hc
      refine j_iconst (0 : Int32) 23 rfl dX7_load_22 (by decide) ?_
      exact j_iret dX7_load_23 rfl rfl h
theorem vX7_corner (post : Option Value → GG → Prop) (v1 : Int32) (v2 : Int32) (v3 : Int32) (G : GG) (h : CTi kX7_isWithin [.int v1, .int (0 : Int32), .int (7 : Int32)] G (fun r2 G1 => (¬ r2 = (0 : Int32) → ((vp_in v1 8) ∧ (CTi kX0_addCorner [.ref (zCv v1), .int v2, .int v3] G1 (fun r5 G4 => (r5 = (-1 : Int32) → (post (some (.int r5)) G4)) ∧ (¬ r5 = (-1 : Int32) → (post (some (.int r5)) (gU G4 0 9 (0 : Int32)))))))) ∧ (r2 = (0 : Int32) → (post (some (.int (-1 : Int32))) G1)))) : CT kX7_corner [.ref 0, .int v1, .int v2, .int v3] G post := by
  refine CT.of (by decide) (Nat.le_of_ble_eq_true rfl) ?_
  show zJ kX7_corner post 0 [(0, .ref 0), (1, .int v1), (2, .int v2), (3, .int v3)] [] G
  refine j_iload_n 1 1 rfl dX7_corner_0 rfl rfl ?_
  refine j_iconst (0 : Int32) 2 rfl dX7_corner_1 (by decide) ?_
  refine j_bipush (7 : Int32) 4 rfl dX7_corner_2 (by decide) ?_
  refine j_callS (K' := kX7_isWithin) (As := [.int v1, .int (0 : Int32), .int (7 : Int32)]) (S := []) dX7_corner_4 ll_X7_62 ok_X7_isWithin ⟨by decide, by decide⟩ rfl (Nat.le_of_ble_eq_true rfl) rfl (CT.mono h (fun r G1 hr => ?_))
  obtain ⟨r2, rfl, h⟩ := hr
  show zJ kX7_corner post 7 [(0, .ref 0), (1, .int v1), (2, .int v2), (3, .int v3)] [.int r2] G1
  obtain ⟨hbt, hbf⟩ := h
  refine j_if_ne 10 12 rfl (by decide) dX7_corner_7 (fun hc => ?_) (fun hc => ?_)
  · have h := hbt hc
    refine j_aload_n 0 13 rfl dX7_corner_12 rfl rfl ?_
    refine j_getR 16 rfl dX7_corner_13 lf_X7_19 ly_0 rfl ?_
    refine j_getR 19 rfl dX7_corner_16 lf_X7_91 ly_7 rfl ?_
    refine j_iload_n 1 20 rfl dX7_corner_19 rfl rfl ?_
    obtain ⟨h3, h⟩ := h
    refine j_aald 21 rfl dX7_corner_20 ly_8 h3 (zCv_r h3) ?_
    refine j_iload_n 2 22 rfl dX7_corner_21 rfl rfl ?_
    refine j_iload_n 3 23 rfl dX7_corner_22 rfl rfl ?_
    refine j_callV (K' := kX0_addCorner) (As := [.int v2, .int v3]) (S := []) dX7_corner_23 ll_X7_95 ok_X0_addCorner ⟨by decide, by decide⟩ (zCv_0 h3) rfl rfl (Nat.le_of_ble_eq_true rfl) rfl (CT.mono h (fun r G4 hr => ?_))
    obtain ⟨r5, rfl, h⟩ := hr
    show zJ kX7_corner post 26 [(0, .ref 0), (1, .int v1), (2, .int v2), (3, .int v3)] [.int r5] G4
    refine j_istore [(0, .ref 0), (1, .int v1), (2, .int v2), (3, .int v3), (4, .int r5)] 28 rfl dX7_corner_26 (by decide) rfl ?_
    refine j_iload 4 30 rfl dX7_corner_28 rfl ?_
    refine j_iconst (-1 : Int32) 31 rfl dX7_corner_30 (by decide) ?_
    obtain ⟨hbt, hbf⟩ := h
    refine j_icmp_eq 34 39 rfl (by decide) dX7_corner_31 (fun hc => ?_) (fun hc => ?_)
    · have h := hbt hc
      refine j_iload 4 41 rfl dX7_corner_39 rfl ?_
      exact j_iret dX7_corner_41 rfl rfl h
    · have h := hbf hc
      refine j_aload_n 0 35 rfl dX7_corner_34 rfl rfl ?_
      refine j_iconst (0 : Int32) 36 rfl dX7_corner_35 (by decide) ?_
      refine j_put 39 rfl dX7_corner_36 lp_X7_73 ly_0 rfl rfl rfl ?_
      refine j_iload 4 41 rfl dX7_corner_39 rfl ?_
      exact j_iret dX7_corner_41 rfl rfl h
  · have h := hbf hc
    refine j_iconst (-1 : Int32) 11 rfl dX7_corner_10 (by decide) ?_
    exact j_iret dX7_corner_11 rfl rfl h
theorem vX7_breaker (post : Option Value → GG → Prop) (v1 : Int32) (v2 : Int32) (v3 : Int32) (v4 : Int32) (G : GG) (h : CTi kX3_isLine [.ref 1, .int v1] G (fun r2 G1 => (r2 = (0 : Int32) → (post (some (.int (0 : Int32))) G1)) ∧ (¬ r2 = (0 : Int32) → (CTi kX7_isWithin [.int v2, .int (0 : Int32), .int (7 : Int32)] G1 (fun r4 G3 => (r4 = (0 : Int32) → (post (some (.int (0 : Int32))) G3)) ∧ (¬ r4 = (0 : Int32) → (CTi kX7_isWithin [.int v3, .int (1 : Int32), .int (40 : Int32)] G3 (fun r6 G5 => (r6 = (0 : Int32) → (post (some (.int (0 : Int32))) G5)) ∧ (¬ r6 = (0 : Int32) → (CTi kX7_isWithin [.int v4, .int (1 : Int32), .int (10000 : Int32)] G5 (fun r8 G7 => (¬ r8 = (0 : Int32) → (CTv kX5_place [.ref 7, .int v1, .int v2, .int v3, .int v4] G7 (fun G9 => post (some (.int (1 : Int32))) (gU G9 0 9 (0 : Int32))))) ∧ (r8 = (0 : Int32) → (post (some (.int (0 : Int32))) G7))))))))))))) : CT kX7_breaker [.ref 0, .int v1, .int v2, .int v3, .int v4] G post := by
  refine CT.of (by decide) (Nat.le_of_ble_eq_true rfl) ?_
  show zJ kX7_breaker post 0 [(0, .ref 0), (1, .int v1), (2, .int v2), (3, .int v3), (4, .int v4)] [] G
  refine j_aload_n 0 1 rfl dX7_breaker_0 rfl rfl ?_
  refine j_getR 4 rfl dX7_breaker_1 lf_X7_10 ly_0 rfl ?_
  refine j_iload_n 1 5 rfl dX7_breaker_4 rfl rfl ?_
  refine j_callV (K' := kX3_isLine) (As := [.int v1]) (S := []) dX7_breaker_5 ll_X7_100 ok_X3_isLine ⟨by decide, by decide⟩ ly_1 rfl rfl (Nat.le_of_ble_eq_true rfl) rfl (CT.mono h (fun r G1 hr => ?_))
  obtain ⟨r2, rfl, h⟩ := hr
  show zJ kX7_breaker post 8 [(0, .ref 0), (1, .int v1), (2, .int v2), (3, .int v3), (4, .int v4)] [.int r2] G1
  obtain ⟨hbt, hbf⟩ := h
  refine j_if_eq 11 43 rfl (by decide) dX7_breaker_8 (fun hc => ?_) (fun hc => ?_)
  · have h := hbt hc
    refine j_iconst (0 : Int32) 44 rfl dX7_breaker_43 (by decide) ?_
    exact j_iret dX7_breaker_44 rfl rfl h
  · have h := hbf hc
    refine j_iload_n 2 12 rfl dX7_breaker_11 rfl rfl ?_
    refine j_iconst (0 : Int32) 13 rfl dX7_breaker_12 (by decide) ?_
    refine j_bipush (7 : Int32) 15 rfl dX7_breaker_13 (by decide) ?_
    refine j_callS (K' := kX7_isWithin) (As := [.int v2, .int (0 : Int32), .int (7 : Int32)]) (S := []) dX7_breaker_15 ll_X7_62 ok_X7_isWithin ⟨by decide, by decide⟩ rfl (Nat.le_of_ble_eq_true rfl) rfl (CT.mono h (fun r G3 hr => ?_))
    obtain ⟨r4, rfl, h⟩ := hr
    show zJ kX7_breaker post 18 [(0, .ref 0), (1, .int v1), (2, .int v2), (3, .int v3), (4, .int v4)] [.int r4] G3
    obtain ⟨hbt, hbf⟩ := h
    refine j_if_eq 21 43 rfl (by decide) dX7_breaker_18 (fun hc => ?_) (fun hc => ?_)
    · have h := hbt hc
      refine j_iconst (0 : Int32) 44 rfl dX7_breaker_43 (by decide) ?_
      exact j_iret dX7_breaker_44 rfl rfl h
    · have h := hbf hc
      refine j_iload_n 3 22 rfl dX7_breaker_21 rfl rfl ?_
      refine j_iconst (1 : Int32) 23 rfl dX7_breaker_22 (by decide) ?_
      refine j_bipush (40 : Int32) 25 rfl dX7_breaker_23 (by decide) ?_
      refine j_callS (K' := kX7_isWithin) (As := [.int v3, .int (1 : Int32), .int (40 : Int32)]) (S := []) dX7_breaker_25 ll_X7_62 ok_X7_isWithin ⟨by decide, by decide⟩ rfl (Nat.le_of_ble_eq_true rfl) rfl (CT.mono h (fun r G5 hr => ?_))
      obtain ⟨r6, rfl, h⟩ := hr
      show zJ kX7_breaker post 28 [(0, .ref 0), (1, .int v1), (2, .int v2), (3, .int v3), (4, .int v4)] [.int r6] G5
      obtain ⟨hbt, hbf⟩ := h
      refine j_if_eq 31 43 rfl (by decide) dX7_breaker_28 (fun hc => ?_) (fun hc => ?_)
      · have h := hbt hc
        refine j_iconst (0 : Int32) 44 rfl dX7_breaker_43 (by decide) ?_
        exact j_iret dX7_breaker_44 rfl rfl h
      · have h := hbf hc
        refine j_iload 4 33 rfl dX7_breaker_31 rfl ?_
        refine j_iconst (1 : Int32) 34 rfl dX7_breaker_33 (by decide) ?_
        refine j_sipush (10000 : Int32) 37 rfl dX7_breaker_34 (by decide) ?_
        refine j_callS (K' := kX7_isWithin) (As := [.int v4, .int (1 : Int32), .int (10000 : Int32)]) (S := []) dX7_breaker_37 ll_X7_62 ok_X7_isWithin ⟨by decide, by decide⟩ rfl (Nat.le_of_ble_eq_true rfl) rfl (CT.mono h (fun r G7 hr => ?_))
        obtain ⟨r8, rfl, h⟩ := hr
        show zJ kX7_breaker post 40 [(0, .ref 0), (1, .int v1), (2, .int v2), (3, .int v3), (4, .int v4)] [.int r8] G7
        obtain ⟨hbt, hbf⟩ := h
        refine j_if_ne 43 45 rfl (by decide) dX7_breaker_40 (fun hc => ?_) (fun hc => ?_)
        · have h := hbt hc
          refine j_aload_n 0 46 rfl dX7_breaker_45 rfl rfl ?_
          refine j_getR 49 rfl dX7_breaker_46 lf_X7_19 ly_0 rfl ?_
          refine j_iload_n 1 50 rfl dX7_breaker_49 rfl rfl ?_
          refine j_iload_n 2 51 rfl dX7_breaker_50 rfl rfl ?_
          refine j_iload_n 3 52 rfl dX7_breaker_51 rfl rfl ?_
          refine j_iload 4 54 rfl dX7_breaker_52 rfl ?_
          refine j_callV (K' := kX5_place) (As := [.int v1, .int v2, .int v3, .int v4]) (S := []) dX7_breaker_54 ll_X7_103 ok_X5_place ⟨by decide, by decide⟩ ly_7 rfl rfl (Nat.le_of_ble_eq_true rfl) rfl (CT.mono h (fun r G9 hr => ?_))
          obtain ⟨rfl, h⟩ := hr
          show zJ kX7_breaker post 57 [(0, .ref 0), (1, .int v1), (2, .int v2), (3, .int v3), (4, .int v4)] [] G9
          refine j_aload_n 0 58 rfl dX7_breaker_57 rfl rfl ?_
          refine j_iconst (0 : Int32) 59 rfl dX7_breaker_58 (by decide) ?_
          refine j_put 62 rfl dX7_breaker_59 lp_X7_73 ly_0 rfl rfl rfl ?_
          refine j_iconst (1 : Int32) 63 rfl dX7_breaker_62 (by decide) ?_
          exact j_iret dX7_breaker_63 rfl rfl h
        · have h := hbf hc
          refine j_iconst (0 : Int32) 44 rfl dX7_breaker_43 (by decide) ?_
          exact j_iret dX7_breaker_44 rfl rfl h
theorem vX7_remove (post : Option Value → GG → Prop) (v1 : Int32) (G : GG) (h : CTi kX5_isThere [.ref 7, .int v1] G (fun r2 G1 => (¬ r2 = (0 : Int32) → (CTv kX5_takeAway [.ref 7, .int v1] G1 (fun G3 => post (some (.int (1 : Int32))) (gU G3 0 9 (0 : Int32))))) ∧ (r2 = (0 : Int32) → (post (some (.int (0 : Int32))) G1)))) : CT kX7_remove [.ref 0, .int v1] G post := by
  refine CT.of (by decide) (Nat.le_of_ble_eq_true rfl) ?_
  show zJ kX7_remove post 0 [(0, .ref 0), (1, .int v1)] [] G
  refine j_aload_n 0 1 rfl dX7_remove_0 rfl rfl ?_
  refine j_getR 4 rfl dX7_remove_1 lf_X7_19 ly_0 rfl ?_
  refine j_iload_n 1 5 rfl dX7_remove_4 rfl rfl ?_
  refine j_callV (K' := kX5_isThere) (As := [.int v1]) (S := []) dX7_remove_5 ll_X7_107 ok_X5_isThere ⟨by decide, by decide⟩ ly_7 rfl rfl (Nat.le_of_ble_eq_true rfl) rfl (CT.mono h (fun r G1 hr => ?_))
  obtain ⟨r2, rfl, h⟩ := hr
  show zJ kX7_remove post 8 [(0, .ref 0), (1, .int v1)] [.int r2] G1
  obtain ⟨hbt, hbf⟩ := h
  refine j_if_ne 11 13 rfl (by decide) dX7_remove_8 (fun hc => ?_) (fun hc => ?_)
  · have h := hbt hc
    refine j_aload_n 0 14 rfl dX7_remove_13 rfl rfl ?_
    refine j_getR 17 rfl dX7_remove_14 lf_X7_19 ly_0 rfl ?_
    refine j_iload_n 1 18 rfl dX7_remove_17 rfl rfl ?_
    refine j_callV (K' := kX5_takeAway) (As := [.int v1]) (S := []) dX7_remove_18 ll_X7_110 ok_X5_takeAway ⟨by decide, by decide⟩ ly_7 rfl rfl (Nat.le_of_ble_eq_true rfl) rfl (CT.mono h (fun r G3 hr => ?_))
    obtain ⟨rfl, h⟩ := hr
    show zJ kX7_remove post 21 [(0, .ref 0), (1, .int v1)] [] G3
    refine j_aload_n 0 22 rfl dX7_remove_21 rfl rfl ?_
    refine j_iconst (0 : Int32) 23 rfl dX7_remove_22 (by decide) ?_
    refine j_put 26 rfl dX7_remove_23 lp_X7_73 ly_0 rfl rfl rfl ?_
    refine j_iconst (1 : Int32) 27 rfl dX7_remove_26 (by decide) ?_
    exact j_iret dX7_remove_27 rfl rfl h
  · have h := hbf hc
    refine j_iconst (0 : Int32) 12 rfl dX7_remove_11 (by decide) ?_
    exact j_iret dX7_remove_12 rfl rfl h
theorem vX7_dial (post : Option Value → GG → Prop) (v1 : Int32) (v2 : Int32) (G : GG) (h : CTi kX5_isThere [.ref 7, .int v1] G (fun r2 G1 => (r2 = (0 : Int32) → (post (some (.int (0 : Int32))) G1)) ∧ (¬ r2 = (0 : Int32) → (CTi kX7_isWithin [.int v2, .int (1 : Int32), .int (40 : Int32)] G1 (fun r4 G3 => (¬ r4 = (0 : Int32) → ((vp_in v1 30) ∧ (post (some (.int (1 : Int32))) (gU (gU G3 10 v1.toNatClampNeg v2) 0 9 (0 : Int32))))) ∧ (r4 = (0 : Int32) → (post (some (.int (0 : Int32))) G3))))))) : CT kX7_dial [.ref 0, .int v1, .int v2] G post := by
  refine CT.of (by decide) (Nat.le_of_ble_eq_true rfl) ?_
  show zJ kX7_dial post 0 [(0, .ref 0), (1, .int v1), (2, .int v2)] [] G
  refine j_aload_n 0 1 rfl dX7_dial_0 rfl rfl ?_
  refine j_getR 4 rfl dX7_dial_1 lf_X7_19 ly_0 rfl ?_
  refine j_iload_n 1 5 rfl dX7_dial_4 rfl rfl ?_
  refine j_callV (K' := kX5_isThere) (As := [.int v1]) (S := []) dX7_dial_5 ll_X7_107 ok_X5_isThere ⟨by decide, by decide⟩ ly_7 rfl rfl (Nat.le_of_ble_eq_true rfl) rfl (CT.mono h (fun r G1 hr => ?_))
  obtain ⟨r2, rfl, h⟩ := hr
  show zJ kX7_dial post 8 [(0, .ref 0), (1, .int v1), (2, .int v2)] [.int r2] G1
  obtain ⟨hbt, hbf⟩ := h
  refine j_if_eq 11 21 rfl (by decide) dX7_dial_8 (fun hc => ?_) (fun hc => ?_)
  · have h := hbt hc
    refine j_iconst (0 : Int32) 22 rfl dX7_dial_21 (by decide) ?_
    exact j_iret dX7_dial_22 rfl rfl h
  · have h := hbf hc
    refine j_iload_n 2 12 rfl dX7_dial_11 rfl rfl ?_
    refine j_iconst (1 : Int32) 13 rfl dX7_dial_12 (by decide) ?_
    refine j_bipush (40 : Int32) 15 rfl dX7_dial_13 (by decide) ?_
    refine j_callS (K' := kX7_isWithin) (As := [.int v2, .int (1 : Int32), .int (40 : Int32)]) (S := []) dX7_dial_15 ll_X7_62 ok_X7_isWithin ⟨by decide, by decide⟩ rfl (Nat.le_of_ble_eq_true rfl) rfl (CT.mono h (fun r G3 hr => ?_))
    obtain ⟨r4, rfl, h⟩ := hr
    show zJ kX7_dial post 18 [(0, .ref 0), (1, .int v1), (2, .int v2)] [.int r4] G3
    obtain ⟨hbt, hbf⟩ := h
    refine j_if_ne 21 23 rfl (by decide) dX7_dial_18 (fun hc => ?_) (fun hc => ?_)
    · have h := hbt hc
      refine j_aload_n 0 24 rfl dX7_dial_23 rfl rfl ?_
      refine j_getR 27 rfl dX7_dial_24 lf_X7_19 ly_0 rfl ?_
      refine j_getR 30 rfl dX7_dial_27 lf_X7_114 ly_7 rfl ?_
      refine j_iload_n 1 31 rfl dX7_dial_30 rfl rfl ?_
      refine j_iload_n 2 32 rfl dX7_dial_31 rfl rfl ?_
      obtain ⟨h5, h⟩ := h
      refine j_iast 33 rfl dX7_dial_32 ly_10 h5 ?_
      refine j_aload_n 0 34 rfl dX7_dial_33 rfl rfl ?_
      refine j_iconst (0 : Int32) 35 rfl dX7_dial_34 (by decide) ?_
      refine j_put 38 rfl dX7_dial_35 lp_X7_73 ly_0 rfl rfl rfl ?_
      refine j_iconst (1 : Int32) 39 rfl dX7_dial_38 (by decide) ?_
      exact j_iret dX7_dial_39 rfl rfl h
    · have h := hbf hc
      refine j_iconst (0 : Int32) 22 rfl dX7_dial_21 (by decide) ?_
      exact j_iret dX7_dial_22 rfl rfl h
theorem vX7_fails (post : Option Value → GG → Prop) (v1 : Int32) (v2 : Int32) (G : GG) (h : CTi kX5_isThere [.ref 7, .int v1] G (fun r2 G1 => (¬ r2 = (0 : Int32) → (CTv kX5_setFailing [.ref 7, .int v1, .int v2] G1 (fun G3 => post (some (.int (1 : Int32))) (gU G3 0 9 (0 : Int32))))) ∧ (r2 = (0 : Int32) → (post (some (.int (0 : Int32))) G1)))) : CT kX7_fails [.ref 0, .int v1, .int v2] G post := by
  refine CT.of (by decide) (Nat.le_of_ble_eq_true rfl) ?_
  show zJ kX7_fails post 0 [(0, .ref 0), (1, .int v1), (2, .int v2)] [] G
  refine j_aload_n 0 1 rfl dX7_fails_0 rfl rfl ?_
  refine j_getR 4 rfl dX7_fails_1 lf_X7_19 ly_0 rfl ?_
  refine j_iload_n 1 5 rfl dX7_fails_4 rfl rfl ?_
  refine j_callV (K' := kX5_isThere) (As := [.int v1]) (S := []) dX7_fails_5 ll_X7_107 ok_X5_isThere ⟨by decide, by decide⟩ ly_7 rfl rfl (Nat.le_of_ble_eq_true rfl) rfl (CT.mono h (fun r G1 hr => ?_))
  obtain ⟨r2, rfl, h⟩ := hr
  show zJ kX7_fails post 8 [(0, .ref 0), (1, .int v1), (2, .int v2)] [.int r2] G1
  obtain ⟨hbt, hbf⟩ := h
  refine j_if_ne 11 13 rfl (by decide) dX7_fails_8 (fun hc => ?_) (fun hc => ?_)
  · have h := hbt hc
    refine j_aload_n 0 14 rfl dX7_fails_13 rfl rfl ?_
    refine j_getR 17 rfl dX7_fails_14 lf_X7_19 ly_0 rfl ?_
    refine j_iload_n 1 18 rfl dX7_fails_17 rfl rfl ?_
    refine j_iload_n 2 19 rfl dX7_fails_18 rfl rfl ?_
    refine j_callV (K' := kX5_setFailing) (As := [.int v1, .int v2]) (S := []) dX7_fails_19 ll_X7_117 ok_X5_setFailing ⟨by decide, by decide⟩ ly_7 rfl rfl (Nat.le_of_ble_eq_true rfl) rfl (CT.mono h (fun r G3 hr => ?_))
    obtain ⟨rfl, h⟩ := hr
    show zJ kX7_fails post 22 [(0, .ref 0), (1, .int v1), (2, .int v2)] [] G3
    refine j_aload_n 0 23 rfl dX7_fails_22 rfl rfl ?_
    refine j_iconst (0 : Int32) 24 rfl dX7_fails_23 (by decide) ?_
    refine j_put 27 rfl dX7_fails_24 lp_X7_73 ly_0 rfl rfl rfl ?_
    refine j_iconst (1 : Int32) 28 rfl dX7_fails_27 (by decide) ?_
    exact j_iret dX7_fails_28 rfl rfl h
  · have h := hbf hc
    refine j_iconst (0 : Int32) 12 rfl dX7_fails_11 (by decide) ?_
    exact j_iret dX7_fails_12 rfl rfl h
theorem vX7_told (post : Option Value → GG → Prop) (v1 : Int32) (v2 : Int32) (v3 : Int32) (G : GG) (h : CTi kX7_isWithin [.int v1, .int (1 : Int32), .int (10000 : Int32)] G (fun r2 G1 => (r2 = (0 : Int32) → (post (some (.int (0 : Int32))) G1)) ∧ (¬ r2 = (0 : Int32) → (CTi kX7_isWithin [.int v2, .int (1 : Int32), .int (100000 : Int32)] G1 (fun r4 G3 => (r4 = (0 : Int32) → (post (some (.int (0 : Int32))) G3)) ∧ (¬ r4 = (0 : Int32) → (CTi kX7_isWithin [.int v3, .int (0 : Int32), .int (1000 : Int32)] G3 (fun r6 G5 => (¬ r6 = (0 : Int32) → (post (some (.int (1 : Int32))) (gU (gU (gU (gU G5 13 0 v1) 13 1 v2) 13 2 v3) 0 9 (0 : Int32)))) ∧ (r6 = (0 : Int32) → (post (some (.int (0 : Int32))) G5)))))))))) : CT kX7_told [.ref 0, .int v1, .int v2, .int v3] G post := by
  refine CT.of (by decide) (Nat.le_of_ble_eq_true rfl) ?_
  show zJ kX7_told post 0 [(0, .ref 0), (1, .int v1), (2, .int v2), (3, .int v3)] [] G
  refine j_iload_n 1 1 rfl dX7_told_0 rfl rfl ?_
  refine j_iconst (1 : Int32) 2 rfl dX7_told_1 (by decide) ?_
  refine j_sipush (10000 : Int32) 5 rfl dX7_told_2 (by decide) ?_
  refine j_callS (K' := kX7_isWithin) (As := [.int v1, .int (1 : Int32), .int (10000 : Int32)]) (S := []) dX7_told_5 ll_X7_62 ok_X7_isWithin ⟨by decide, by decide⟩ rfl (Nat.le_of_ble_eq_true rfl) rfl (CT.mono h (fun r G1 hr => ?_))
  obtain ⟨r2, rfl, h⟩ := hr
  show zJ kX7_told post 8 [(0, .ref 0), (1, .int v1), (2, .int v2), (3, .int v3)] [.int r2] G1
  obtain ⟨hbt, hbf⟩ := h
  refine j_if_eq 11 32 rfl (by decide) dX7_told_8 (fun hc => ?_) (fun hc => ?_)
  · have h := hbt hc
    refine j_iconst (0 : Int32) 33 rfl dX7_told_32 (by decide) ?_
    exact j_iret dX7_told_33 rfl rfl h
  · have h := hbf hc
    refine j_iload_n 2 12 rfl dX7_told_11 rfl rfl ?_
    refine j_iconst (1 : Int32) 13 rfl dX7_told_12 (by decide) ?_
    refine j_ldc (100000 : Int32) 15 rfl dX7_told_13 lc_X7_121 ?_
    refine j_callS (K' := kX7_isWithin) (As := [.int v2, .int (1 : Int32), .int (100000 : Int32)]) (S := []) dX7_told_15 ll_X7_62 ok_X7_isWithin ⟨by decide, by decide⟩ rfl (Nat.le_of_ble_eq_true rfl) rfl (CT.mono h (fun r G3 hr => ?_))
    obtain ⟨r4, rfl, h⟩ := hr
    show zJ kX7_told post 18 [(0, .ref 0), (1, .int v1), (2, .int v2), (3, .int v3)] [.int r4] G3
    obtain ⟨hbt, hbf⟩ := h
    refine j_if_eq 21 32 rfl (by decide) dX7_told_18 (fun hc => ?_) (fun hc => ?_)
    · have h := hbt hc
      refine j_iconst (0 : Int32) 33 rfl dX7_told_32 (by decide) ?_
      exact j_iret dX7_told_33 rfl rfl h
    · have h := hbf hc
      refine j_iload_n 3 22 rfl dX7_told_21 rfl rfl ?_
      refine j_iconst (0 : Int32) 23 rfl dX7_told_22 (by decide) ?_
      refine j_sipush (1000 : Int32) 26 rfl dX7_told_23 (by decide) ?_
      refine j_callS (K' := kX7_isWithin) (As := [.int v3, .int (0 : Int32), .int (1000 : Int32)]) (S := []) dX7_told_26 ll_X7_62 ok_X7_isWithin ⟨by decide, by decide⟩ rfl (Nat.le_of_ble_eq_true rfl) rfl (CT.mono h (fun r G5 hr => ?_))
      obtain ⟨r6, rfl, h⟩ := hr
      show zJ kX7_told post 29 [(0, .ref 0), (1, .int v1), (2, .int v2), (3, .int v3)] [.int r6] G5
      obtain ⟨hbt, hbf⟩ := h
      refine j_if_ne 32 34 rfl (by decide) dX7_told_29 (fun hc => ?_) (fun hc => ?_)
      · have h := hbt hc
        refine j_aload_n 0 35 rfl dX7_told_34 rfl rfl ?_
        refine j_getR 38 rfl dX7_told_35 lf_X7_26 ly_0 rfl ?_
        refine j_iload_n 1 39 rfl dX7_told_38 rfl rfl ?_
        refine j_put 42 rfl dX7_told_39 lp_X7_122 ly_13 rfl rfl rfl ?_
        refine j_aload_n 0 43 rfl dX7_told_42 rfl rfl ?_
        refine j_getR 46 rfl dX7_told_43 lf_X7_26 ly_0 rfl ?_
        refine j_iload_n 2 47 rfl dX7_told_46 rfl rfl ?_
        refine j_put 50 rfl dX7_told_47 lp_X7_125 ly_13 rfl rfl rfl ?_
        refine j_aload_n 0 51 rfl dX7_told_50 rfl rfl ?_
        refine j_getR 54 rfl dX7_told_51 lf_X7_26 ly_0 rfl ?_
        refine j_iload_n 3 55 rfl dX7_told_54 rfl rfl ?_
        refine j_put 58 rfl dX7_told_55 lp_X7_128 ly_13 rfl rfl rfl ?_
        refine j_aload_n 0 59 rfl dX7_told_58 rfl rfl ?_
        refine j_iconst (0 : Int32) 60 rfl dX7_told_59 (by decide) ?_
        refine j_put 63 rfl dX7_told_60 lp_X7_73 ly_0 rfl rfl rfl ?_
        refine j_iconst (1 : Int32) 64 rfl dX7_told_63 (by decide) ?_
        exact j_iret dX7_told_64 rfl rfl h
      · have h := hbf hc
        refine j_iconst (0 : Int32) 33 rfl dX7_told_32 (by decide) ?_
        exact j_iret dX7_told_33 rfl rfl h
theorem vX7_lineOf (post : Option Value → GG → Prop) (v1 : Int32) (v2 : Int32) (G : GG) (h : CTi kX3_isLine [.ref 1, .int v1] G (fun r2 G1 => (¬ r2 = (0 : Int32) → ((v2.toInt < 0 ∨ 4 < v2.toInt → (CTi kX7_breakerOf [.ref 0, .int v1, .int v2] G1 (fun r4 G3 => post (some (.int r4)) G3))) ∧ (v2 = (0 : Int32) → ((vp_in v1 30) ∧ (post (some (.int (G1 2 v1.toNatClampNeg))) G1))) ∧ (v2 = (1 : Int32) → ((vp_in v1 30) ∧ (CTi kX5_lastOf [.ref 7, .int (G1 5 v1.toNatClampNeg)] G1 (fun r8 G7 => CTi kX7_lineOrNone [.int r8] G7 (fun r10 G9 => post (some (.int r10)) G9))))) ∧ (v2 = (2 : Int32) → (CTi kX7_nextOf [.ref 0, .int v1] G1 (fun r12 G11 => CTi kX7_lineOrNone [.int r12] G11 (fun r14 G13 => post (some (.int r14)) G13)))) ∧ (v2 = (3 : Int32) → (CTi kX3_currentByLoads [.ref 1, .int v1] G1 (fun r16 G15 => post (some (.int r16)) G15))) ∧ (v2 = (4 : Int32) → (CTi kX5_isThere [.ref 7, .int v1] G1 (fun r18 G17 => (r18 = (0 : Int32) → (post (some (.int (0 : Int32))) G17)) ∧ (¬ r18 = (0 : Int32) → (post (some (.int (1 : Int32))) G17))))))) ∧ (r2 = (0 : Int32) → (post (some (.int (-1 : Int32))) G1)))) : CT kX7_lineOf [.ref 0, .int v1, .int v2] G post := by
  refine CT.of (by decide) (Nat.le_of_ble_eq_true rfl) ?_
  show zJ kX7_lineOf post 0 [(0, .ref 0), (1, .int v1), (2, .int v2)] [] G
  refine j_aload_n 0 1 rfl dX7_lineOf_0 rfl rfl ?_
  refine j_getR 4 rfl dX7_lineOf_1 lf_X7_10 ly_0 rfl ?_
  refine j_iload_n 1 5 rfl dX7_lineOf_4 rfl rfl ?_
  refine j_callV (K' := kX3_isLine) (As := [.int v1]) (S := []) dX7_lineOf_5 ll_X7_100 ok_X3_isLine ⟨by decide, by decide⟩ ly_1 rfl rfl (Nat.le_of_ble_eq_true rfl) rfl (CT.mono h (fun r G1 hr => ?_))
  obtain ⟨r2, rfl, h⟩ := hr
  show zJ kX7_lineOf post 8 [(0, .ref 0), (1, .int v1), (2, .int v2)] [.int r2] G1
  obtain ⟨hbt, hbf⟩ := h
  refine j_if_ne 11 13 rfl (by decide) dX7_lineOf_8 (fun hc => ?_) (fun hc => ?_)
  · have h := hbt hc
    refine j_iload_n 2 14 rfl dX7_lineOf_13 rfl rfl ?_
    obtain ⟨hdf, h⟩ := h
    by_cases hout : v2.toInt < 0 ∨ 4 < v2.toInt
    · have h := hdf hout
      refine j_tabOut 113 dX7_lineOf_14 hout (by decide) ?_
      refine j_aload_n 0 114 rfl dX7_lineOf_113 rfl rfl ?_
      refine j_iload_n 1 115 rfl dX7_lineOf_114 rfl rfl ?_
      refine j_iload_n 2 116 rfl dX7_lineOf_115 rfl rfl ?_
      refine j_callV (K' := kX7_breakerOf) (As := [.int v1, .int v2]) (S := []) dX7_lineOf_116 ll_X7_150 ok_X7_breakerOf ⟨by decide, by decide⟩ ly_0 rfl rfl (Nat.le_of_ble_eq_true rfl) rfl (CT.mono h (fun r G3 hr => ?_))
      obtain ⟨r4, rfl, h⟩ := hr
      show zJ kX7_lineOf post 119 [(0, .ref 0), (1, .int v1), (2, .int v2)] [.int r4] G3
      exact j_iret dX7_lineOf_119 rfl rfl h
    · have hin : v2.toInt = 0 ∨ v2.toInt = 1 ∨ v2.toInt = 2 ∨ v2.toInt = 3 ∨ v2.toInt = 4 := by omega
      obtain ⟨hc0, hc1, hc2, hc3, hc4⟩ := h
      rcases hin with hv | hv | hv | hv | hv
      · have h := hc0 (Int32.toInt_inj.mp (hv.trans (by decide)))
        refine j_tabIn 48 dX7_lineOf_14 hv (by decide) (by decide) rfl (by decide) ?_
        refine j_aload_n 0 49 rfl dX7_lineOf_48 rfl rfl ?_
        refine j_getR 52 rfl dX7_lineOf_49 lf_X7_10 ly_0 rfl ?_
        refine j_getR 55 rfl dX7_lineOf_52 lf_X7_131 ly_1 rfl ?_
        refine j_iload_n 1 56 rfl dX7_lineOf_55 rfl rfl ?_
        obtain ⟨h5, h⟩ := h
        refine j_iald 57 rfl dX7_lineOf_56 ly_2 h5 ?_
        exact j_iret dX7_lineOf_57 rfl rfl h
      · have h := hc1 (Int32.toInt_inj.mp (hv.trans (by decide)))
        refine j_tabIn 58 dX7_lineOf_14 hv (by decide) (by decide) rfl (by decide) ?_
        refine j_aload_n 0 59 rfl dX7_lineOf_58 rfl rfl ?_
        refine j_getR 62 rfl dX7_lineOf_59 lf_X7_19 ly_0 rfl ?_
        refine j_aload_n 0 63 rfl dX7_lineOf_62 rfl rfl ?_
        refine j_getR 66 rfl dX7_lineOf_63 lf_X7_10 ly_0 rfl ?_
        refine j_getR 69 rfl dX7_lineOf_66 lf_X7_134 ly_1 rfl ?_
        refine j_iload_n 1 70 rfl dX7_lineOf_69 rfl rfl ?_
        obtain ⟨h6, h⟩ := h
        refine j_iald 71 rfl dX7_lineOf_70 ly_5 h6 ?_
        refine j_callV (K' := kX5_lastOf) (As := [.int (G1 5 v1.toNatClampNeg)]) (S := []) dX7_lineOf_71 ll_X7_137 ok_X5_lastOf ⟨by decide, by decide⟩ ly_7 rfl rfl (Nat.le_of_ble_eq_true rfl) rfl (CT.mono h (fun r G7 hr => ?_))
        obtain ⟨r8, rfl, h⟩ := hr
        show zJ kX7_lineOf post 74 [(0, .ref 0), (1, .int v1), (2, .int v2)] [.int r8] G7
        refine j_callS (K' := kX7_lineOrNone) (As := [.int r8]) (S := []) dX7_lineOf_74 ll_X7_141 ok_X7_lineOrNone ⟨by decide, by decide⟩ rfl (Nat.le_of_ble_eq_true rfl) rfl (CT.mono h (fun r G9 hr => ?_))
        obtain ⟨r10, rfl, h⟩ := hr
        show zJ kX7_lineOf post 77 [(0, .ref 0), (1, .int v1), (2, .int v2)] [.int r10] G9
        exact j_iret dX7_lineOf_77 rfl rfl h
      · have h := hc2 (Int32.toInt_inj.mp (hv.trans (by decide)))
        refine j_tabIn 78 dX7_lineOf_14 hv (by decide) (by decide) rfl (by decide) ?_
        refine j_aload_n 0 79 rfl dX7_lineOf_78 rfl rfl ?_
        refine j_iload_n 1 80 rfl dX7_lineOf_79 rfl rfl ?_
        refine j_callV (K' := kX7_nextOf) (As := [.int v1]) (S := []) dX7_lineOf_80 ll_X7_144 ok_X7_nextOf ⟨by decide, by decide⟩ ly_0 rfl rfl (Nat.le_of_ble_eq_true rfl) rfl (CT.mono h (fun r G11 hr => ?_))
        obtain ⟨r12, rfl, h⟩ := hr
        show zJ kX7_lineOf post 83 [(0, .ref 0), (1, .int v1), (2, .int v2)] [.int r12] G11
        refine j_callS (K' := kX7_lineOrNone) (As := [.int r12]) (S := []) dX7_lineOf_83 ll_X7_141 ok_X7_lineOrNone ⟨by decide, by decide⟩ rfl (Nat.le_of_ble_eq_true rfl) rfl (CT.mono h (fun r G13 hr => ?_))
        obtain ⟨r14, rfl, h⟩ := hr
        show zJ kX7_lineOf post 86 [(0, .ref 0), (1, .int v1), (2, .int v2)] [.int r14] G13
        exact j_iret dX7_lineOf_86 rfl rfl h
      · have h := hc3 (Int32.toInt_inj.mp (hv.trans (by decide)))
        refine j_tabIn 87 dX7_lineOf_14 hv (by decide) (by decide) rfl (by decide) ?_
        refine j_aload_n 0 88 rfl dX7_lineOf_87 rfl rfl ?_
        refine j_getR 91 rfl dX7_lineOf_88 lf_X7_10 ly_0 rfl ?_
        refine j_iload_n 1 92 rfl dX7_lineOf_91 rfl rfl ?_
        refine j_callV (K' := kX3_currentByLoads) (As := [.int v1]) (S := []) dX7_lineOf_92 ll_X7_147 ok_X3_currentByLoads ⟨by decide, by decide⟩ ly_1 rfl rfl (Nat.le_of_ble_eq_true rfl) rfl (CT.mono h (fun r G15 hr => ?_))
        obtain ⟨r16, rfl, h⟩ := hr
        show zJ kX7_lineOf post 95 [(0, .ref 0), (1, .int v1), (2, .int v2)] [.int r16] G15
        exact j_iret dX7_lineOf_95 rfl rfl h
      · have h := hc4 (Int32.toInt_inj.mp (hv.trans (by decide)))
        refine j_tabIn 96 dX7_lineOf_14 hv (by decide) (by decide) rfl (by decide) ?_
        refine j_aload_n 0 97 rfl dX7_lineOf_96 rfl rfl ?_
        refine j_getR 100 rfl dX7_lineOf_97 lf_X7_19 ly_0 rfl ?_
        refine j_iload_n 1 101 rfl dX7_lineOf_100 rfl rfl ?_
        refine j_callV (K' := kX5_isThere) (As := [.int v1]) (S := []) dX7_lineOf_101 ll_X7_107 ok_X5_isThere ⟨by decide, by decide⟩ ly_7 rfl rfl (Nat.le_of_ble_eq_true rfl) rfl (CT.mono h (fun r G17 hr => ?_))
        obtain ⟨r18, rfl, h⟩ := hr
        show zJ kX7_lineOf post 104 [(0, .ref 0), (1, .int v1), (2, .int v2)] [.int r18] G17
        obtain ⟨hbt, hbf⟩ := h
        refine j_if_eq 107 111 rfl (by decide) dX7_lineOf_104 (fun hc => ?_) (fun hc => ?_)
        · have h := hbt hc
          refine j_iconst (0 : Int32) 112 rfl dX7_lineOf_111 (by decide) ?_
          exact j_iret dX7_lineOf_112 rfl rfl h
        · have h := hbf hc
          refine j_iconst (1 : Int32) 108 rfl dX7_lineOf_107 (by decide) ?_
          refine j_goto 112 (by decide) dX7_lineOf_108 ?_
          exact j_iret dX7_lineOf_112 rfl rfl h
  · have h := hbf hc
    refine j_iconst (-1 : Int32) 12 rfl dX7_lineOf_11 (by decide) ?_
    exact j_iret dX7_lineOf_12 rfl rfl h
theorem vX7_fault (post : Option Value → GG → Prop) (v1 : Int32) (v2 : Int32) (v3 : Int32) (v4 : Int32) (G : GG) (h : CTi kX3_isFault [.ref 1, .int v1, .int v2, .int v3] G (fun r2 G1 => (¬ r2 = (0 : Int32) → (CTl kX3_sumOf [.ref 1, .int v1, .int v2, .int v3] G1 (fun r4 G3 => (¬ v4 = (0 : Int32) → ((¬ v4 = (1 : Int32) → (post (some (.long (-1 : Int64))) G3)) ∧ (v4 = (1 : Int32) → ((r4 ≤ (0 : Int64) → (post (some (.long (-1 : Int64))) G3)) ∧ (¬ r4 ≤ (0 : Int64) → (CTl kX3_sixteenForces [.ref 1] G3 (fun r6 G5 => (¬ r4 = (0 : Int64)) ∧ (post (some (.long (((100 : Int64) * r6) / r4))) G5)))))))) ∧ (v4 = (0 : Int32) → (post (some (.long r4)) G3))))) ∧ (r2 = (0 : Int32) → (post (some (.long (-1 : Int64))) G1)))) : CT kX7_fault [.ref 0, .int v1, .int v2, .int v3, .int v4] G post := by
  refine CT.of (by decide) (Nat.le_of_ble_eq_true rfl) ?_
  show zJ kX7_fault post 0 [(0, .ref 0), (1, .int v1), (2, .int v2), (3, .int v3), (4, .int v4)] [] G
  refine j_aload_n 0 1 rfl dX7_fault_0 rfl rfl ?_
  refine j_getR 4 rfl dX7_fault_1 lf_X7_10 ly_0 rfl ?_
  refine j_iload_n 1 5 rfl dX7_fault_4 rfl rfl ?_
  refine j_iload_n 2 6 rfl dX7_fault_5 rfl rfl ?_
  refine j_iload_n 3 7 rfl dX7_fault_6 rfl rfl ?_
  refine j_callV (K' := kX3_isFault) (As := [.int v1, .int v2, .int v3]) (S := []) dX7_fault_7 ll_X7_153 ok_X3_isFault ⟨by decide, by decide⟩ ly_1 rfl rfl (Nat.le_of_ble_eq_true rfl) rfl (CT.mono h (fun r G1 hr => ?_))
  obtain ⟨r2, rfl, h⟩ := hr
  show zJ kX7_fault post 10 [(0, .ref 0), (1, .int v1), (2, .int v2), (3, .int v3), (4, .int v4)] [.int r2] G1
  obtain ⟨hbt, hbf⟩ := h
  refine j_if_ne 13 17 rfl (by decide) dX7_fault_10 (fun hc => ?_) (fun hc => ?_)
  · have h := hbt hc
    refine j_aload_n 0 18 rfl dX7_fault_17 rfl rfl ?_
    refine j_getR 21 rfl dX7_fault_18 lf_X7_10 ly_0 rfl ?_
    refine j_iload_n 1 22 rfl dX7_fault_21 rfl rfl ?_
    refine j_iload_n 2 23 rfl dX7_fault_22 rfl rfl ?_
    refine j_iload_n 3 24 rfl dX7_fault_23 rfl rfl ?_
    refine j_callV (K' := kX3_sumOf) (As := [.int v1, .int v2, .int v3]) (S := []) dX7_fault_24 ll_X7_158 ok_X3_sumOf ⟨by decide, by decide⟩ ly_1 rfl rfl (Nat.le_of_ble_eq_true rfl) rfl (CT.mono h (fun r G3 hr => ?_))
    obtain ⟨r4, rfl, h⟩ := hr
    show zJ kX7_fault post 27 [(0, .ref 0), (1, .int v1), (2, .int v2), (3, .int v3), (4, .int v4)] [.long r4] G3
    refine j_lstore [(0, .ref 0), (1, .int v1), (2, .int v2), (3, .int v3), (4, .int v4), (5, .long r4)] 29 rfl dX7_fault_27 (by decide) rfl ?_
    refine j_iload 4 31 rfl dX7_fault_29 rfl ?_
    obtain ⟨hbt, hbf⟩ := h
    refine j_if_ne 34 37 rfl (by decide) dX7_fault_31 (fun hc => ?_) (fun hc => ?_)
    · have h := hbt hc
      refine j_iload 4 39 rfl dX7_fault_37 rfl ?_
      refine j_iconst (1 : Int32) 40 rfl dX7_fault_39 (by decide) ?_
      obtain ⟨hbt, hbf⟩ := h
      refine j_icmp_ne 43 65 rfl (by decide) dX7_fault_40 (fun hc => ?_) (fun hc => ?_)
      · have h := hbt hc
        refine j_ldc2_w (-1 : Int64) 68 rfl dX7_fault_65 lc_X7_156 ?_
        exact j_lret dX7_fault_68 rfl h
      · have h := hbf hc
        refine j_lload 5 45 rfl dX7_fault_43 rfl ?_
        refine j_lconst (0 : Int64) 46 rfl dX7_fault_45 (by decide) ?_
        obtain ⟨hbt, hbf⟩ := h
        refine j_lif_le 47 50 65 rfl rfl (by decide) dX7_fault_46 dX7_fault_47 (fun hc => ?_) (fun hc => ?_)
        · have h := hbt hc
          refine j_ldc2_w (-1 : Int64) 68 rfl dX7_fault_65 lc_X7_156 ?_
          exact j_lret dX7_fault_68 rfl h
        · have h := hbf hc
          refine j_ldc2_w (100 : Int64) 53 rfl dX7_fault_50 lc_X7_162 ?_
          refine j_aload_n 0 54 rfl dX7_fault_53 rfl rfl ?_
          refine j_getR 57 rfl dX7_fault_54 lf_X7_10 ly_0 rfl ?_
          refine j_callV (K' := kX3_sixteenForces) (As := []) (S := [.long (100 : Int64)]) dX7_fault_57 ll_X7_164 ok_X3_sixteenForces ⟨by decide, by decide⟩ ly_1 rfl rfl (Nat.le_of_ble_eq_true rfl) rfl (CT.mono h (fun r G5 hr => ?_))
          obtain ⟨r6, rfl, h⟩ := hr
          show zJ kX7_fault post 60 [(0, .ref 0), (1, .int v1), (2, .int v2), (3, .int v3), (4, .int v4), (5, .long r4)] [.long r6, .long (100 : Int64)] G5
          refine j_lmul 61 rfl dX7_fault_60 ?_
          refine j_lload 5 63 rfl dX7_fault_61 rfl ?_
          obtain ⟨h7, h⟩ := h
          refine j_ldiv 64 rfl dX7_fault_63 h7 ?_
          exact j_lret dX7_fault_64 rfl h
    · have h := hbf hc
      refine j_lload 5 36 rfl dX7_fault_34 rfl ?_
      exact j_lret dX7_fault_36 rfl h
  · have h := hbf hc
    refine j_ldc2_w (-1 : Int64) 16 rfl dX7_fault_13 lc_X7_156 ?_
    exact j_lret dX7_fault_16 rfl h
theorem vX7_waits (post : Option Value → GG → Prop) (v1 : Int32) (v2 : Int32) (v3 : Int32) (v4 : Int32) (G : GG) (h : CTi kX3_isFault [.ref 1, .int v2, .int v3, .int v4] G (fun r2 G1 => (r2 = (0 : Int32) → (post (some (.int (-1 : Int32))) G1)) ∧ (¬ r2 = (0 : Int32) → (CTi kX3_isOnWay [.ref 1, .int v1, .int v2] G1 (fun r4 G3 => (¬ r4 = (0 : Int32) → (CTl kX3_sixteenForces [.ref 1] G3 (fun r6 G5 => CTl kX3_sumOf [.ref 1, .int v2, .int v3, .int v4] G5 (fun r8 G7 => CTi kX5_waitAt [.ref 7, .int v1, .long r6, .long r8] G7 (fun r10 G9 => post (some (.int r10)) G9))))) ∧ (r4 = (0 : Int32) → (post (some (.int (-1 : Int32))) G3))))))) : CT kX7_waits [.ref 0, .int v1, .int v2, .int v3, .int v4] G post := by
  refine CT.of (by decide) (Nat.le_of_ble_eq_true rfl) ?_
  show zJ kX7_waits post 0 [(0, .ref 0), (1, .int v1), (2, .int v2), (3, .int v3), (4, .int v4)] [] G
  refine j_aload_n 0 1 rfl dX7_waits_0 rfl rfl ?_
  refine j_getR 4 rfl dX7_waits_1 lf_X7_10 ly_0 rfl ?_
  refine j_iload_n 2 5 rfl dX7_waits_4 rfl rfl ?_
  refine j_iload_n 3 6 rfl dX7_waits_5 rfl rfl ?_
  refine j_iload 4 8 rfl dX7_waits_6 rfl ?_
  refine j_callV (K' := kX3_isFault) (As := [.int v2, .int v3, .int v4]) (S := []) dX7_waits_8 ll_X7_153 ok_X3_isFault ⟨by decide, by decide⟩ ly_1 rfl rfl (Nat.le_of_ble_eq_true rfl) rfl (CT.mono h (fun r G1 hr => ?_))
  obtain ⟨r2, rfl, h⟩ := hr
  show zJ kX7_waits post 11 [(0, .ref 0), (1, .int v1), (2, .int v2), (3, .int v3), (4, .int v4)] [.int r2] G1
  obtain ⟨hbt, hbf⟩ := h
  refine j_if_eq 14 26 rfl (by decide) dX7_waits_11 (fun hc => ?_) (fun hc => ?_)
  · have h := hbt hc
    refine j_iconst (-1 : Int32) 27 rfl dX7_waits_26 (by decide) ?_
    exact j_iret dX7_waits_27 rfl rfl h
  · have h := hbf hc
    refine j_aload_n 0 15 rfl dX7_waits_14 rfl rfl ?_
    refine j_getR 18 rfl dX7_waits_15 lf_X7_10 ly_0 rfl ?_
    refine j_iload_n 1 19 rfl dX7_waits_18 rfl rfl ?_
    refine j_iload_n 2 20 rfl dX7_waits_19 rfl rfl ?_
    refine j_callV (K' := kX3_isOnWay) (As := [.int v1, .int v2]) (S := []) dX7_waits_20 ll_X7_168 ok_X3_isOnWay ⟨by decide, by decide⟩ ly_1 rfl rfl (Nat.le_of_ble_eq_true rfl) rfl (CT.mono h (fun r G3 hr => ?_))
    obtain ⟨r4, rfl, h⟩ := hr
    show zJ kX7_waits post 23 [(0, .ref 0), (1, .int v1), (2, .int v2), (3, .int v3), (4, .int v4)] [.int r4] G3
    obtain ⟨hbt, hbf⟩ := h
    refine j_if_ne 26 28 rfl (by decide) dX7_waits_23 (fun hc => ?_) (fun hc => ?_)
    · have h := hbt hc
      refine j_aload_n 0 29 rfl dX7_waits_28 rfl rfl ?_
      refine j_getR 32 rfl dX7_waits_29 lf_X7_19 ly_0 rfl ?_
      refine j_iload_n 1 33 rfl dX7_waits_32 rfl rfl ?_
      refine j_aload_n 0 34 rfl dX7_waits_33 rfl rfl ?_
      refine j_getR 37 rfl dX7_waits_34 lf_X7_10 ly_0 rfl ?_
      refine j_callV (K' := kX3_sixteenForces) (As := []) (S := [.int v1, .ref 7]) dX7_waits_37 ll_X7_164 ok_X3_sixteenForces ⟨by decide, by decide⟩ ly_1 rfl rfl (Nat.le_of_ble_eq_true rfl) rfl (CT.mono h (fun r G5 hr => ?_))
      obtain ⟨r6, rfl, h⟩ := hr
      show zJ kX7_waits post 40 [(0, .ref 0), (1, .int v1), (2, .int v2), (3, .int v3), (4, .int v4)] [.long r6, .int v1, .ref 7] G5
      refine j_aload_n 0 41 rfl dX7_waits_40 rfl rfl ?_
      refine j_getR 44 rfl dX7_waits_41 lf_X7_10 ly_0 rfl ?_
      refine j_iload_n 2 45 rfl dX7_waits_44 rfl rfl ?_
      refine j_iload_n 3 46 rfl dX7_waits_45 rfl rfl ?_
      refine j_iload 4 48 rfl dX7_waits_46 rfl ?_
      refine j_callV (K' := kX3_sumOf) (As := [.int v2, .int v3, .int v4]) (S := [.long r6, .int v1, .ref 7]) dX7_waits_48 ll_X7_158 ok_X3_sumOf ⟨by decide, by decide⟩ ly_1 rfl rfl (Nat.le_of_ble_eq_true rfl) rfl (CT.mono h (fun r G7 hr => ?_))
      obtain ⟨r8, rfl, h⟩ := hr
      show zJ kX7_waits post 51 [(0, .ref 0), (1, .int v1), (2, .int v2), (3, .int v3), (4, .int v4)] [.long r8, .long r6, .int v1, .ref 7] G7
      refine j_callV (K' := kX5_waitAt) (As := [.int v1, .long r6, .long r8]) (S := []) dX7_waits_51 ll_X7_172 ok_X5_waitAt ⟨by decide, by decide⟩ ly_7 rfl rfl (Nat.le_of_ble_eq_true rfl) rfl (CT.mono h (fun r G9 hr => ?_))
      obtain ⟨r10, rfl, h⟩ := hr
      show zJ kX7_waits post 54 [(0, .ref 0), (1, .int v1), (2, .int v2), (3, .int v3), (4, .int v4)] [.int r10] G9
      exact j_iret dX7_waits_54 rfl rfl h
    · have h := hbf hc
      refine j_iconst (-1 : Int32) 27 rfl dX7_waits_26 (by decide) ?_
      exact j_iret dX7_waits_27 rfl rfl h
theorem vX7_run (post : Option Value → GG → Prop) (v1 : Int32) (v2 : Int32) (v3 : Int32) (G : GG) (h : CTi kX3_isFault [.ref 1, .int v1, .int v2, .int v3] G (fun r2 G1 => (¬ r2 = (0 : Int32) → (CTi kX7_clearTick [.ref 0, .int v1, .int v2, .int v3] G1 (fun r4 G3 => CTi kX7_openersAt [.ref 0, .int v1, .int v2, .int v3, .int r4] G3 (fun r6 G5 => post (some (.int r4)) (gU (gU G5 0 10 r6) 0 9 (1 : Int32)))))) ∧ (r2 = (0 : Int32) → (post (some (.int (-1 : Int32))) G1)))) : CT kX7_run [.ref 0, .int v1, .int v2, .int v3] G post := by
  refine CT.of (by decide) (Nat.le_of_ble_eq_true rfl) ?_
  show zJ kX7_run post 0 [(0, .ref 0), (1, .int v1), (2, .int v2), (3, .int v3)] [] G
  refine j_aload_n 0 1 rfl dX7_run_0 rfl rfl ?_
  refine j_getR 4 rfl dX7_run_1 lf_X7_10 ly_0 rfl ?_
  refine j_iload_n 1 5 rfl dX7_run_4 rfl rfl ?_
  refine j_iload_n 2 6 rfl dX7_run_5 rfl rfl ?_
  refine j_iload_n 3 7 rfl dX7_run_6 rfl rfl ?_
  refine j_callV (K' := kX3_isFault) (As := [.int v1, .int v2, .int v3]) (S := []) dX7_run_7 ll_X7_153 ok_X3_isFault ⟨by decide, by decide⟩ ly_1 rfl rfl (Nat.le_of_ble_eq_true rfl) rfl (CT.mono h (fun r G1 hr => ?_))
  obtain ⟨r2, rfl, h⟩ := hr
  show zJ kX7_run post 10 [(0, .ref 0), (1, .int v1), (2, .int v2), (3, .int v3)] [.int r2] G1
  obtain ⟨hbt, hbf⟩ := h
  refine j_if_ne 13 15 rfl (by decide) dX7_run_10 (fun hc => ?_) (fun hc => ?_)
  · have h := hbt hc
    refine j_aload_n 0 16 rfl dX7_run_15 rfl rfl ?_
    refine j_iload_n 1 17 rfl dX7_run_16 rfl rfl ?_
    refine j_iload_n 2 18 rfl dX7_run_17 rfl rfl ?_
    refine j_iload_n 3 19 rfl dX7_run_18 rfl rfl ?_
    refine j_callV (K' := kX7_clearTick) (As := [.int v1, .int v2, .int v3]) (S := []) dX7_run_19 ll_X7_176 ok_X7_clearTick ⟨by decide, by decide⟩ ly_0 rfl rfl (Nat.le_of_ble_eq_true rfl) rfl (CT.mono h (fun r G3 hr => ?_))
    obtain ⟨r4, rfl, h⟩ := hr
    show zJ kX7_run post 22 [(0, .ref 0), (1, .int v1), (2, .int v2), (3, .int v3)] [.int r4] G3
    refine j_istore [(0, .ref 0), (1, .int v1), (2, .int v2), (3, .int v3), (4, .int r4)] 24 rfl dX7_run_22 (by decide) rfl ?_
    refine j_aload_n 0 25 rfl dX7_run_24 rfl rfl ?_
    refine j_aload_n 0 26 rfl dX7_run_25 rfl rfl ?_
    refine j_iload_n 1 27 rfl dX7_run_26 rfl rfl ?_
    refine j_iload_n 2 28 rfl dX7_run_27 rfl rfl ?_
    refine j_iload_n 3 29 rfl dX7_run_28 rfl rfl ?_
    refine j_iload 4 31 rfl dX7_run_29 rfl ?_
    refine j_callV (K' := kX7_openersAt) (As := [.int v1, .int v2, .int v3, .int r4]) (S := [.ref 0]) dX7_run_31 ll_X7_180 ok_X7_openersAt ⟨by decide, by decide⟩ ly_0 rfl rfl (Nat.le_of_ble_eq_true rfl) rfl (CT.mono h (fun r G5 hr => ?_))
    obtain ⟨r6, rfl, h⟩ := hr
    show zJ kX7_run post 34 [(0, .ref 0), (1, .int v1), (2, .int v2), (3, .int v3), (4, .int r4)] [.int r6, .ref 0] G5
    refine j_put 37 rfl dX7_run_34 lp_X7_184 ly_0 rfl rfl rfl ?_
    refine j_aload_n 0 38 rfl dX7_run_37 rfl rfl ?_
    refine j_iconst (1 : Int32) 39 rfl dX7_run_38 (by decide) ?_
    refine j_put 42 rfl dX7_run_39 lp_X7_73 ly_0 rfl rfl rfl ?_
    refine j_iload 4 44 rfl dX7_run_42 rfl ?_
    exact j_iret dX7_run_44 rfl rfl h
  · have h := hbf hc
    refine j_iconst (-1 : Int32) 14 rfl dX7_run_13 (by decide) ?_
    exact j_iret dX7_run_14 rfl rfl h
theorem vX7_ran (post : Option Value → GG → Prop) (v1 : Int32) (v2 : Int32) (G : GG) (h : (¬ (G 0 9) = (0 : Int32) → ((¬ v2 = (0 : Int32) → (zJ kX7_ran post 33 [(0, .ref 0), (1, .int v1), (2, .int v2)] [] G)) ∧ (v2 = (0 : Int32) → (CTi kX5_isThere [.ref 7, .int v1] G (fun r2 G1 => (r2 = (0 : Int32) → (zJ kX7_ran post 33 [(0, .ref 0), (1, .int v1), (2, .int v2)] [] G1)) ∧ (¬ r2 = (0 : Int32) → (post (some (.int (((G1 0 10) >>> (v1 &&& (31 : Int32))) &&& (1 : Int32)))) G1))))))) ∧ ((G 0 9) = (0 : Int32) → (post (some (.int (-1 : Int32))) G))) : CT kX7_ran [.ref 0, .int v1, .int v2] G post := by
  refine CT.of (by decide) (Nat.le_of_ble_eq_true rfl) ?_
  show zJ kX7_ran post 0 [(0, .ref 0), (1, .int v1), (2, .int v2)] [] G
  refine j_aload_n 0 1 rfl dX7_ran_0 rfl rfl ?_
  refine j_getI 4 rfl dX7_ran_1 lf_X7_73 ly_0 rfl ?_
  obtain ⟨hbt, hbf⟩ := h
  refine j_if_ne 7 9 rfl (by decide) dX7_ran_4 (fun hc => ?_) (fun hc => ?_)
  · have h := hbt hc
    refine j_iload_n 2 10 rfl dX7_ran_9 rfl rfl ?_
    obtain ⟨hbt, hbf⟩ := h
    refine j_if_ne 13 33 rfl (by decide) dX7_ran_10 (fun hc => ?_) (fun hc => ?_)
    · have h := hbt hc
      exact h
    · have h := hbf hc
      refine j_aload_n 0 14 rfl dX7_ran_13 rfl rfl ?_
      refine j_getR 17 rfl dX7_ran_14 lf_X7_19 ly_0 rfl ?_
      refine j_iload_n 1 18 rfl dX7_ran_17 rfl rfl ?_
      refine j_callV (K' := kX5_isThere) (As := [.int v1]) (S := []) dX7_ran_18 ll_X7_107 ok_X5_isThere ⟨by decide, by decide⟩ ly_7 rfl rfl (Nat.le_of_ble_eq_true rfl) rfl (CT.mono h (fun r G1 hr => ?_))
      obtain ⟨r2, rfl, h⟩ := hr
      show zJ kX7_ran post 21 [(0, .ref 0), (1, .int v1), (2, .int v2)] [.int r2] G1
      obtain ⟨hbt, hbf⟩ := h
      refine j_if_eq 24 33 rfl (by decide) dX7_ran_21 (fun hc => ?_) (fun hc => ?_)
      · have h := hbt hc
        exact h
      · have h := hbf hc
        refine j_aload_n 0 25 rfl dX7_ran_24 rfl rfl ?_
        refine j_getI 28 rfl dX7_ran_25 lf_X7_184 ly_0 rfl ?_
        refine j_iload_n 1 29 rfl dX7_ran_28 rfl rfl ?_
        refine j_ishr 30 rfl dX7_ran_29 ?_
        refine j_iconst (1 : Int32) 31 rfl dX7_ran_30 (by decide) ?_
        refine j_iand 32 rfl dX7_ran_31 ?_
        exact j_iret dX7_ran_32 rfl rfl h
  · have h := hbf hc
    refine j_iconst (-1 : Int32) 8 rfl dX7_ran_7 (by decide) ?_
    exact j_iret dX7_ran_8 rfl rfl h
theorem vX7_ran_33 (post : Option Value → GG → Prop) (v1 : Int32) (v2 : Int32) (G : GG) (h : (¬ v2 = (1 : Int32) → (post (some (.int (-1 : Int32))) G)) ∧ (v2 = (1 : Int32) → (CTi kX3_isKnot [.ref 1, .int v1] G (fun r2 G1 => (r2 = (0 : Int32) → (post (some (.int (-1 : Int32))) G1)) ∧ (¬ r2 = (0 : Int32) → ((vp_in v1 30) ∧ ((((G1 5 v1.toNatClampNeg) &&& (G1 0 10)) = (0 : Int32) → (post (some (.int (0 : Int32))) G1)) ∧ (¬ ((G1 5 v1.toNatClampNeg) &&& (G1 0 10)) = (0 : Int32) → (post (some (.int (1 : Int32))) G1))))))))) : zJ kX7_ran post 33 [(0, .ref 0), (1, .int v1), (2, .int v2)] [] G := by
  refine j_iload_n 2 34 rfl dX7_ran_33 rfl rfl ?_
  refine j_iconst (1 : Int32) 35 rfl dX7_ran_34 (by decide) ?_
  obtain ⟨hbt, hbf⟩ := h
  refine j_icmp_ne 38 72 rfl (by decide) dX7_ran_35 (fun hc => ?_) (fun hc => ?_)
  · have h := hbt hc
    refine j_iconst (-1 : Int32) 73 rfl dX7_ran_72 (by decide) ?_
    exact j_iret dX7_ran_73 rfl rfl h
  · have h := hbf hc
    refine j_aload_n 0 39 rfl dX7_ran_38 rfl rfl ?_
    refine j_getR 42 rfl dX7_ran_39 lf_X7_10 ly_0 rfl ?_
    refine j_iload_n 1 43 rfl dX7_ran_42 rfl rfl ?_
    refine j_callV (K' := kX3_isKnot) (As := [.int v1]) (S := []) dX7_ran_43 ll_X7_77 ok_X3_isKnot ⟨by decide, by decide⟩ ly_1 rfl rfl (Nat.le_of_ble_eq_true rfl) rfl (CT.mono h (fun r G1 hr => ?_))
    obtain ⟨r2, rfl, h⟩ := hr
    show zJ kX7_ran post 46 [(0, .ref 0), (1, .int v1), (2, .int v2)] [.int r2] G1
    obtain ⟨hbt, hbf⟩ := h
    refine j_if_eq 49 72 rfl (by decide) dX7_ran_46 (fun hc => ?_) (fun hc => ?_)
    · have h := hbt hc
      refine j_iconst (-1 : Int32) 73 rfl dX7_ran_72 (by decide) ?_
      exact j_iret dX7_ran_73 rfl rfl h
    · have h := hbf hc
      refine j_aload_n 0 50 rfl dX7_ran_49 rfl rfl ?_
      refine j_getR 53 rfl dX7_ran_50 lf_X7_10 ly_0 rfl ?_
      refine j_getR 56 rfl dX7_ran_53 lf_X7_134 ly_1 rfl ?_
      refine j_iload_n 1 57 rfl dX7_ran_56 rfl rfl ?_
      obtain ⟨h3, h⟩ := h
      refine j_iald 58 rfl dX7_ran_57 ly_5 h3 ?_
      refine j_aload_n 0 59 rfl dX7_ran_58 rfl rfl ?_
      refine j_getI 62 rfl dX7_ran_59 lf_X7_184 ly_0 rfl ?_
      refine j_iand 63 rfl dX7_ran_62 ?_
      obtain ⟨hbt, hbf⟩ := h
      refine j_if_eq 66 70 rfl (by decide) dX7_ran_63 (fun hc => ?_) (fun hc => ?_)
      · have h := hbt hc
        refine j_iconst (0 : Int32) 71 rfl dX7_ran_70 (by decide) ?_
        exact j_iret dX7_ran_71 rfl rfl h
      · have h := hbf hc
        refine j_iconst (1 : Int32) 67 rfl dX7_ran_66 (by decide) ?_
        refine j_goto 71 (by decide) dX7_ran_67 ?_
        exact j_iret dX7_ran_71 rfl rfl h
theorem vX7_right (post : Option Value → GG → Prop) (v1 : Int32) (G : GG) (h : CTi kX7_isWithin [.int v1, .int (0 : Int32), .int (3 : Int32)] G (fun r2 G1 => (¬ r2 = (0 : Int32) → (CTv kX2_look [.ref 14] G1 (fun G3 => (v1.toInt < 0 ∨ 2 < v1.toInt → (post (some (.int (G3 14 6))) G3)) ∧ (v1 = (0 : Int32) → (post (some (.int (G3 14 3))) G3)) ∧ (v1 = (1 : Int32) → (post (some (.int (G3 14 4))) G3)) ∧ (v1 = (2 : Int32) → (post (some (.int (G3 14 5))) G3))))) ∧ (r2 = (0 : Int32) → (post (some (.int (-1 : Int32))) G1)))) : CT kX7_right [.ref 0, .int v1] G post := by
  refine CT.of (by decide) (Nat.le_of_ble_eq_true rfl) ?_
  show zJ kX7_right post 0 [(0, .ref 0), (1, .int v1)] [] G
  refine j_iload_n 1 1 rfl dX7_right_0 rfl rfl ?_
  refine j_iconst (0 : Int32) 2 rfl dX7_right_1 (by decide) ?_
  refine j_iconst (3 : Int32) 3 rfl dX7_right_2 (by decide) ?_
  refine j_callS (K' := kX7_isWithin) (As := [.int v1, .int (0 : Int32), .int (3 : Int32)]) (S := []) dX7_right_3 ll_X7_62 ok_X7_isWithin ⟨by decide, by decide⟩ rfl (Nat.le_of_ble_eq_true rfl) rfl (CT.mono h (fun r G1 hr => ?_))
  obtain ⟨r2, rfl, h⟩ := hr
  show zJ kX7_right post 6 [(0, .ref 0), (1, .int v1)] [.int r2] G1
  obtain ⟨hbt, hbf⟩ := h
  refine j_if_ne 9 11 rfl (by decide) dX7_right_6 (fun hc => ?_) (fun hc => ?_)
  · have h := hbt hc
    refine j_aload_n 0 12 rfl dX7_right_11 rfl rfl ?_
    refine j_getR 15 rfl dX7_right_12 lf_X7_35 ly_0 rfl ?_
    refine j_callV (K' := kX2_look) (As := []) (S := []) dX7_right_15 ll_X7_187 ok_X2_look ⟨by decide, by decide⟩ ly_14 rfl rfl (Nat.le_of_ble_eq_true rfl) rfl (CT.mono h (fun r G3 hr => ?_))
    obtain ⟨rfl, h⟩ := hr
    show zJ kX7_right post 18 [(0, .ref 0), (1, .int v1)] [] G3
    refine j_iload_n 1 19 rfl dX7_right_18 rfl rfl ?_
    obtain ⟨hdf, h⟩ := h
    by_cases hout : v1.toInt < 0 ∨ 2 < v1.toInt
    · have h := hdf hout
      refine j_tabOut 68 dX7_right_19 hout (by decide) ?_
      refine j_aload_n 0 69 rfl dX7_right_68 rfl rfl ?_
      refine j_getR 72 rfl dX7_right_69 lf_X7_35 ly_0 rfl ?_
      refine j_getI 75 rfl dX7_right_72 lf_X7_198 ly_14 rfl ?_
      exact j_iret dX7_right_75 rfl rfl h
    · have hin : v1.toInt = 0 ∨ v1.toInt = 1 ∨ v1.toInt = 2 := by omega
      obtain ⟨hc0, hc1, hc2⟩ := h
      rcases hin with hv | hv | hv
      · have h := hc0 (Int32.toInt_inj.mp (hv.trans (by decide)))
        refine j_tabIn 44 dX7_right_19 hv (by decide) (by decide) rfl (by decide) ?_
        refine j_aload_n 0 45 rfl dX7_right_44 rfl rfl ?_
        refine j_getR 48 rfl dX7_right_45 lf_X7_35 ly_0 rfl ?_
        refine j_getI 51 rfl dX7_right_48 lf_X7_190 ly_14 rfl ?_
        exact j_iret dX7_right_51 rfl rfl h
      · have h := hc1 (Int32.toInt_inj.mp (hv.trans (by decide)))
        refine j_tabIn 52 dX7_right_19 hv (by decide) (by decide) rfl (by decide) ?_
        refine j_aload_n 0 53 rfl dX7_right_52 rfl rfl ?_
        refine j_getR 56 rfl dX7_right_53 lf_X7_35 ly_0 rfl ?_
        refine j_getI 59 rfl dX7_right_56 lf_X7_193 ly_14 rfl ?_
        exact j_iret dX7_right_59 rfl rfl h
      · have h := hc2 (Int32.toInt_inj.mp (hv.trans (by decide)))
        refine j_tabIn 60 dX7_right_19 hv (by decide) (by decide) rfl (by decide) ?_
        refine j_aload_n 0 61 rfl dX7_right_60 rfl rfl ?_
        refine j_getR 64 rfl dX7_right_61 lf_X7_35 ly_0 rfl ?_
        refine j_getI 67 rfl dX7_right_64 lf_X7_196 ly_14 rfl ?_
        exact j_iret dX7_right_67 rfl rfl h
  · have h := hbf hc
    refine j_iconst (-1 : Int32) 10 rfl dX7_right_9 (by decide) ?_
    exact j_iret dX7_right_10 rfl rfl h
theorem vX7_fit (post : Option Value → GG → Prop)  (G : GG) (h : CTi kX7_findLeastDials [.ref 0] G (fun r2 G1 => (¬ r2 = (0 : Int32) → (CTv kX2_look [.ref 14] (gA (gA G1 24 (va_cpy (G1 10) (G1 24) (0 : Int32).toNatClampNeg (0 : Int32).toNatClampNeg (30 : Int32).toNatClampNeg)) 10 (va_cpy ((gA G1 24 (va_cpy (G1 10) (G1 24) (0 : Int32).toNatClampNeg (0 : Int32).toNatClampNeg (30 : Int32).toNatClampNeg)) 23) ((gA G1 24 (va_cpy (G1 10) (G1 24) (0 : Int32).toNatClampNeg (0 : Int32).toNatClampNeg (30 : Int32).toNatClampNeg)) 10) (0 : Int32).toNatClampNeg (0 : Int32).toNatClampNeg (30 : Int32).toNatClampNeg)) (fun G3 => ((G3 14 3) = (0 : Int32) → (CTi kX5_sumOfDials [.ref 7] (gU G3 0 9 (0 : Int32)) (fun r5 G4 => post (some (.int r5)) G4))) ∧ (¬ (G3 14 3) = (0 : Int32) → (post (some (.int (-1 : Int32))) (gA G3 10 (va_cpy (G3 24) (G3 10) (0 : Int32).toNatClampNeg (0 : Int32).toNatClampNeg (30 : Int32).toNatClampNeg))))))) ∧ (r2 = (0 : Int32) → (post (some (.int (-1 : Int32))) G1)))) : CT kX7_fit [.ref 0] G post := by
  refine CT.of (by decide) (Nat.le_of_ble_eq_true rfl) ?_
  show zJ kX7_fit post 0 [(0, .ref 0)] [] G
  refine j_aload_n 0 1 rfl dX7_fit_0 rfl rfl ?_
  refine j_callV (K' := kX7_findLeastDials) (As := []) (S := []) dX7_fit_1 ll_X7_201 ok_X7_findLeastDials ⟨by decide, by decide⟩ ly_0 rfl rfl (Nat.le_of_ble_eq_true rfl) rfl (CT.mono h (fun r G1 hr => ?_))
  obtain ⟨r2, rfl, h⟩ := hr
  show zJ kX7_fit post 4 [(0, .ref 0)] [.int r2] G1
  obtain ⟨hbt, hbf⟩ := h
  refine j_if_ne 7 9 rfl (by decide) dX7_fit_4 (fun hc => ?_) (fun hc => ?_)
  · have h := hbt hc
    refine j_aload_n 0 10 rfl dX7_fit_9 rfl rfl ?_
    refine j_getR 13 rfl dX7_fit_10 lf_X7_19 ly_0 rfl ?_
    refine j_getR 16 rfl dX7_fit_13 lf_X7_114 ly_7 rfl ?_
    refine j_iconst (0 : Int32) 17 rfl dX7_fit_16 (by decide) ?_
    refine j_aload_n 0 18 rfl dX7_fit_17 rfl rfl ?_
    refine j_getR 21 rfl dX7_fit_18 lf_X7_59 ly_0 rfl ?_
    refine j_iconst (0 : Int32) 22 rfl dX7_fit_21 (by decide) ?_
    refine j_bipush (30 : Int32) 24 rfl dX7_fit_22 (by decide) ?_
    refine j_copy 27 rfl dX7_fit_24 ll_X7_205 lw_copy ly_10 ly_24 (by decide) (by decide) (by decide) (by decide) (by decide) (by decide) (Nat.le_of_ble_eq_true rfl) ?_
    refine j_aload_n 0 28 rfl dX7_fit_27 rfl rfl ?_
    refine j_getR 31 rfl dX7_fit_28 lf_X7_55 ly_0 rfl ?_
    refine j_iconst (0 : Int32) 32 rfl dX7_fit_31 (by decide) ?_
    refine j_aload_n 0 33 rfl dX7_fit_32 rfl rfl ?_
    refine j_getR 36 rfl dX7_fit_33 lf_X7_19 ly_0 rfl ?_
    refine j_getR 39 rfl dX7_fit_36 lf_X7_114 ly_7 rfl ?_
    refine j_iconst (0 : Int32) 40 rfl dX7_fit_39 (by decide) ?_
    refine j_bipush (30 : Int32) 42 rfl dX7_fit_40 (by decide) ?_
    refine j_copy 45 rfl dX7_fit_42 ll_X7_205 lw_copy ly_23 ly_10 (by decide) (by decide) (by decide) (by decide) (by decide) (by decide) (Nat.le_of_ble_eq_true rfl) ?_
    refine j_aload_n 0 46 rfl dX7_fit_45 rfl rfl ?_
    refine j_getR 49 rfl dX7_fit_46 lf_X7_35 ly_0 rfl ?_
    refine j_callV (K' := kX2_look) (As := []) (S := []) dX7_fit_49 ll_X7_187 ok_X2_look ⟨by decide, by decide⟩ ly_14 rfl rfl (Nat.le_of_ble_eq_true rfl) rfl (CT.mono h (fun r G3 hr => ?_))
    obtain ⟨rfl, h⟩ := hr
    show zJ kX7_fit post 52 [(0, .ref 0)] [] G3
    refine j_aload_n 0 53 rfl dX7_fit_52 rfl rfl ?_
    refine j_getR 56 rfl dX7_fit_53 lf_X7_35 ly_0 rfl ?_
    refine j_getI 59 rfl dX7_fit_56 lf_X7_190 ly_14 rfl ?_
    obtain ⟨hbt, hbf⟩ := h
    refine j_if_eq 62 82 rfl (by decide) dX7_fit_59 (fun hc => ?_) (fun hc => ?_)
    · have h := hbt hc
      refine j_aload_n 0 83 rfl dX7_fit_82 rfl rfl ?_
      refine j_iconst (0 : Int32) 84 rfl dX7_fit_83 (by decide) ?_
      refine j_put 87 rfl dX7_fit_84 lp_X7_73 ly_0 rfl rfl rfl ?_
      refine j_aload_n 0 88 rfl dX7_fit_87 rfl rfl ?_
      refine j_getR 91 rfl dX7_fit_88 lf_X7_19 ly_0 rfl ?_
      refine j_callV (K' := kX5_sumOfDials) (As := []) (S := []) dX7_fit_91 ll_X7_211 ok_X5_sumOfDials ⟨by decide, by decide⟩ ly_7 rfl rfl (Nat.le_of_ble_eq_true rfl) rfl (CT.mono h (fun r G4 hr => ?_))
      obtain ⟨r5, rfl, h⟩ := hr
      show zJ kX7_fit post 94 [(0, .ref 0)] [.int r5] G4
      exact j_iret dX7_fit_94 rfl rfl h
    · have h := hbf hc
      refine j_aload_n 0 63 rfl dX7_fit_62 rfl rfl ?_
      refine j_getR 66 rfl dX7_fit_63 lf_X7_59 ly_0 rfl ?_
      refine j_iconst (0 : Int32) 67 rfl dX7_fit_66 (by decide) ?_
      refine j_aload_n 0 68 rfl dX7_fit_67 rfl rfl ?_
      refine j_getR 71 rfl dX7_fit_68 lf_X7_19 ly_0 rfl ?_
      refine j_getR 74 rfl dX7_fit_71 lf_X7_114 ly_7 rfl ?_
      refine j_iconst (0 : Int32) 75 rfl dX7_fit_74 (by decide) ?_
      refine j_bipush (30 : Int32) 77 rfl dX7_fit_75 (by decide) ?_
      refine j_copy 80 rfl dX7_fit_77 ll_X7_205 lw_copy ly_24 ly_10 (by decide) (by decide) (by decide) (by decide) (by decide) (by decide) (Nat.le_of_ble_eq_true rfl) ?_
      refine j_iconst (-1 : Int32) 81 rfl dX7_fit_80 (by decide) ?_
      exact j_iret dX7_fit_81 rfl rfl h
  · have h := hbf hc
    refine j_iconst (-1 : Int32) 8 rfl dX7_fit_7 (by decide) ?_
    exact j_iret dX7_fit_8 rfl rfl h
theorem vX7_arc (post : Option Value → GG → Prop) (v1 : Int32) (v2 : Int32) (v3 : Int32) (G : GG) (h : CTi kX3_isFault [.ref 1, .int v1, .int v2, .int v3] G (fun r2 G1 => (¬ r2 = (0 : Int32) → (CTl kX7_arcOf [.ref 0, .int v1, .int v2, .int v3] G1 (fun r4 G3 => post (some (.long r4)) G3))) ∧ (r2 = (0 : Int32) → (post (some (.long (-1 : Int64))) G1)))) : CT kX7_arc [.ref 0, .int v1, .int v2, .int v3] G post := by
  refine CT.of (by decide) (Nat.le_of_ble_eq_true rfl) ?_
  show zJ kX7_arc post 0 [(0, .ref 0), (1, .int v1), (2, .int v2), (3, .int v3)] [] G
  refine j_aload_n 0 1 rfl dX7_arc_0 rfl rfl ?_
  refine j_getR 4 rfl dX7_arc_1 lf_X7_10 ly_0 rfl ?_
  refine j_iload_n 1 5 rfl dX7_arc_4 rfl rfl ?_
  refine j_iload_n 2 6 rfl dX7_arc_5 rfl rfl ?_
  refine j_iload_n 3 7 rfl dX7_arc_6 rfl rfl ?_
  refine j_callV (K' := kX3_isFault) (As := [.int v1, .int v2, .int v3]) (S := []) dX7_arc_7 ll_X7_153 ok_X3_isFault ⟨by decide, by decide⟩ ly_1 rfl rfl (Nat.le_of_ble_eq_true rfl) rfl (CT.mono h (fun r G1 hr => ?_))
  obtain ⟨r2, rfl, h⟩ := hr
  show zJ kX7_arc post 10 [(0, .ref 0), (1, .int v1), (2, .int v2), (3, .int v3)] [.int r2] G1
  obtain ⟨hbt, hbf⟩ := h
  refine j_if_ne 13 17 rfl (by decide) dX7_arc_10 (fun hc => ?_) (fun hc => ?_)
  · have h := hbt hc
    refine j_aload_n 0 18 rfl dX7_arc_17 rfl rfl ?_
    refine j_iload_n 1 19 rfl dX7_arc_18 rfl rfl ?_
    refine j_iload_n 2 20 rfl dX7_arc_19 rfl rfl ?_
    refine j_iload_n 3 21 rfl dX7_arc_20 rfl rfl ?_
    refine j_callV (K' := kX7_arcOf) (As := [.int v1, .int v2, .int v3]) (S := []) dX7_arc_21 ll_X7_215 ok_X7_arcOf ⟨by decide, by decide⟩ ly_0 rfl rfl (Nat.le_of_ble_eq_true rfl) rfl (CT.mono h (fun r G3 hr => ?_))
    obtain ⟨r4, rfl, h⟩ := hr
    show zJ kX7_arc post 24 [(0, .ref 0), (1, .int v1), (2, .int v2), (3, .int v3)] [.long r4] G3
    exact j_lret dX7_arc_24 rfl h
  · have h := hbf hc
    refine j_ldc2_w (-1 : Int64) 16 rfl dX7_arc_13 lc_X7_156 ?_
    exact j_lret dX7_arc_16 rfl h
theorem vX7_worst (post : Option Value → GG → Prop)  (G : GG) (h : zJ kX7_worst post 4 [(0, .ref 0), (1, .long (0 : Int64)), (3, .int (1 : Int32))] [] G) : CT kX7_worst [.ref 0] G post := by
  refine CT.of (by decide) (Nat.le_of_ble_eq_true rfl) ?_
  show zJ kX7_worst post 0 [(0, .ref 0)] [] G
  refine j_lconst (0 : Int64) 1 rfl dX7_worst_0 (by decide) ?_
  refine j_lstore_n [(0, .ref 0), (1, .long (0 : Int64))] 2 rfl dX7_worst_1 rfl (by decide) rfl ?_
  refine j_iconst (1 : Int32) 3 rfl dX7_worst_2 (by decide) ?_
  refine j_istore_n [(0, .ref 0), (1, .long (0 : Int64)), (3, .int (1 : Int32))] 4 rfl dX7_worst_3 rfl (by decide) rfl ?_
  exact h
theorem vX7_worst_4 (post : Option Value → GG → Prop) (v1 : Int64) (v3 : Int32) (G : GG) (h : ((G 1 0) ≤ v3 → (post (some (.long v1)) G)) ∧ (¬ (G 1 0) ≤ v3 → (CTl kX7_worstOf [.ref 0, .int v3] G (fun r2 G1 => (¬ r2 = (-1 : Int64) → (zJ kX7_worst post 4 [(0, .ref 0), (1, .long (if r2 < v1 then v1 else r2)), (3, .int (v3 + (1 : Int32)))] [] G1)) ∧ (r2 = (-1 : Int64) → (post (some (.long (-1 : Int64))) G1)))))) : zJ kX7_worst post 4 [(0, .ref 0), (1, .long v1), (3, .int v3)] [] G := by
  refine j_iload_n 2 5 rfl dX7_worst_4 rfl rfl ?_
  refine j_aload_n 0 6 rfl dX7_worst_5 rfl rfl ?_
  refine j_getR 9 rfl dX7_worst_6 lf_X7_10 ly_0 rfl ?_
  refine j_getI 12 rfl dX7_worst_9 lf_X7_81 ly_1 rfl ?_
  obtain ⟨hbt, hbf⟩ := h
  refine j_icmp_ge 15 48 rfl (by decide) dX7_worst_12 (fun hc => ?_) (fun hc => ?_)
  · have h := hbt hc
    refine j_lload_n 1 49 rfl dX7_worst_48 rfl rfl ?_
    exact j_lret dX7_worst_49 rfl h
  · have h := hbf hc
    refine j_aload_n 0 16 rfl dX7_worst_15 rfl rfl ?_
    refine j_iload_n 2 17 rfl dX7_worst_16 rfl rfl ?_
    refine j_callV (K' := kX7_worstOf) (As := [.int v3]) (S := []) dX7_worst_17 ll_X7_218 ok_X7_worstOf ⟨by decide, by decide⟩ ly_0 rfl rfl (Nat.le_of_ble_eq_true rfl) rfl (CT.mono h (fun r G1 hr => ?_))
    obtain ⟨r2, rfl, h⟩ := hr
    show zJ kX7_worst post 20 [(0, .ref 0), (1, .long v1), (3, .int v3)] [.long r2] G1
    refine j_lstore [(0, .ref 0), (1, .long v1), (3, .int v3), (4, .long r2)] 22 rfl dX7_worst_20 (by decide) rfl ?_
    refine j_lload 3 24 rfl dX7_worst_22 rfl ?_
    refine j_ldc2_w (-1 : Int64) 27 rfl dX7_worst_24 lc_X7_156 ?_
    obtain ⟨hbt, hbf⟩ := h
    refine j_lif_ne 28 31 35 rfl rfl (by decide) dX7_worst_27 dX7_worst_28 (fun hc => ?_) (fun hc => ?_)
    · have h := hbt hc
      refine j_lload_n 1 36 rfl dX7_worst_35 rfl rfl ?_
      refine j_lload 3 38 rfl dX7_worst_36 rfl ?_
      refine j_lmax 41 rfl dX7_worst_38 ll_X7_222 lw_lmax (by decide) (Nat.le_of_ble_eq_true rfl) ?_
      refine j_lstore_n [(0, .ref 0), (1, .long (if r2 < v1 then v1 else r2)), (3, .int v3), (4, .long r2)] 42 rfl dX7_worst_41 rfl (by decide) rfl ?_
      refine j_iinc 2 (v3 + (1 : Int32)) [(0, .ref 0), (1, .long (if r2 < v1 then v1 else r2)), (3, .int (v3 + (1 : Int32))), (4, .long r2)] 45 rfl dX7_worst_42 rfl rfl (by decide) rfl ?_
      refine j_goto 4 (by decide) dX7_worst_45 ?_
      refine j_sub [0, 1, 2] rfl ?_
      exact h
    · have h := hbf hc
      refine j_ldc2_w (-1 : Int64) 34 rfl dX7_worst_31 lc_X7_156 ?_
      exact j_lret dX7_worst_34 rfl h
theorem vX7_growth (post : Option Value → GG → Prop)  (G : GG) (h : zJ kX7_growth post 6 [(0, .ref 0), (1, .long (100000 : Int64)), (3, .int (1 : Int32))] [] G) : CT kX7_growth [.ref 0] G post := by
  refine CT.of (by decide) (Nat.le_of_ble_eq_true rfl) ?_
  show zJ kX7_growth post 0 [(0, .ref 0)] [] G
  refine j_ldc2_w (100000 : Int64) 3 rfl dX7_growth_0 lc_X7_228 ?_
  refine j_lstore_n [(0, .ref 0), (1, .long (100000 : Int64))] 4 rfl dX7_growth_3 rfl (by decide) rfl ?_
  refine j_iconst (1 : Int32) 5 rfl dX7_growth_4 (by decide) ?_
  refine j_istore_n [(0, .ref 0), (1, .long (100000 : Int64)), (3, .int (1 : Int32))] 6 rfl dX7_growth_5 rfl (by decide) rfl ?_
  exact h
theorem vX7_growth_6 (post : Option Value → GG → Prop) (v1 : Int64) (v3 : Int32) (G : GG) (h : ((G 1 0) ≤ v3 → (post (some (.int v1.toInt32)) G)) ∧ (¬ (G 1 0) ≤ v3 → (CTl kX7_growthOf [.ref 0, .int v3] G (fun r2 G1 => zJ kX7_growth post 6 [(0, .ref 0), (1, .long (if r2 < v1 then r2 else v1)), (3, .int (v3 + (1 : Int32)))] [] G1)))) : zJ kX7_growth post 6 [(0, .ref 0), (1, .long v1), (3, .int v3)] [] G := by
  refine j_iload_n 2 7 rfl dX7_growth_6 rfl rfl ?_
  refine j_aload_n 0 8 rfl dX7_growth_7 rfl rfl ?_
  refine j_getR 11 rfl dX7_growth_8 lf_X7_10 ly_0 rfl ?_
  refine j_getI 14 rfl dX7_growth_11 lf_X7_81 ly_1 rfl ?_
  obtain ⟨hbt, hbf⟩ := h
  refine j_icmp_ge 17 33 rfl (by decide) dX7_growth_14 (fun hc => ?_) (fun hc => ?_)
  · have h := hbt hc
    refine j_lload_n 1 34 rfl dX7_growth_33 rfl rfl ?_
    refine j_l2i 35 rfl dX7_growth_34 ?_
    exact j_iret dX7_growth_35 rfl rfl h
  · have h := hbf hc
    refine j_lload_n 1 18 rfl dX7_growth_17 rfl rfl ?_
    refine j_aload_n 0 19 rfl dX7_growth_18 rfl rfl ?_
    refine j_iload_n 2 20 rfl dX7_growth_19 rfl rfl ?_
    refine j_callV (K' := kX7_growthOf) (As := [.int v3]) (S := [.long v1]) dX7_growth_20 ll_X7_230 ok_X7_growthOf ⟨by decide, by decide⟩ ly_0 rfl rfl (Nat.le_of_ble_eq_true rfl) rfl (CT.mono h (fun r G1 hr => ?_))
    obtain ⟨r2, rfl, h⟩ := hr
    show zJ kX7_growth post 23 [(0, .ref 0), (1, .long v1), (3, .int v3)] [.long r2, .long v1] G1
    refine j_lmin 26 rfl dX7_growth_23 ll_X7_233 lw_lmin (by decide) (Nat.le_of_ble_eq_true rfl) ?_
    refine j_lstore_n [(0, .ref 0), (1, .long (if r2 < v1 then r2 else v1)), (3, .int v3)] 27 rfl dX7_growth_26 rfl (by decide) rfl ?_
    refine j_iinc 2 (v3 + (1 : Int32)) [(0, .ref 0), (1, .long (if r2 < v1 then r2 else v1)), (3, .int (v3 + (1 : Int32)))] 30 rfl dX7_growth_27 rfl rfl (by decide) rfl ?_
    refine j_goto 6 (by decide) dX7_growth_30 ?_
    exact h
theorem vX7_goal (post : Option Value → GG → Prop)  (G : GG) (h : CTi kX5_keepDialsAsGoal [.ref 7] (gU G 0 8 (1 : Int32)) (fun r2 G1 => post (some (.int r2)) G1)) : CT kX7_goal [.ref 0] G post := by
  refine CT.of (by decide) (Nat.le_of_ble_eq_true rfl) ?_
  show zJ kX7_goal post 0 [(0, .ref 0)] [] G
  refine j_aload_n 0 1 rfl dX7_goal_0 rfl rfl ?_
  refine j_iconst (1 : Int32) 2 rfl dX7_goal_1 (by decide) ?_
  refine j_put 5 rfl dX7_goal_2 lp_X7_236 ly_0 rfl rfl rfl ?_
  refine j_aload_n 0 6 rfl dX7_goal_5 rfl rfl ?_
  refine j_getR 9 rfl dX7_goal_6 lf_X7_19 ly_0 rfl ?_
  refine j_callV (K' := kX5_keepDialsAsGoal) (As := []) (S := []) dX7_goal_9 ll_X7_239 ok_X5_keepDialsAsGoal ⟨by decide, by decide⟩ ly_7 rfl rfl (Nat.le_of_ble_eq_true rfl) rfl (CT.mono h (fun r G1 hr => ?_))
  obtain ⟨r2, rfl, h⟩ := hr
  show zJ kX7_goal post 12 [(0, .ref 0)] [.int r2] G1
  exact j_iret dX7_goal_12 rfl rfl h
theorem vX7_change (post : Option Value → GG → Prop)  (G : GG) (h : ((G 0 8) = (0 : Int32) → (post (some (.int (-1 : Int32))) G)) ∧ (¬ (G 0 8) = (0 : Int32) → (CTi kX4_gatherLines [.ref 18] G (fun r2 G1 => (¬ r2 = (0 : Int32) → (CTv kX2_look [.ref 14] G1 (fun G3 => ((G3 14 3) = (0 : Int32) → (CTv kX1_gather [.ref 15] G3 (fun G4 => CTi kX4_find [.ref 18] G4 (fun r6 G5 => post (some (.int r6)) G5)))) ∧ (¬ (G3 14 3) = (0 : Int32) → (post (some (.int (-1 : Int32))) G3))))) ∧ (r2 = (0 : Int32) → (post (some (.int (-1 : Int32))) G1)))))) : CT kX7_change [.ref 0] G post := by
  refine CT.of (by decide) (Nat.le_of_ble_eq_true rfl) ?_
  show zJ kX7_change post 0 [(0, .ref 0)] [] G
  refine j_aload_n 0 1 rfl dX7_change_0 rfl rfl ?_
  refine j_getI 4 rfl dX7_change_1 lf_X7_236 ly_0 rfl ?_
  obtain ⟨hbt, hbf⟩ := h
  refine j_if_eq 7 17 rfl (by decide) dX7_change_4 (fun hc => ?_) (fun hc => ?_)
  · have h := hbt hc
    refine j_iconst (-1 : Int32) 18 rfl dX7_change_17 (by decide) ?_
    exact j_iret dX7_change_18 rfl rfl h
  · have h := hbf hc
    refine j_aload_n 0 8 rfl dX7_change_7 rfl rfl ?_
    refine j_getR 11 rfl dX7_change_8 lf_X7_51 ly_0 rfl ?_
    refine j_callV (K' := kX4_gatherLines) (As := []) (S := []) dX7_change_11 ll_X7_242 ok_X4_gatherLines ⟨by decide, by decide⟩ ly_18 rfl rfl (Nat.le_of_ble_eq_true rfl) rfl (CT.mono h (fun r G1 hr => ?_))
    obtain ⟨r2, rfl, h⟩ := hr
    show zJ kX7_change post 14 [(0, .ref 0)] [.int r2] G1
    obtain ⟨hbt, hbf⟩ := h
    refine j_if_ne 17 19 rfl (by decide) dX7_change_14 (fun hc => ?_) (fun hc => ?_)
    · have h := hbt hc
      refine j_aload_n 0 20 rfl dX7_change_19 rfl rfl ?_
      refine j_getR 23 rfl dX7_change_20 lf_X7_35 ly_0 rfl ?_
      refine j_callV (K' := kX2_look) (As := []) (S := []) dX7_change_23 ll_X7_187 ok_X2_look ⟨by decide, by decide⟩ ly_14 rfl rfl (Nat.le_of_ble_eq_true rfl) rfl (CT.mono h (fun r G3 hr => ?_))
      obtain ⟨rfl, h⟩ := hr
      show zJ kX7_change post 26 [(0, .ref 0)] [] G3
      refine j_aload_n 0 27 rfl dX7_change_26 rfl rfl ?_
      refine j_getR 30 rfl dX7_change_27 lf_X7_35 ly_0 rfl ?_
      refine j_getI 33 rfl dX7_change_30 lf_X7_190 ly_14 rfl ?_
      obtain ⟨hbt, hbf⟩ := h
      refine j_if_eq 36 38 rfl (by decide) dX7_change_33 (fun hc => ?_) (fun hc => ?_)
      · have h := hbt hc
        refine j_aload_n 0 39 rfl dX7_change_38 rfl rfl ?_
        refine j_getR 42 rfl dX7_change_39 lf_X7_42 ly_0 rfl ?_
        refine j_callV (K' := kX1_gather) (As := []) (S := []) dX7_change_42 ll_X7_245 ok_X1_gather ⟨by decide, by decide⟩ ly_15 rfl rfl (Nat.le_of_ble_eq_true rfl) rfl (CT.mono h (fun r G4 hr => ?_))
        obtain ⟨rfl, h⟩ := hr
        show zJ kX7_change post 45 [(0, .ref 0)] [] G4
        refine j_aload_n 0 46 rfl dX7_change_45 rfl rfl ?_
        refine j_getR 49 rfl dX7_change_46 lf_X7_51 ly_0 rfl ?_
        refine j_callV (K' := kX4_find) (As := []) (S := []) dX7_change_49 ll_X7_248 ok_X4_find ⟨by decide, by decide⟩ ly_18 rfl rfl (Nat.le_of_ble_eq_true rfl) rfl (CT.mono h (fun r G5 hr => ?_))
        obtain ⟨r6, rfl, h⟩ := hr
        show zJ kX7_change post 52 [(0, .ref 0)] [.int r6] G5
        exact j_iret dX7_change_52 rfl rfl h
      · have h := hbf hc
        refine j_iconst (-1 : Int32) 37 rfl dX7_change_36 (by decide) ?_
        exact j_iret dX7_change_37 rfl rfl h
    · have h := hbf hc
      refine j_iconst (-1 : Int32) 18 rfl dX7_change_17 (by decide) ?_
      exact j_iret dX7_change_18 rfl rfl h
theorem vX7_step (post : Option Value → GG → Prop) (v1 : Int32) (G : GG) (h : CTi kX7_isWithin [.int v1, .int (0 : Int32), .int ((G 18 2) - (1 : Int32))] G (fun r2 G1 => (r2 = (0 : Int32) → (post (some (.int (-1 : Int32))) G1)) ∧ (¬ r2 = (0 : Int32) → ((vp_in v1 10) ∧ (post (some (.int (G1 19 v1.toNatClampNeg))) G1))))) : CT kX7_step [.ref 0, .int v1] G post := by
  refine CT.of (by decide) (Nat.le_of_ble_eq_true rfl) ?_
  show zJ kX7_step post 0 [(0, .ref 0), (1, .int v1)] [] G
  refine j_iload_n 1 1 rfl dX7_step_0 rfl rfl ?_
  refine j_iconst (0 : Int32) 2 rfl dX7_step_1 (by decide) ?_
  refine j_aload_n 0 3 rfl dX7_step_2 rfl rfl ?_
  refine j_getR 6 rfl dX7_step_3 lf_X7_51 ly_0 rfl ?_
  refine j_getI 9 rfl dX7_step_6 lf_X7_251 ly_18 rfl ?_
  refine j_iconst (1 : Int32) 10 rfl dX7_step_9 (by decide) ?_
  refine j_isub 11 rfl dX7_step_10 ?_
  refine j_callS (K' := kX7_isWithin) (As := [.int v1, .int (0 : Int32), .int ((G 18 2) - (1 : Int32))]) (S := []) dX7_step_11 ll_X7_62 ok_X7_isWithin ⟨by decide, by decide⟩ rfl (Nat.le_of_ble_eq_true rfl) rfl (CT.mono h (fun r G1 hr => ?_))
  obtain ⟨r2, rfl, h⟩ := hr
  show zJ kX7_step post 14 [(0, .ref 0), (1, .int v1)] [.int r2] G1
  obtain ⟨hbt, hbf⟩ := h
  refine j_if_eq 17 29 rfl (by decide) dX7_step_14 (fun hc => ?_) (fun hc => ?_)
  · have h := hbt hc
    refine j_iconst (-1 : Int32) 30 rfl dX7_step_29 (by decide) ?_
    exact j_iret dX7_step_30 rfl rfl h
  · have h := hbf hc
    refine j_aload_n 0 18 rfl dX7_step_17 rfl rfl ?_
    refine j_getR 21 rfl dX7_step_18 lf_X7_51 ly_0 rfl ?_
    refine j_getR 24 rfl dX7_step_21 lf_X7_254 ly_18 rfl ?_
    refine j_iload_n 1 25 rfl dX7_step_24 rfl rfl ?_
    obtain ⟨h3, h⟩ := h
    refine j_iald 26 rfl dX7_step_25 ly_19 h3 ?_
    refine j_goto 30 (by decide) dX7_step_26 ?_
    exact j_iret dX7_step_30 rfl rfl h
theorem vX7_about (post : Option Value → GG → Prop) (v1 : Int32) (G : GG) (h : (v1.toInt < 0 ∨ 8 < v1.toInt → (post (some (.int (-1 : Int32))) G)) ∧ (v1 = (0 : Int32) → (post (some (.int (G 1 0))) G)) ∧ (v1 = (1 : Int32) → (CTi kJ6_bitCount_0f7a4 [.int (G 7 1)] G (fun r2 G1 => post (some (.int r2)) G1))) ∧ (v1 = (2 : Int32) → (post (some (.int (G 1 1))) G)) ∧ (v1 = (3 : Int32) → (post (some (.int (G 1 2))) G)) ∧ (v1 = (4 : Int32) → (post (some (.int (G 13 0))) G)) ∧ (v1 = (5 : Int32) → (post (some (.int (G 13 1))) G)) ∧ (v1 = (6 : Int32) → (post (some (.int (G 13 2))) G)) ∧ (v1 = (7 : Int32) → (((G 0 8) = (0 : Int32) → (post (some (.int (0 : Int32))) G)) ∧ (¬ (G 0 8) = (0 : Int32) → (post (some (.int (1 : Int32))) G)))) ∧ (v1 = (8 : Int32) → (post (some (.int (G 18 2))) G))) : CT kX7_about [.ref 0, .int v1] G post := by
  refine CT.of (by decide) (Nat.le_of_ble_eq_true rfl) ?_
  show zJ kX7_about post 0 [(0, .ref 0), (1, .int v1)] [] G
  refine j_iload_n 1 1 rfl dX7_about_0 rfl rfl ?_
  obtain ⟨hdf, h⟩ := h
  by_cases hout : v1.toInt < 0 ∨ 8 < v1.toInt
  · have h := hdf hout
    refine j_tabOut 132 dX7_about_1 hout (by decide) ?_
    refine j_iconst (-1 : Int32) 133 rfl dX7_about_132 (by decide) ?_
    exact j_iret dX7_about_133 rfl rfl h
  · have hin : v1.toInt = 0 ∨ v1.toInt = 1 ∨ v1.toInt = 2 ∨ v1.toInt = 3 ∨ v1.toInt = 4 ∨ v1.toInt = 5 ∨ v1.toInt = 6 ∨ v1.toInt = 7 ∨ v1.toInt = 8 := by omega
    obtain ⟨hc0, hc1, hc2, hc3, hc4, hc5, hc6, hc7, hc8⟩ := h
    rcases hin with hv | hv | hv | hv | hv | hv | hv | hv | hv
    · have h := hc0 (Int32.toInt_inj.mp (hv.trans (by decide)))
      refine j_tabIn 52 dX7_about_1 hv (by decide) (by decide) rfl (by decide) ?_
      refine j_aload_n 0 53 rfl dX7_about_52 rfl rfl ?_
      refine j_getR 56 rfl dX7_about_53 lf_X7_10 ly_0 rfl ?_
      refine j_getI 59 rfl dX7_about_56 lf_X7_81 ly_1 rfl ?_
      exact j_iret dX7_about_59 rfl rfl h
    · have h := hc1 (Int32.toInt_inj.mp (hv.trans (by decide)))
      refine j_tabIn 60 dX7_about_1 hv (by decide) (by decide) rfl (by decide) ?_
      refine j_aload_n 0 61 rfl dX7_about_60 rfl rfl ?_
      refine j_getR 64 rfl dX7_about_61 lf_X7_19 ly_0 rfl ?_
      refine j_getI 67 rfl dX7_about_64 lf_X7_257 ly_7 rfl ?_
      refine j_callS (K' := kJ6_bitCount_0f7a4) (As := [.int (G 7 1)]) (S := []) dX7_about_67 ll_X7_260 ok_J6_bitCount_0f7a4 ⟨by decide, by decide⟩ rfl (Nat.le_of_ble_eq_true rfl) rfl (CT.mono h (fun r G1 hr => ?_))
      obtain ⟨r2, rfl, h⟩ := hr
      show zJ kX7_about post 70 [(0, .ref 0), (1, .int v1)] [.int r2] G1
      exact j_iret dX7_about_70 rfl rfl h
    · have h := hc2 (Int32.toInt_inj.mp (hv.trans (by decide)))
      refine j_tabIn 71 dX7_about_1 hv (by decide) (by decide) rfl (by decide) ?_
      refine j_aload_n 0 72 rfl dX7_about_71 rfl rfl ?_
      refine j_getR 75 rfl dX7_about_72 lf_X7_10 ly_0 rfl ?_
      refine j_getI 78 rfl dX7_about_75 lf_X7_66 ly_1 rfl ?_
      exact j_iret dX7_about_78 rfl rfl h
    · have h := hc3 (Int32.toInt_inj.mp (hv.trans (by decide)))
      refine j_tabIn 79 dX7_about_1 hv (by decide) (by decide) rfl (by decide) ?_
      refine j_aload_n 0 80 rfl dX7_about_79 rfl rfl ?_
      refine j_getR 83 rfl dX7_about_80 lf_X7_10 ly_0 rfl ?_
      refine j_getI 86 rfl dX7_about_83 lf_X7_70 ly_1 rfl ?_
      exact j_iret dX7_about_86 rfl rfl h
    · have h := hc4 (Int32.toInt_inj.mp (hv.trans (by decide)))
      refine j_tabIn 87 dX7_about_1 hv (by decide) (by decide) rfl (by decide) ?_
      refine j_aload_n 0 88 rfl dX7_about_87 rfl rfl ?_
      refine j_getR 91 rfl dX7_about_88 lf_X7_26 ly_0 rfl ?_
      refine j_getI 94 rfl dX7_about_91 lf_X7_122 ly_13 rfl ?_
      exact j_iret dX7_about_94 rfl rfl h
    · have h := hc5 (Int32.toInt_inj.mp (hv.trans (by decide)))
      refine j_tabIn 95 dX7_about_1 hv (by decide) (by decide) rfl (by decide) ?_
      refine j_aload_n 0 96 rfl dX7_about_95 rfl rfl ?_
      refine j_getR 99 rfl dX7_about_96 lf_X7_26 ly_0 rfl ?_
      refine j_getI 102 rfl dX7_about_99 lf_X7_125 ly_13 rfl ?_
      exact j_iret dX7_about_102 rfl rfl h
    · have h := hc6 (Int32.toInt_inj.mp (hv.trans (by decide)))
      refine j_tabIn 103 dX7_about_1 hv (by decide) (by decide) rfl (by decide) ?_
      refine j_aload_n 0 104 rfl dX7_about_103 rfl rfl ?_
      refine j_getR 107 rfl dX7_about_104 lf_X7_26 ly_0 rfl ?_
      refine j_getI 110 rfl dX7_about_107 lf_X7_128 ly_13 rfl ?_
      exact j_iret dX7_about_110 rfl rfl h
    · have h := hc7 (Int32.toInt_inj.mp (hv.trans (by decide)))
      refine j_tabIn 111 dX7_about_1 hv (by decide) (by decide) rfl (by decide) ?_
      refine j_aload_n 0 112 rfl dX7_about_111 rfl rfl ?_
      refine j_getI 115 rfl dX7_about_112 lf_X7_236 ly_0 rfl ?_
      obtain ⟨hbt, hbf⟩ := h
      refine j_if_eq 118 122 rfl (by decide) dX7_about_115 (fun hc => ?_) (fun hc => ?_)
      · have h := hbt hc
        refine j_iconst (0 : Int32) 123 rfl dX7_about_122 (by decide) ?_
        exact j_iret dX7_about_123 rfl rfl h
      · have h := hbf hc
        refine j_iconst (1 : Int32) 119 rfl dX7_about_118 (by decide) ?_
        refine j_goto 123 (by decide) dX7_about_119 ?_
        exact j_iret dX7_about_123 rfl rfl h
    · have h := hc8 (Int32.toInt_inj.mp (hv.trans (by decide)))
      refine j_tabIn 124 dX7_about_1 hv (by decide) (by decide) rfl (by decide) ?_
      refine j_aload_n 0 125 rfl dX7_about_124 rfl rfl ?_
      refine j_getR 128 rfl dX7_about_125 lf_X7_51 ly_0 rfl ?_
      refine j_getI 131 rfl dX7_about_128 lf_X7_251 ly_18 rfl ?_
      exact j_iret dX7_about_131 rfl rfl h
theorem vX7_isWithin (post : Option Value → GG → Prop) (v0 : Int32) (v1 : Int32) (v2 : Int32) (G : GG) (h : (v0 < v1 → (post (some (.int (0 : Int32))) G)) ∧ (¬ v0 < v1 → ((v2 < v0 → (post (some (.int (0 : Int32))) G)) ∧ (¬ v2 < v0 → (post (some (.int (1 : Int32))) G))))) : CT kX7_isWithin [.int v0, .int v1, .int v2] G post := by
  refine CT.of (by decide) (Nat.le_of_ble_eq_true rfl) ?_
  show zJ kX7_isWithin post 0 [(0, .int v0), (1, .int v1), (2, .int v2)] [] G
  refine j_iload_n 0 1 rfl dX7_isWithin_0 rfl rfl ?_
  refine j_iload_n 1 2 rfl dX7_isWithin_1 rfl rfl ?_
  obtain ⟨hbt, hbf⟩ := h
  refine j_icmp_lt 5 14 rfl (by decide) dX7_isWithin_2 (fun hc => ?_) (fun hc => ?_)
  · have h := hbt hc
    refine j_iconst (0 : Int32) 15 rfl dX7_isWithin_14 (by decide) ?_
    exact j_iret dX7_isWithin_15 rfl rfl h
  · have h := hbf hc
    refine j_iload_n 0 6 rfl dX7_isWithin_5 rfl rfl ?_
    refine j_iload_n 2 7 rfl dX7_isWithin_6 rfl rfl ?_
    obtain ⟨hbt, hbf⟩ := h
    refine j_icmp_gt 10 14 rfl (by decide) dX7_isWithin_7 (fun hc => ?_) (fun hc => ?_)
    · have h := hbt hc
      refine j_iconst (0 : Int32) 15 rfl dX7_isWithin_14 (by decide) ?_
      exact j_iret dX7_isWithin_15 rfl rfl h
    · have h := hbf hc
      refine j_iconst (1 : Int32) 11 rfl dX7_isWithin_10 (by decide) ?_
      refine j_goto 15 (by decide) dX7_isWithin_11 ?_
      exact j_iret dX7_isWithin_15 rfl rfl h
theorem vX7_lineOrNone (post : Option Value → GG → Prop) (v0 : Int32) (G : GG) (h : (v0 ≤ (0 : Int32) → (post (some (.int (-1 : Int32))) G)) ∧ (¬ v0 ≤ (0 : Int32) → (post (some (.int v0)) G))) : CT kX7_lineOrNone [.int v0] G post := by
  refine CT.of (by decide) (Nat.le_of_ble_eq_true rfl) ?_
  show zJ kX7_lineOrNone post 0 [(0, .int v0)] [] G
  refine j_iload_n 0 1 rfl dX7_lineOrNone_0 rfl rfl ?_
  obtain ⟨hbt, hbf⟩ := h
  refine j_if_le 4 8 rfl (by decide) dX7_lineOrNone_1 (fun hc => ?_) (fun hc => ?_)
  · have h := hbt hc
    refine j_iconst (-1 : Int32) 9 rfl dX7_lineOrNone_8 (by decide) ?_
    exact j_iret dX7_lineOrNone_9 rfl rfl h
  · have h := hbf hc
    refine j_iload_n 0 5 rfl dX7_lineOrNone_4 rfl rfl ?_
    refine j_goto 9 (by decide) dX7_lineOrNone_5 ?_
    exact j_iret dX7_lineOrNone_9 rfl rfl h
theorem vX7_holds (post : Option Value → GG → Prop) (v0 : Int32) (v1 : Int32) (G : GG) (h : (v1 < (0 : Int32) → (post (some (.int (0 : Int32))) G)) ∧ (¬ v1 < (0 : Int32) → (((30 : Int32) ≤ v1 → (post (some (.int (0 : Int32))) G)) ∧ (¬ (30 : Int32) ≤ v1 → ((((v0 >>> (v1 &&& (31 : Int32))) &&& (1 : Int32)) = (0 : Int32) → (post (some (.int (0 : Int32))) G)) ∧ (¬ ((v0 >>> (v1 &&& (31 : Int32))) &&& (1 : Int32)) = (0 : Int32) → (post (some (.int (1 : Int32))) G))))))) : CT kX7_holds [.int v0, .int v1] G post := by
  refine CT.of (by decide) (Nat.le_of_ble_eq_true rfl) ?_
  show zJ kX7_holds post 0 [(0, .int v0), (1, .int v1)] [] G
  refine j_iload_n 1 1 rfl dX7_holds_0 rfl rfl ?_
  obtain ⟨hbt, hbf⟩ := h
  refine j_if_lt 4 22 rfl (by decide) dX7_holds_1 (fun hc => ?_) (fun hc => ?_)
  · have h := hbt hc
    refine j_iconst (0 : Int32) 23 rfl dX7_holds_22 (by decide) ?_
    exact j_iret dX7_holds_23 rfl rfl h
  · have h := hbf hc
    refine j_iload_n 1 5 rfl dX7_holds_4 rfl rfl ?_
    refine j_bipush (30 : Int32) 7 rfl dX7_holds_5 (by decide) ?_
    obtain ⟨hbt, hbf⟩ := h
    refine j_icmp_ge 10 22 rfl (by decide) dX7_holds_7 (fun hc => ?_) (fun hc => ?_)
    · have h := hbt hc
      refine j_iconst (0 : Int32) 23 rfl dX7_holds_22 (by decide) ?_
      exact j_iret dX7_holds_23 rfl rfl h
    · have h := hbf hc
      refine j_iload_n 0 11 rfl dX7_holds_10 rfl rfl ?_
      refine j_iload_n 1 12 rfl dX7_holds_11 rfl rfl ?_
      refine j_ishr 13 rfl dX7_holds_12 ?_
      refine j_iconst (1 : Int32) 14 rfl dX7_holds_13 (by decide) ?_
      refine j_iand 15 rfl dX7_holds_14 ?_
      obtain ⟨hbt, hbf⟩ := h
      refine j_if_eq 18 22 rfl (by decide) dX7_holds_15 (fun hc => ?_) (fun hc => ?_)
      · have h := hbt hc
        refine j_iconst (0 : Int32) 23 rfl dX7_holds_22 (by decide) ?_
        exact j_iret dX7_holds_23 rfl rfl h
      · have h := hbf hc
        refine j_iconst (1 : Int32) 19 rfl dX7_holds_18 (by decide) ?_
        refine j_goto 23 (by decide) dX7_holds_19 ?_
        exact j_iret dX7_holds_23 rfl rfl h
theorem vX7_nextOf (post : Option Value → GG → Prop) (v1 : Int32) (G : GG) (h : (vp_in v1 30) ∧ (CTi kX5_lastOf [.ref 7, .int (G 5 v1.toNatClampNeg)] G (fun r3 G2 => (vp_in r3 30) ∧ (CTi kX5_lastOf [.ref 7, .int ((G2 5 r3.toNatClampNeg) &&& (((1 : Int32) <<< (r3 &&& (31 : Int32))) ^^^ (-1 : Int32)))] G2 (fun r6 G5 => post (some (.int r6)) G5))))) : CT kX7_nextOf [.ref 0, .int v1] G post := by
  refine CT.of (by decide) (Nat.le_of_ble_eq_true rfl) ?_
  show zJ kX7_nextOf post 0 [(0, .ref 0), (1, .int v1)] [] G
  refine j_aload_n 0 1 rfl dX7_nextOf_0 rfl rfl ?_
  refine j_getR 4 rfl dX7_nextOf_1 lf_X7_19 ly_0 rfl ?_
  refine j_aload_n 0 5 rfl dX7_nextOf_4 rfl rfl ?_
  refine j_getR 8 rfl dX7_nextOf_5 lf_X7_10 ly_0 rfl ?_
  refine j_getR 11 rfl dX7_nextOf_8 lf_X7_134 ly_1 rfl ?_
  refine j_iload_n 1 12 rfl dX7_nextOf_11 rfl rfl ?_
  obtain ⟨h1, h⟩ := h
  refine j_iald 13 rfl dX7_nextOf_12 ly_5 h1 ?_
  refine j_callV (K' := kX5_lastOf) (As := [.int (G 5 v1.toNatClampNeg)]) (S := []) dX7_nextOf_13 ll_X7_137 ok_X5_lastOf ⟨by decide, by decide⟩ ly_7 rfl rfl (Nat.le_of_ble_eq_true rfl) rfl (CT.mono h (fun r G2 hr => ?_))
  obtain ⟨r3, rfl, h⟩ := hr
  show zJ kX7_nextOf post 16 [(0, .ref 0), (1, .int v1)] [.int r3] G2
  refine j_istore_n [(0, .ref 0), (1, .int v1), (2, .int r3)] 17 rfl dX7_nextOf_16 rfl (by decide) rfl ?_
  refine j_aload_n 0 18 rfl dX7_nextOf_17 rfl rfl ?_
  refine j_getR 21 rfl dX7_nextOf_18 lf_X7_19 ly_0 rfl ?_
  refine j_aload_n 0 22 rfl dX7_nextOf_21 rfl rfl ?_
  refine j_getR 25 rfl dX7_nextOf_22 lf_X7_10 ly_0 rfl ?_
  refine j_getR 28 rfl dX7_nextOf_25 lf_X7_134 ly_1 rfl ?_
  refine j_iload_n 2 29 rfl dX7_nextOf_28 rfl rfl ?_
  obtain ⟨h4, h⟩ := h
  refine j_iald 30 rfl dX7_nextOf_29 ly_5 h4 ?_
  refine j_iconst (1 : Int32) 31 rfl dX7_nextOf_30 (by decide) ?_
  refine j_iload_n 2 32 rfl dX7_nextOf_31 rfl rfl ?_
  refine j_ishl 33 rfl dX7_nextOf_32 ?_
  refine j_iconst (-1 : Int32) 34 rfl dX7_nextOf_33 (by decide) ?_
  refine j_ixor 35 rfl dX7_nextOf_34 ?_
  refine j_iand 36 rfl dX7_nextOf_35 ?_
  refine j_callV (K' := kX5_lastOf) (As := [.int ((G2 5 r3.toNatClampNeg) &&& (((1 : Int32) <<< (r3 &&& (31 : Int32))) ^^^ (-1 : Int32)))]) (S := []) dX7_nextOf_36 ll_X7_137 ok_X5_lastOf ⟨by decide, by decide⟩ ly_7 rfl rfl (Nat.le_of_ble_eq_true rfl) rfl (CT.mono h (fun r G5 hr => ?_))
  obtain ⟨r6, rfl, h⟩ := hr
  show zJ kX7_nextOf post 39 [(0, .ref 0), (1, .int v1), (2, .int r3)] [.int r6] G5
  exact j_iret dX7_nextOf_39 rfl rfl h
theorem vX7_breakerOf (post : Option Value → GG → Prop) (v1 : Int32) (v2 : Int32) (G : GG) (h : CTi kX5_isThere [.ref 7, .int v1] G (fun r2 G1 => (¬ r2 = (0 : Int32) → ((v2.toInt < 5 ∨ 9 < v2.toInt → (post (some (.int (-1 : Int32))) G1)) ∧ (v2 = (5 : Int32) → ((vp_in v1 30) ∧ (post (some (.int (G1 9 v1.toNatClampNeg))) G1))) ∧ (v2 = (6 : Int32) → ((vp_in v1 30) ∧ (post (some (.int (G1 10 v1.toNatClampNeg))) G1))) ∧ (v2 = (7 : Int32) → ((vp_in v1 30) ∧ (post (some (.int (G1 11 v1.toNatClampNeg))) G1))) ∧ (v2 = (8 : Int32) → (CTi kX7_holds [.int (G1 7 2), .int v1] G1 (fun r7 G6 => (r7 = (0 : Int32) → (post (some (.int (0 : Int32))) G6)) ∧ (¬ r7 = (0 : Int32) → (post (some (.int (1 : Int32))) G6))))) ∧ (v2 = (9 : Int32) → ((vp_in v1 30) ∧ (post (some (.int (G1 12 v1.toNatClampNeg))) G1))))) ∧ (r2 = (0 : Int32) → (post (some (.int (-1 : Int32))) G1)))) : CT kX7_breakerOf [.ref 0, .int v1, .int v2] G post := by
  refine CT.of (by decide) (Nat.le_of_ble_eq_true rfl) ?_
  show zJ kX7_breakerOf post 0 [(0, .ref 0), (1, .int v1), (2, .int v2)] [] G
  refine j_aload_n 0 1 rfl dX7_breakerOf_0 rfl rfl ?_
  refine j_getR 4 rfl dX7_breakerOf_1 lf_X7_19 ly_0 rfl ?_
  refine j_iload_n 1 5 rfl dX7_breakerOf_4 rfl rfl ?_
  refine j_callV (K' := kX5_isThere) (As := [.int v1]) (S := []) dX7_breakerOf_5 ll_X7_107 ok_X5_isThere ⟨by decide, by decide⟩ ly_7 rfl rfl (Nat.le_of_ble_eq_true rfl) rfl (CT.mono h (fun r G1 hr => ?_))
  obtain ⟨r2, rfl, h⟩ := hr
  show zJ kX7_breakerOf post 8 [(0, .ref 0), (1, .int v1), (2, .int v2)] [.int r2] G1
  obtain ⟨hbt, hbf⟩ := h
  refine j_if_ne 11 13 rfl (by decide) dX7_breakerOf_8 (fun hc => ?_) (fun hc => ?_)
  · have h := hbt hc
    refine j_iload_n 2 14 rfl dX7_breakerOf_13 rfl rfl ?_
    obtain ⟨hdf, h⟩ := h
    by_cases hout : v2.toInt < 5 ∨ 9 < v2.toInt
    · have h := hdf hout
      refine j_tabOut 108 dX7_breakerOf_14 hout (by decide) ?_
      refine j_iconst (-1 : Int32) 109 rfl dX7_breakerOf_108 (by decide) ?_
      exact j_iret dX7_breakerOf_109 rfl rfl h
    · have hin : v2.toInt = 5 ∨ v2.toInt = 6 ∨ v2.toInt = 7 ∨ v2.toInt = 8 ∨ v2.toInt = 9 := by omega
      obtain ⟨hc5, hc6, hc7, hc8, hc9⟩ := h
      rcases hin with hv | hv | hv | hv | hv
      · have h := hc5 (Int32.toInt_inj.mp (hv.trans (by decide)))
        refine j_tabIn 48 dX7_breakerOf_14 hv (by decide) (by decide) rfl (by decide) ?_
        refine j_aload_n 0 49 rfl dX7_breakerOf_48 rfl rfl ?_
        refine j_getR 52 rfl dX7_breakerOf_49 lf_X7_19 ly_0 rfl ?_
        refine j_getR 55 rfl dX7_breakerOf_52 lf_X7_265 ly_7 rfl ?_
        refine j_iload_n 1 56 rfl dX7_breakerOf_55 rfl rfl ?_
        obtain ⟨h3, h⟩ := h
        refine j_iald 57 rfl dX7_breakerOf_56 ly_9 h3 ?_
        exact j_iret dX7_breakerOf_57 rfl rfl h
      · have h := hc6 (Int32.toInt_inj.mp (hv.trans (by decide)))
        refine j_tabIn 58 dX7_breakerOf_14 hv (by decide) (by decide) rfl (by decide) ?_
        refine j_aload_n 0 59 rfl dX7_breakerOf_58 rfl rfl ?_
        refine j_getR 62 rfl dX7_breakerOf_59 lf_X7_19 ly_0 rfl ?_
        refine j_getR 65 rfl dX7_breakerOf_62 lf_X7_114 ly_7 rfl ?_
        refine j_iload_n 1 66 rfl dX7_breakerOf_65 rfl rfl ?_
        obtain ⟨h4, h⟩ := h
        refine j_iald 67 rfl dX7_breakerOf_66 ly_10 h4 ?_
        exact j_iret dX7_breakerOf_67 rfl rfl h
      · have h := hc7 (Int32.toInt_inj.mp (hv.trans (by decide)))
        refine j_tabIn 68 dX7_breakerOf_14 hv (by decide) (by decide) rfl (by decide) ?_
        refine j_aload_n 0 69 rfl dX7_breakerOf_68 rfl rfl ?_
        refine j_getR 72 rfl dX7_breakerOf_69 lf_X7_19 ly_0 rfl ?_
        refine j_getR 75 rfl dX7_breakerOf_72 lf_X7_268 ly_7 rfl ?_
        refine j_iload_n 1 76 rfl dX7_breakerOf_75 rfl rfl ?_
        obtain ⟨h5, h⟩ := h
        refine j_iald 77 rfl dX7_breakerOf_76 ly_11 h5 ?_
        exact j_iret dX7_breakerOf_77 rfl rfl h
      · have h := hc8 (Int32.toInt_inj.mp (hv.trans (by decide)))
        refine j_tabIn 78 dX7_breakerOf_14 hv (by decide) (by decide) rfl (by decide) ?_
        refine j_aload_n 0 79 rfl dX7_breakerOf_78 rfl rfl ?_
        refine j_getR 82 rfl dX7_breakerOf_79 lf_X7_19 ly_0 rfl ?_
        refine j_getI 85 rfl dX7_breakerOf_82 lf_X7_271 ly_7 rfl ?_
        refine j_iload_n 1 86 rfl dX7_breakerOf_85 rfl rfl ?_
        refine j_callS (K' := kX7_holds) (As := [.int (G1 7 2), .int v1]) (S := []) dX7_breakerOf_86 ll_X7_274 ok_X7_holds ⟨by decide, by decide⟩ rfl (Nat.le_of_ble_eq_true rfl) rfl (CT.mono h (fun r G6 hr => ?_))
        obtain ⟨r7, rfl, h⟩ := hr
        show zJ kX7_breakerOf post 89 [(0, .ref 0), (1, .int v1), (2, .int v2)] [.int r7] G6
        obtain ⟨hbt, hbf⟩ := h
        refine j_if_eq 92 96 rfl (by decide) dX7_breakerOf_89 (fun hc => ?_) (fun hc => ?_)
        · have h := hbt hc
          refine j_iconst (0 : Int32) 97 rfl dX7_breakerOf_96 (by decide) ?_
          exact j_iret dX7_breakerOf_97 rfl rfl h
        · have h := hbf hc
          refine j_iconst (1 : Int32) 93 rfl dX7_breakerOf_92 (by decide) ?_
          refine j_goto 97 (by decide) dX7_breakerOf_93 ?_
          exact j_iret dX7_breakerOf_97 rfl rfl h
      · have h := hc9 (Int32.toInt_inj.mp (hv.trans (by decide)))
        refine j_tabIn 98 dX7_breakerOf_14 hv (by decide) (by decide) rfl (by decide) ?_
        refine j_aload_n 0 99 rfl dX7_breakerOf_98 rfl rfl ?_
        refine j_getR 102 rfl dX7_breakerOf_99 lf_X7_19 ly_0 rfl ?_
        refine j_getR 105 rfl dX7_breakerOf_102 lf_X7_277 ly_7 rfl ?_
        refine j_iload_n 1 106 rfl dX7_breakerOf_105 rfl rfl ?_
        obtain ⟨h8, h⟩ := h
        refine j_iald 107 rfl dX7_breakerOf_106 ly_12 h8 ?_
        exact j_iret dX7_breakerOf_107 rfl rfl h
  · have h := hbf hc
    refine j_iconst (-1 : Int32) 12 rfl dX7_breakerOf_11 (by decide) ?_
    exact j_iret dX7_breakerOf_12 rfl rfl h
theorem vX7_ableOn (post : Option Value → GG → Prop) (v1 : Int32) (G : GG) (h : (vp_in v1 30) ∧ (post (some (.int (((G 5 v1.toNatClampNeg) &&& (G 7 1)) &&& ((G 7 2) ^^^ (-1 : Int32))))) G)) : CT kX7_ableOn [.ref 0, .int v1] G post := by
  refine CT.of (by decide) (Nat.le_of_ble_eq_true rfl) ?_
  show zJ kX7_ableOn post 0 [(0, .ref 0), (1, .int v1)] [] G
  refine j_aload_n 0 1 rfl dX7_ableOn_0 rfl rfl ?_
  refine j_getR 4 rfl dX7_ableOn_1 lf_X7_10 ly_0 rfl ?_
  refine j_getR 7 rfl dX7_ableOn_4 lf_X7_134 ly_1 rfl ?_
  refine j_iload_n 1 8 rfl dX7_ableOn_7 rfl rfl ?_
  obtain ⟨h1, h⟩ := h
  refine j_iald 9 rfl dX7_ableOn_8 ly_5 h1 ?_
  refine j_aload_n 0 10 rfl dX7_ableOn_9 rfl rfl ?_
  refine j_getR 13 rfl dX7_ableOn_10 lf_X7_19 ly_0 rfl ?_
  refine j_getI 16 rfl dX7_ableOn_13 lf_X7_257 ly_7 rfl ?_
  refine j_iand 17 rfl dX7_ableOn_16 ?_
  refine j_aload_n 0 18 rfl dX7_ableOn_17 rfl rfl ?_
  refine j_getR 21 rfl dX7_ableOn_18 lf_X7_19 ly_0 rfl ?_
  refine j_getI 24 rfl dX7_ableOn_21 lf_X7_271 ly_7 rfl ?_
  refine j_iconst (-1 : Int32) 25 rfl dX7_ableOn_24 (by decide) ?_
  refine j_ixor 26 rfl dX7_ableOn_25 ?_
  refine j_iand 27 rfl dX7_ableOn_26 ?_
  exact j_iret dX7_ableOn_27 rfl rfl h
theorem vX7_clearTick (post : Option Value → GG → Prop) (v1 : Int32) (v2 : Int32) (v3 : Int32) (G : GG) (h : CTi kX7_ableOn [.ref 0, .int v1] G (fun r2 G1 => CTl kX3_sumOf [.ref 1, .int v1, .int v2, .int v3] G1 (fun r4 G3 => zJ kX7_clearTick post 25 [(0, .ref 0), (4, .int r2), (5, .long r4), (7, .int (-1 : Int32)), (8, .int v1)] [] G3))) : CT kX7_clearTick [.ref 0, .int v1, .int v2, .int v3] G post := by
  refine CT.of (by decide) (Nat.le_of_ble_eq_true rfl) ?_
  show zJ kX7_clearTick post 0 [(0, .ref 0), (1, .int v1), (2, .int v2), (3, .int v3)] [] G
  refine j_aload_n 0 1 rfl dX7_clearTick_0 rfl rfl ?_
  refine j_iload_n 1 2 rfl dX7_clearTick_1 rfl rfl ?_
  refine j_callV (K' := kX7_ableOn) (As := [.int v1]) (S := []) dX7_clearTick_2 ll_X7_280 ok_X7_ableOn ⟨by decide, by decide⟩ ly_0 rfl rfl (Nat.le_of_ble_eq_true rfl) rfl (CT.mono h (fun r G1 hr => ?_))
  obtain ⟨r2, rfl, h⟩ := hr
  show zJ kX7_clearTick post 5 [(0, .ref 0), (1, .int v1), (2, .int v2), (3, .int v3)] [.int r2] G1
  refine j_istore [(0, .ref 0), (1, .int v1), (2, .int v2), (3, .int v3), (4, .int r2)] 7 rfl dX7_clearTick_5 (by decide) rfl ?_
  refine j_aload_n 0 8 rfl dX7_clearTick_7 rfl rfl ?_
  refine j_getR 11 rfl dX7_clearTick_8 lf_X7_10 ly_0 rfl ?_
  refine j_iload_n 1 12 rfl dX7_clearTick_11 rfl rfl ?_
  refine j_iload_n 2 13 rfl dX7_clearTick_12 rfl rfl ?_
  refine j_iload_n 3 14 rfl dX7_clearTick_13 rfl rfl ?_
  refine j_callV (K' := kX3_sumOf) (As := [.int v1, .int v2, .int v3]) (S := []) dX7_clearTick_14 ll_X7_158 ok_X3_sumOf ⟨by decide, by decide⟩ ly_1 rfl rfl (Nat.le_of_ble_eq_true rfl) rfl (CT.mono h (fun r G3 hr => ?_))
  obtain ⟨r4, rfl, h⟩ := hr
  show zJ kX7_clearTick post 17 [(0, .ref 0), (1, .int v1), (2, .int v2), (3, .int v3), (4, .int r2)] [.long r4] G3
  refine j_lstore [(0, .ref 0), (1, .int v1), (2, .int v2), (3, .int v3), (4, .int r2), (5, .long r4)] 19 rfl dX7_clearTick_17 (by decide) rfl ?_
  refine j_iconst (-1 : Int32) 20 rfl dX7_clearTick_19 (by decide) ?_
  refine j_istore [(0, .ref 0), (1, .int v1), (2, .int v2), (3, .int v3), (4, .int r2), (5, .long r4), (7, .int (-1 : Int32))] 22 rfl dX7_clearTick_20 (by decide) rfl ?_
  refine j_iload_n 1 23 rfl dX7_clearTick_22 rfl rfl ?_
  refine j_istore [(0, .ref 0), (1, .int v1), (2, .int v2), (3, .int v3), (4, .int r2), (5, .long r4), (7, .int (-1 : Int32)), (8, .int v1)] 25 rfl dX7_clearTick_23 (by decide) rfl ?_
  refine j_sub [0, 4, 5, 6, 7] rfl ?_
  exact h
theorem vX7_clearTick_25 (post : Option Value → GG → Prop) (v4 : Int32) (v5 : Int64) (v7 : Int32) (v8 : Int32) (G : GG) (h : (v8 < (1 : Int32) → (post (some (.int v7)) G)) ∧ (¬ v8 < (1 : Int32) → (CTi kX7_holds [.int v4, .int v8] G (fun r2 G1 => (r2 = (0 : Int32) → (zJ kX7_clearTick post 63 [(0, .ref 0), (4, .int v4), (5, .long v5), (7, .int v7), (8, .int v8)] [.int (-1 : Int32)] G1)) ∧ (¬ r2 = (0 : Int32) → (CTl kX3_sixteenForces [.ref 1] G1 (fun r4 G3 => CTi kX5_waitAt [.ref 7, .int v8, .long r4, .long v5] G3 (fun r6 G5 => zJ kX7_clearTick post 63 [(0, .ref 0), (4, .int v4), (5, .long v5), (7, .int v7), (8, .int v8)] [.int r6] G5)))))))) : zJ kX7_clearTick post 25 [(0, .ref 0), (4, .int v4), (5, .long v5), (7, .int v7), (8, .int v8)] [] G := by
  refine j_iload 4 27 rfl dX7_clearTick_25 rfl ?_
  refine j_iconst (1 : Int32) 28 rfl dX7_clearTick_27 (by decide) ?_
  obtain ⟨hbt, hbf⟩ := h
  refine j_icmp_lt 31 94 rfl (by decide) dX7_clearTick_28 (fun hc => ?_) (fun hc => ?_)
  · have h := hbt hc
    refine j_iload 3 96 rfl dX7_clearTick_94 rfl ?_
    exact j_iret dX7_clearTick_96 rfl rfl h
  · have h := hbf hc
    refine j_iload 1 33 rfl dX7_clearTick_31 rfl ?_
    refine j_iload 4 35 rfl dX7_clearTick_33 rfl ?_
    refine j_callS (K' := kX7_holds) (As := [.int v4, .int v8]) (S := []) dX7_clearTick_35 ll_X7_274 ok_X7_holds ⟨by decide, by decide⟩ rfl (Nat.le_of_ble_eq_true rfl) rfl (CT.mono h (fun r G1 hr => ?_))
    obtain ⟨r2, rfl, h⟩ := hr
    show zJ kX7_clearTick post 38 [(0, .ref 0), (4, .int v4), (5, .long v5), (7, .int v7), (8, .int v8)] [.int r2] G1
    obtain ⟨hbt, hbf⟩ := h
    refine j_if_eq 41 62 rfl (by decide) dX7_clearTick_38 (fun hc => ?_) (fun hc => ?_)
    · have h := hbt hc
      refine j_iconst (-1 : Int32) 63 rfl dX7_clearTick_62 (by decide) ?_
      exact h
    · have h := hbf hc
      refine j_aload_n 0 42 rfl dX7_clearTick_41 rfl rfl ?_
      refine j_getR 45 rfl dX7_clearTick_42 lf_X7_19 ly_0 rfl ?_
      refine j_iload 4 47 rfl dX7_clearTick_45 rfl ?_
      refine j_aload_n 0 48 rfl dX7_clearTick_47 rfl rfl ?_
      refine j_getR 51 rfl dX7_clearTick_48 lf_X7_10 ly_0 rfl ?_
      refine j_callV (K' := kX3_sixteenForces) (As := []) (S := [.int v8, .ref 7]) dX7_clearTick_51 ll_X7_164 ok_X3_sixteenForces ⟨by decide, by decide⟩ ly_1 rfl rfl (Nat.le_of_ble_eq_true rfl) rfl (CT.mono h (fun r G3 hr => ?_))
      obtain ⟨r4, rfl, h⟩ := hr
      show zJ kX7_clearTick post 54 [(0, .ref 0), (4, .int v4), (5, .long v5), (7, .int v7), (8, .int v8)] [.long r4, .int v8, .ref 7] G3
      refine j_lload 2 56 rfl dX7_clearTick_54 rfl ?_
      refine j_callV (K' := kX5_waitAt) (As := [.int v8, .long r4, .long v5]) (S := []) dX7_clearTick_56 ll_X7_172 ok_X5_waitAt ⟨by decide, by decide⟩ ly_7 rfl rfl (Nat.le_of_ble_eq_true rfl) rfl (CT.mono h (fun r G5 hr => ?_))
      obtain ⟨r6, rfl, h⟩ := hr
      show zJ kX7_clearTick post 59 [(0, .ref 0), (4, .int v4), (5, .long v5), (7, .int v7), (8, .int v8)] [.int r6] G5
      refine j_goto 63 (by decide) dX7_clearTick_59 ?_
      exact h
theorem vX7_clearTick_63 (post : Option Value → GG → Prop) (v4 : Int32) (v5 : Int64) (v7 : Int32) (v8 : Int32) (s0 : Int32) (G : GG) (h : (s0 = (-1 : Int32) → (zJ kX7_clearTick post 25 [(0, .ref 0), (4, .int v4), (5, .long v5), (7, .int v7), (8, .int (v8 + (-1 : Int32)))] [] G)) ∧ (¬ s0 = (-1 : Int32) → ((v7 = (-1 : Int32) → (zJ kX7_clearTick post 25 [(0, .ref 0), (4, .int v4), (5, .long v5), (7, .int s0), (8, .int (v8 + (-1 : Int32)))] [] G)) ∧ (¬ v7 = (-1 : Int32) → ((v7 ≤ s0 → (zJ kX7_clearTick post 25 [(0, .ref 0), (4, .int v4), (5, .long v5), (7, .int v7), (8, .int (v8 + (-1 : Int32)))] [] G)) ∧ (¬ v7 ≤ s0 → (zJ kX7_clearTick post 25 [(0, .ref 0), (4, .int v4), (5, .long v5), (7, .int s0), (8, .int (v8 + (-1 : Int32)))] [] G))))))) : zJ kX7_clearTick post 63 [(0, .ref 0), (4, .int v4), (5, .long v5), (7, .int v7), (8, .int v8)] [.int s0] G := by
  refine j_istore [(0, .ref 0), (4, .int v4), (5, .long v5), (7, .int v7), (8, .int v8), (9, .int s0)] 65 rfl dX7_clearTick_63 (by decide) rfl ?_
  refine j_iload 5 67 rfl dX7_clearTick_65 rfl ?_
  refine j_iconst (-1 : Int32) 68 rfl dX7_clearTick_67 (by decide) ?_
  obtain ⟨hbt, hbf⟩ := h
  refine j_icmp_eq 71 88 rfl (by decide) dX7_clearTick_68 (fun hc => ?_) (fun hc => ?_)
  · have h := hbt hc
    refine j_iinc 4 (v8 + (-1 : Int32)) [(0, .ref 0), (4, .int v4), (5, .long v5), (7, .int v7), (8, .int (v8 + (-1 : Int32))), (9, .int s0)] 91 rfl dX7_clearTick_88 rfl rfl (by decide) rfl ?_
    refine j_goto 25 (by decide) dX7_clearTick_91 ?_
    refine j_sub [0, 1, 2, 3, 4] rfl ?_
    exact h
  · have h := hbf hc
    refine j_iload 3 73 rfl dX7_clearTick_71 rfl ?_
    refine j_iconst (-1 : Int32) 74 rfl dX7_clearTick_73 (by decide) ?_
    obtain ⟨hbt, hbf⟩ := h
    refine j_icmp_eq 77 84 rfl (by decide) dX7_clearTick_74 (fun hc => ?_) (fun hc => ?_)
    · have h := hbt hc
      refine j_iload 5 86 rfl dX7_clearTick_84 rfl ?_
      refine j_istore [(0, .ref 0), (4, .int v4), (5, .long v5), (7, .int s0), (8, .int v8), (9, .int s0)] 88 rfl dX7_clearTick_86 (by decide) rfl ?_
      refine j_iinc 4 (v8 + (-1 : Int32)) [(0, .ref 0), (4, .int v4), (5, .long v5), (7, .int s0), (8, .int (v8 + (-1 : Int32))), (9, .int s0)] 91 rfl dX7_clearTick_88 rfl rfl (by decide) rfl ?_
      refine j_goto 25 (by decide) dX7_clearTick_91 ?_
      refine j_sub [0, 1, 2, 3, 4] rfl ?_
      exact h
    · have h := hbf hc
      refine j_iload 5 79 rfl dX7_clearTick_77 rfl ?_
      refine j_iload 3 81 rfl dX7_clearTick_79 rfl ?_
      obtain ⟨hbt, hbf⟩ := h
      refine j_icmp_ge 84 88 rfl (by decide) dX7_clearTick_81 (fun hc => ?_) (fun hc => ?_)
      · have h := hbt hc
        refine j_iinc 4 (v8 + (-1 : Int32)) [(0, .ref 0), (4, .int v4), (5, .long v5), (7, .int v7), (8, .int (v8 + (-1 : Int32))), (9, .int s0)] 91 rfl dX7_clearTick_88 rfl rfl (by decide) rfl ?_
        refine j_goto 25 (by decide) dX7_clearTick_91 ?_
        refine j_sub [0, 1, 2, 3, 4] rfl ?_
        exact h
      · have h := hbf hc
        refine j_iload 5 86 rfl dX7_clearTick_84 rfl ?_
        refine j_istore [(0, .ref 0), (4, .int v4), (5, .long v5), (7, .int s0), (8, .int v8), (9, .int s0)] 88 rfl dX7_clearTick_86 (by decide) rfl ?_
        refine j_iinc 4 (v8 + (-1 : Int32)) [(0, .ref 0), (4, .int v4), (5, .long v5), (7, .int s0), (8, .int (v8 + (-1 : Int32))), (9, .int s0)] 91 rfl dX7_clearTick_88 rfl rfl (by decide) rfl ?_
        refine j_goto 25 (by decide) dX7_clearTick_91 ?_
        refine j_sub [0, 1, 2, 3, 4] rfl ?_
        exact h
theorem vX7_openersAt (post : Option Value → GG → Prop) (v1 : Int32) (v2 : Int32) (v3 : Int32) (v4 : Int32) (G : GG) (h : (¬ v4 = (-1 : Int32) → (CTi kX7_ableOn [.ref 0, .int v1] G (fun r2 G1 => CTl kX3_sumOf [.ref 1, .int v1, .int v2, .int v3] G1 (fun r4 G3 => zJ kX7_openersAt post 33 [(0, .ref 0), (4, .int v4), (5, .int r2), (6, .long r4), (8, .int (0 : Int32)), (9, .int v1)] [] G3)))) ∧ (v4 = (-1 : Int32) → (post (some (.int (0 : Int32))) G))) : CT kX7_openersAt [.ref 0, .int v1, .int v2, .int v3, .int v4] G post := by
  refine CT.of (by decide) (Nat.le_of_ble_eq_true rfl) ?_
  show zJ kX7_openersAt post 0 [(0, .ref 0), (1, .int v1), (2, .int v2), (3, .int v3), (4, .int v4)] [] G
  refine j_iload 4 2 rfl dX7_openersAt_0 rfl ?_
  refine j_iconst (-1 : Int32) 3 rfl dX7_openersAt_2 (by decide) ?_
  obtain ⟨hbt, hbf⟩ := h
  refine j_icmp_ne 6 8 rfl (by decide) dX7_openersAt_3 (fun hc => ?_) (fun hc => ?_)
  · have h := hbt hc
    refine j_aload_n 0 9 rfl dX7_openersAt_8 rfl rfl ?_
    refine j_iload_n 1 10 rfl dX7_openersAt_9 rfl rfl ?_
    refine j_callV (K' := kX7_ableOn) (As := [.int v1]) (S := []) dX7_openersAt_10 ll_X7_280 ok_X7_ableOn ⟨by decide, by decide⟩ ly_0 rfl rfl (Nat.le_of_ble_eq_true rfl) rfl (CT.mono h (fun r G1 hr => ?_))
    obtain ⟨r2, rfl, h⟩ := hr
    show zJ kX7_openersAt post 13 [(0, .ref 0), (1, .int v1), (2, .int v2), (3, .int v3), (4, .int v4)] [.int r2] G1
    refine j_istore [(0, .ref 0), (1, .int v1), (2, .int v2), (3, .int v3), (4, .int v4), (5, .int r2)] 15 rfl dX7_openersAt_13 (by decide) rfl ?_
    refine j_aload_n 0 16 rfl dX7_openersAt_15 rfl rfl ?_
    refine j_getR 19 rfl dX7_openersAt_16 lf_X7_10 ly_0 rfl ?_
    refine j_iload_n 1 20 rfl dX7_openersAt_19 rfl rfl ?_
    refine j_iload_n 2 21 rfl dX7_openersAt_20 rfl rfl ?_
    refine j_iload_n 3 22 rfl dX7_openersAt_21 rfl rfl ?_
    refine j_callV (K' := kX3_sumOf) (As := [.int v1, .int v2, .int v3]) (S := []) dX7_openersAt_22 ll_X7_158 ok_X3_sumOf ⟨by decide, by decide⟩ ly_1 rfl rfl (Nat.le_of_ble_eq_true rfl) rfl (CT.mono h (fun r G3 hr => ?_))
    obtain ⟨r4, rfl, h⟩ := hr
    show zJ kX7_openersAt post 25 [(0, .ref 0), (1, .int v1), (2, .int v2), (3, .int v3), (4, .int v4), (5, .int r2)] [.long r4] G3
    refine j_lstore [(0, .ref 0), (1, .int v1), (2, .int v2), (3, .int v3), (4, .int v4), (5, .int r2), (6, .long r4)] 27 rfl dX7_openersAt_25 (by decide) rfl ?_
    refine j_iconst (0 : Int32) 28 rfl dX7_openersAt_27 (by decide) ?_
    refine j_istore [(0, .ref 0), (1, .int v1), (2, .int v2), (3, .int v3), (4, .int v4), (5, .int r2), (6, .long r4), (8, .int (0 : Int32))] 30 rfl dX7_openersAt_28 (by decide) rfl ?_
    refine j_iload_n 1 31 rfl dX7_openersAt_30 rfl rfl ?_
    refine j_istore [(0, .ref 0), (1, .int v1), (2, .int v2), (3, .int v3), (4, .int v4), (5, .int r2), (6, .long r4), (8, .int (0 : Int32)), (9, .int v1)] 33 rfl dX7_openersAt_31 (by decide) rfl ?_
    refine j_sub [0, 4, 5, 6, 7, 8] rfl ?_
    exact h
  · have h := hbf hc
    refine j_iconst (0 : Int32) 7 rfl dX7_openersAt_6 (by decide) ?_
    exact j_iret dX7_openersAt_7 rfl rfl h
theorem vX7_openersAt_33 (post : Option Value → GG → Prop) (v4 : Int32) (v5 : Int32) (v6 : Int64) (v8 : Int32) (v9 : Int32) (G : GG) (h : (v9 < (1 : Int32) → (post (some (.int v8)) G)) ∧ (¬ v9 < (1 : Int32) → (CTi kX7_holds [.int v5, .int v9] G (fun r2 G1 => (r2 = (0 : Int32) → (zJ kX7_openersAt post 33 [(0, .ref 0), (4, .int v4), (5, .int v5), (6, .long v6), (8, .int v8), (9, .int (v9 + (-1 : Int32)))] [] G1)) ∧ (¬ r2 = (0 : Int32) → (CTl kX3_sixteenForces [.ref 1] G1 (fun r4 G3 => CTi kX5_waitAt [.ref 7, .int v9, .long r4, .long v6] G3 (fun r6 G5 => (¬ r6 = v4 → (zJ kX7_openersAt post 33 [(0, .ref 0), (4, .int v4), (5, .int v5), (6, .long v6), (8, .int v8), (9, .int (v9 + (-1 : Int32)))] [] G5)) ∧ (r6 = v4 → (zJ kX7_openersAt post 33 [(0, .ref 0), (4, .int v4), (5, .int v5), (6, .long v6), (8, .int (v8 ||| ((1 : Int32) <<< (v9 &&& (31 : Int32))))), (9, .int (v9 + (-1 : Int32)))] [] G5)))))))))) : zJ kX7_openersAt post 33 [(0, .ref 0), (4, .int v4), (5, .int v5), (6, .long v6), (8, .int v8), (9, .int v9)] [] G := by
  refine j_iload 5 35 rfl dX7_openersAt_33 rfl ?_
  refine j_iconst (1 : Int32) 36 rfl dX7_openersAt_35 (by decide) ?_
  obtain ⟨hbt, hbf⟩ := h
  refine j_icmp_lt 39 87 rfl (by decide) dX7_openersAt_36 (fun hc => ?_) (fun hc => ?_)
  · have h := hbt hc
    refine j_iload 4 89 rfl dX7_openersAt_87 rfl ?_
    exact j_iret dX7_openersAt_89 rfl rfl h
  · have h := hbf hc
    refine j_iload 2 41 rfl dX7_openersAt_39 rfl ?_
    refine j_iload 5 43 rfl dX7_openersAt_41 rfl ?_
    refine j_callS (K' := kX7_holds) (As := [.int v5, .int v9]) (S := []) dX7_openersAt_43 ll_X7_274 ok_X7_holds ⟨by decide, by decide⟩ rfl (Nat.le_of_ble_eq_true rfl) rfl (CT.mono h (fun r G1 hr => ?_))
    obtain ⟨r2, rfl, h⟩ := hr
    show zJ kX7_openersAt post 46 [(0, .ref 0), (4, .int v4), (5, .int v5), (6, .long v6), (8, .int v8), (9, .int v9)] [.int r2] G1
    obtain ⟨hbt, hbf⟩ := h
    refine j_if_eq 49 81 rfl (by decide) dX7_openersAt_46 (fun hc => ?_) (fun hc => ?_)
    · have h := hbt hc
      refine j_iinc 5 (v9 + (-1 : Int32)) [(0, .ref 0), (4, .int v4), (5, .int v5), (6, .long v6), (8, .int v8), (9, .int (v9 + (-1 : Int32)))] 84 rfl dX7_openersAt_81 rfl rfl (by decide) rfl ?_
      refine j_goto 33 (by decide) dX7_openersAt_84 ?_
      exact h
    · have h := hbf hc
      refine j_aload_n 0 50 rfl dX7_openersAt_49 rfl rfl ?_
      refine j_getR 53 rfl dX7_openersAt_50 lf_X7_19 ly_0 rfl ?_
      refine j_iload 5 55 rfl dX7_openersAt_53 rfl ?_
      refine j_aload_n 0 56 rfl dX7_openersAt_55 rfl rfl ?_
      refine j_getR 59 rfl dX7_openersAt_56 lf_X7_10 ly_0 rfl ?_
      refine j_callV (K' := kX3_sixteenForces) (As := []) (S := [.int v9, .ref 7]) dX7_openersAt_59 ll_X7_164 ok_X3_sixteenForces ⟨by decide, by decide⟩ ly_1 rfl rfl (Nat.le_of_ble_eq_true rfl) rfl (CT.mono h (fun r G3 hr => ?_))
      obtain ⟨r4, rfl, h⟩ := hr
      show zJ kX7_openersAt post 62 [(0, .ref 0), (4, .int v4), (5, .int v5), (6, .long v6), (8, .int v8), (9, .int v9)] [.long r4, .int v9, .ref 7] G3
      refine j_lload 3 64 rfl dX7_openersAt_62 rfl ?_
      refine j_callV (K' := kX5_waitAt) (As := [.int v9, .long r4, .long v6]) (S := []) dX7_openersAt_64 ll_X7_172 ok_X5_waitAt ⟨by decide, by decide⟩ ly_7 rfl rfl (Nat.le_of_ble_eq_true rfl) rfl (CT.mono h (fun r G5 hr => ?_))
      obtain ⟨r6, rfl, h⟩ := hr
      show zJ kX7_openersAt post 67 [(0, .ref 0), (4, .int v4), (5, .int v5), (6, .long v6), (8, .int v8), (9, .int v9)] [.int r6] G5
      refine j_iload 1 69 rfl dX7_openersAt_67 rfl ?_
      obtain ⟨hbt, hbf⟩ := h
      refine j_icmp_ne 72 81 rfl (by decide) dX7_openersAt_69 (fun hc => ?_) (fun hc => ?_)
      · have h := hbt hc
        refine j_iinc 5 (v9 + (-1 : Int32)) [(0, .ref 0), (4, .int v4), (5, .int v5), (6, .long v6), (8, .int v8), (9, .int (v9 + (-1 : Int32)))] 84 rfl dX7_openersAt_81 rfl rfl (by decide) rfl ?_
        refine j_goto 33 (by decide) dX7_openersAt_84 ?_
        exact h
      · have h := hbf hc
        refine j_iload 4 74 rfl dX7_openersAt_72 rfl ?_
        refine j_iconst (1 : Int32) 75 rfl dX7_openersAt_74 (by decide) ?_
        refine j_iload 5 77 rfl dX7_openersAt_75 rfl ?_
        refine j_ishl 78 rfl dX7_openersAt_77 ?_
        refine j_ior 79 rfl dX7_openersAt_78 ?_
        refine j_istore [(0, .ref 0), (4, .int v4), (5, .int v5), (6, .long v6), (8, .int (v8 ||| ((1 : Int32) <<< (v9 &&& (31 : Int32))))), (9, .int v9)] 81 rfl dX7_openersAt_79 (by decide) rfl ?_
        refine j_iinc 5 (v9 + (-1 : Int32)) [(0, .ref 0), (4, .int v4), (5, .int v5), (6, .long v6), (8, .int (v8 ||| ((1 : Int32) <<< (v9 &&& (31 : Int32))))), (9, .int (v9 + (-1 : Int32)))] 84 rfl dX7_openersAt_81 rfl rfl (by decide) rfl ?_
        refine j_goto 33 (by decide) dX7_openersAt_84 ?_
        exact h
theorem vX7_arcOf (post : Option Value → GG → Prop) (v1 : Int32) (v2 : Int32) (v3 : Int32) (G : GG) (h : CTi kX7_clearTick [.ref 0, .int v1, .int v2, .int v3] G (fun r2 G1 => CTl kX3_sumOf [.ref 1, .int v1, .int v2, .int v3] G1 (fun r4 G3 => (r2 = (-1 : Int32) → (post (some (.long (-1 : Int64))) G3)) ∧ (¬ r2 = (-1 : Int32) → (((1 : Int64) ≤ r4 → (CTl kX3_sixteenForces [.ref 1] G3 (fun r6 G5 => (¬ (r4 * r4) = (0 : Int64)) ∧ (post (some (.long (((r6 * r6) * r2.toInt64) / (r4 * r4)))) G5)))) ∧ (¬ (1 : Int64) ≤ r4 → (post (some (.long (-1 : Int64))) G3))))))) : CT kX7_arcOf [.ref 0, .int v1, .int v2, .int v3] G post := by
  refine CT.of (by decide) (Nat.le_of_ble_eq_true rfl) ?_
  show zJ kX7_arcOf post 0 [(0, .ref 0), (1, .int v1), (2, .int v2), (3, .int v3)] [] G
  refine j_aload_n 0 1 rfl dX7_arcOf_0 rfl rfl ?_
  refine j_iload_n 1 2 rfl dX7_arcOf_1 rfl rfl ?_
  refine j_iload_n 2 3 rfl dX7_arcOf_2 rfl rfl ?_
  refine j_iload_n 3 4 rfl dX7_arcOf_3 rfl rfl ?_
  refine j_callV (K' := kX7_clearTick) (As := [.int v1, .int v2, .int v3]) (S := []) dX7_arcOf_4 ll_X7_176 ok_X7_clearTick ⟨by decide, by decide⟩ ly_0 rfl rfl (Nat.le_of_ble_eq_true rfl) rfl (CT.mono h (fun r G1 hr => ?_))
  obtain ⟨r2, rfl, h⟩ := hr
  show zJ kX7_arcOf post 7 [(0, .ref 0), (1, .int v1), (2, .int v2), (3, .int v3)] [.int r2] G1
  refine j_istore [(0, .ref 0), (1, .int v1), (2, .int v2), (3, .int v3), (4, .int r2)] 9 rfl dX7_arcOf_7 (by decide) rfl ?_
  refine j_aload_n 0 10 rfl dX7_arcOf_9 rfl rfl ?_
  refine j_getR 13 rfl dX7_arcOf_10 lf_X7_10 ly_0 rfl ?_
  refine j_iload_n 1 14 rfl dX7_arcOf_13 rfl rfl ?_
  refine j_iload_n 2 15 rfl dX7_arcOf_14 rfl rfl ?_
  refine j_iload_n 3 16 rfl dX7_arcOf_15 rfl rfl ?_
  refine j_callV (K' := kX3_sumOf) (As := [.int v1, .int v2, .int v3]) (S := []) dX7_arcOf_16 ll_X7_158 ok_X3_sumOf ⟨by decide, by decide⟩ ly_1 rfl rfl (Nat.le_of_ble_eq_true rfl) rfl (CT.mono h (fun r G3 hr => ?_))
  obtain ⟨r4, rfl, h⟩ := hr
  show zJ kX7_arcOf post 19 [(0, .ref 0), (1, .int v1), (2, .int v2), (3, .int v3), (4, .int r2)] [.long r4] G3
  refine j_lstore [(0, .ref 0), (1, .int v1), (2, .int v2), (3, .int v3), (4, .int r2), (5, .long r4)] 21 rfl dX7_arcOf_19 (by decide) rfl ?_
  refine j_iload 4 23 rfl dX7_arcOf_21 rfl ?_
  refine j_iconst (-1 : Int32) 24 rfl dX7_arcOf_23 (by decide) ?_
  obtain ⟨hbt, hbf⟩ := h
  refine j_icmp_eq 27 34 rfl (by decide) dX7_arcOf_24 (fun hc => ?_) (fun hc => ?_)
  · have h := hbt hc
    refine j_ldc2_w (-1 : Int64) 37 rfl dX7_arcOf_34 lc_X7_156 ?_
    exact j_lret dX7_arcOf_37 rfl h
  · have h := hbf hc
    refine j_lload 5 29 rfl dX7_arcOf_27 rfl ?_
    refine j_lconst (1 : Int64) 30 rfl dX7_arcOf_29 (by decide) ?_
    obtain ⟨hbt, hbf⟩ := h
    refine j_lif_ge 31 34 38 rfl rfl (by decide) dX7_arcOf_30 dX7_arcOf_31 (fun hc => ?_) (fun hc => ?_)
    · have h := hbt hc
      refine j_aload_n 0 39 rfl dX7_arcOf_38 rfl rfl ?_
      refine j_getR 42 rfl dX7_arcOf_39 lf_X7_10 ly_0 rfl ?_
      refine j_callV (K' := kX3_sixteenForces) (As := []) (S := []) dX7_arcOf_42 ll_X7_164 ok_X3_sixteenForces ⟨by decide, by decide⟩ ly_1 rfl rfl (Nat.le_of_ble_eq_true rfl) rfl (CT.mono h (fun r G5 hr => ?_))
      obtain ⟨r6, rfl, h⟩ := hr
      show zJ kX7_arcOf post 45 [(0, .ref 0), (1, .int v1), (2, .int v2), (3, .int v3), (4, .int r2), (5, .long r4)] [.long r6] G5
      refine j_lstore [(0, .ref 0), (1, .int v1), (2, .int v2), (3, .int v3), (4, .int r2), (5, .long r4), (7, .long r6)] 47 rfl dX7_arcOf_45 (by decide) rfl ?_
      refine j_lload 6 49 rfl dX7_arcOf_47 rfl ?_
      refine j_lload 6 51 rfl dX7_arcOf_49 rfl ?_
      refine j_lmul 52 rfl dX7_arcOf_51 ?_
      refine j_iload 4 54 rfl dX7_arcOf_52 rfl ?_
      refine j_i2l 55 rfl dX7_arcOf_54 ?_
      refine j_lmul 56 rfl dX7_arcOf_55 ?_
      refine j_lload 5 58 rfl dX7_arcOf_56 rfl ?_
      refine j_lload 5 60 rfl dX7_arcOf_58 rfl ?_
      refine j_lmul 61 rfl dX7_arcOf_60 ?_
      obtain ⟨h7, h⟩ := h
      refine j_ldiv 62 rfl dX7_arcOf_61 h7 ?_
      exact j_lret dX7_arcOf_62 rfl h
    · have h := hbf hc
      refine j_ldc2_w (-1 : Int64) 37 rfl dX7_arcOf_34 lc_X7_156 ?_
      exact j_lret dX7_arcOf_37 rfl h
theorem vX7_worstOf (post : Option Value → GG → Prop) (v1 : Int32) (G : GG) (h : zJ kX7_worstOf post 5 [(0, .ref 0), (1, .int v1), (2, .long (0 : Int64)), (4, .int (0 : Int32))] [] G) : CT kX7_worstOf [.ref 0, .int v1] G post := by
  refine CT.of (by decide) (Nat.le_of_ble_eq_true rfl) ?_
  show zJ kX7_worstOf post 0 [(0, .ref 0), (1, .int v1)] [] G
  refine j_lconst (0 : Int64) 1 rfl dX7_worstOf_0 (by decide) ?_
  refine j_lstore_n [(0, .ref 0), (1, .int v1), (2, .long (0 : Int64))] 2 rfl dX7_worstOf_1 rfl (by decide) rfl ?_
  refine j_iconst (0 : Int32) 3 rfl dX7_worstOf_2 (by decide) ?_
  refine j_istore [(0, .ref 0), (1, .int v1), (2, .long (0 : Int64)), (4, .int (0 : Int32))] 5 rfl dX7_worstOf_3 (by decide) rfl ?_
  exact h
theorem vX7_worstOf_5 (post : Option Value → GG → Prop) (v1 : Int32) (v2 : Int64) (v4 : Int32) (G : GG) (h : ((16 : Int32) < v4 → (post (some (.long v2)) G)) ∧ (¬ (16 : Int32) < v4 → (zJ kX7_worstOf post 15 [(0, .ref 0), (1, .int v1), (2, .long v2), (4, .int v4), (5, .int (0 : Int32))] [] G))) : zJ kX7_worstOf post 5 [(0, .ref 0), (1, .int v1), (2, .long v2), (4, .int v4)] [] G := by
  refine j_iload 3 7 rfl dX7_worstOf_5 rfl ?_
  refine j_bipush (16 : Int32) 9 rfl dX7_worstOf_7 (by decide) ?_
  obtain ⟨hbt, hbf⟩ := h
  refine j_icmp_gt 12 77 rfl (by decide) dX7_worstOf_9 (fun hc => ?_) (fun hc => ?_)
  · have h := hbt hc
    refine j_lload_n 2 78 rfl dX7_worstOf_77 rfl rfl ?_
    exact j_lret dX7_worstOf_78 rfl h
  · have h := hbf hc
    refine j_iconst (0 : Int32) 13 rfl dX7_worstOf_12 (by decide) ?_
    refine j_istore [(0, .ref 0), (1, .int v1), (2, .long v2), (4, .int v4), (5, .int (0 : Int32))] 15 rfl dX7_worstOf_13 (by decide) rfl ?_
    exact h
theorem vX7_worstOf_15 (post : Option Value → GG → Prop) (v1 : Int32) (v2 : Int64) (v4 : Int32) (v5 : Int32) (G : GG) (h : CTi kX6_resistancesAsked [.ref 13] G (fun r2 G1 => (r2 ≤ v5 → (zJ kX7_worstOf post 5 [(0, .ref 0), (1, .int v1), (2, .long v2), (4, .int (v4 + (1 : Int32)))] [] G1)) ∧ (¬ r2 ≤ v5 → (CTi kX6_resistanceAsked [.ref 13, .int v5] G1 (fun r4 G3 => CTl kX7_arcOf [.ref 0, .int v1, .int v4, .int r4] G3 (fun r6 G5 => (¬ r6 = (-1 : Int64) → (zJ kX7_worstOf post 15 [(0, .ref 0), (1, .int v1), (2, .long (if r6 < v2 then v2 else r6)), (4, .int v4), (5, .int (v5 + (1 : Int32)))] [] G5)) ∧ (r6 = (-1 : Int64) → (post (some (.long (-1 : Int64))) G5)))))))) : zJ kX7_worstOf post 15 [(0, .ref 0), (1, .int v1), (2, .long v2), (4, .int v4), (5, .int v5)] [] G := by
  refine j_iload 4 17 rfl dX7_worstOf_15 rfl ?_
  refine j_aload_n 0 18 rfl dX7_worstOf_17 rfl rfl ?_
  refine j_getR 21 rfl dX7_worstOf_18 lf_X7_26 ly_0 rfl ?_
  refine j_callV (K' := kX6_resistancesAsked) (As := []) (S := [.int v5]) dX7_worstOf_21 ll_X7_283 ok_X6_resistancesAsked ⟨by decide, by decide⟩ ly_13 rfl rfl (Nat.le_of_ble_eq_true rfl) rfl (CT.mono h (fun r G1 hr => ?_))
  obtain ⟨r2, rfl, h⟩ := hr
  show zJ kX7_worstOf post 24 [(0, .ref 0), (1, .int v1), (2, .long v2), (4, .int v4), (5, .int v5)] [.int r2, .int v5] G1
  obtain ⟨hbt, hbf⟩ := h
  refine j_icmp_ge 27 71 rfl (by decide) dX7_worstOf_24 (fun hc => ?_) (fun hc => ?_)
  · have h := hbt hc
    refine j_iinc 3 (v4 + (1 : Int32)) [(0, .ref 0), (1, .int v1), (2, .long v2), (4, .int (v4 + (1 : Int32))), (5, .int v5)] 74 rfl dX7_worstOf_71 rfl rfl (by decide) rfl ?_
    refine j_goto 5 (by decide) dX7_worstOf_74 ?_
    refine j_sub [0, 1, 2, 3] rfl ?_
    exact h
  · have h := hbf hc
    refine j_aload_n 0 28 rfl dX7_worstOf_27 rfl rfl ?_
    refine j_iload_n 1 29 rfl dX7_worstOf_28 rfl rfl ?_
    refine j_iload 3 31 rfl dX7_worstOf_29 rfl ?_
    refine j_aload_n 0 32 rfl dX7_worstOf_31 rfl rfl ?_
    refine j_getR 35 rfl dX7_worstOf_32 lf_X7_26 ly_0 rfl ?_
    refine j_iload 4 37 rfl dX7_worstOf_35 rfl ?_
    refine j_callV (K' := kX6_resistanceAsked) (As := [.int v5]) (S := [.int v4, .int v1, .ref 0]) dX7_worstOf_37 ll_X7_286 ok_X6_resistanceAsked ⟨by decide, by decide⟩ ly_13 rfl rfl (Nat.le_of_ble_eq_true rfl) rfl (CT.mono h (fun r G3 hr => ?_))
    obtain ⟨r4, rfl, h⟩ := hr
    show zJ kX7_worstOf post 40 [(0, .ref 0), (1, .int v1), (2, .long v2), (4, .int v4), (5, .int v5)] [.int r4, .int v4, .int v1, .ref 0] G3
    refine j_callV (K' := kX7_arcOf) (As := [.int v1, .int v4, .int r4]) (S := []) dX7_worstOf_40 ll_X7_215 ok_X7_arcOf ⟨by decide, by decide⟩ ly_0 rfl rfl (Nat.le_of_ble_eq_true rfl) rfl (CT.mono h (fun r G5 hr => ?_))
    obtain ⟨r6, rfl, h⟩ := hr
    show zJ kX7_worstOf post 43 [(0, .ref 0), (1, .int v1), (2, .long v2), (4, .int v4), (5, .int v5)] [.long r6] G5
    refine j_lstore [(0, .ref 0), (1, .int v1), (2, .long v2), (4, .int v4), (5, .int v5), (6, .long r6)] 45 rfl dX7_worstOf_43 (by decide) rfl ?_
    refine j_lload 5 47 rfl dX7_worstOf_45 rfl ?_
    refine j_ldc2_w (-1 : Int64) 50 rfl dX7_worstOf_47 lc_X7_156 ?_
    obtain ⟨hbt, hbf⟩ := h
    refine j_lif_ne 51 54 58 rfl rfl (by decide) dX7_worstOf_50 dX7_worstOf_51 (fun hc => ?_) (fun hc => ?_)
    · have h := hbt hc
      refine j_lload_n 2 59 rfl dX7_worstOf_58 rfl rfl ?_
      refine j_lload 5 61 rfl dX7_worstOf_59 rfl ?_
      refine j_lmax 64 rfl dX7_worstOf_61 ll_X7_222 lw_lmax (by decide) (Nat.le_of_ble_eq_true rfl) ?_
      refine j_lstore_n [(0, .ref 0), (1, .int v1), (2, .long (if r6 < v2 then v2 else r6)), (4, .int v4), (5, .int v5), (6, .long r6)] 65 rfl dX7_worstOf_64 rfl (by decide) rfl ?_
      refine j_iinc 4 (v5 + (1 : Int32)) [(0, .ref 0), (1, .int v1), (2, .long (if r6 < v2 then v2 else r6)), (4, .int v4), (5, .int (v5 + (1 : Int32))), (6, .long r6)] 68 rfl dX7_worstOf_65 rfl rfl (by decide) rfl ?_
      refine j_goto 15 (by decide) dX7_worstOf_68 ?_
      refine j_sub [0, 1, 2, 3, 4] rfl ?_
      exact h
    · have h := hbf hc
      refine j_ldc2_w (-1 : Int64) 57 rfl dX7_worstOf_54 lc_X7_156 ?_
      exact j_lret dX7_worstOf_57 rfl h
theorem vX7_growthOf (post : Option Value → GG → Prop) (v1 : Int32) (G : GG) (h : CTi kX3_currentByLoads [.ref 1, .int v1] G (fun r2 G1 => CTl kX5_leastTenthsSeen [.ref 7, .int v1] G1 (fun r4 G3 => (r2.toInt64 < (1 : Int64) → (post (some (.long (100000 : Int64))) G3)) ∧ (¬ r2.toInt64 < (1 : Int64) → ((¬ r4 = (-1 : Int64) → ((¬ r2.toInt64 = (0 : Int64)) ∧ (post (some (.long ((((10 : Int64) * r4) - (1 : Int64)) / r2.toInt64))) G3))) ∧ (r4 = (-1 : Int64) → (post (some (.long (100000 : Int64))) G3))))))) : CT kX7_growthOf [.ref 0, .int v1] G post := by
  refine CT.of (by decide) (Nat.le_of_ble_eq_true rfl) ?_
  show zJ kX7_growthOf post 0 [(0, .ref 0), (1, .int v1)] [] G
  refine j_aload_n 0 1 rfl dX7_growthOf_0 rfl rfl ?_
  refine j_getR 4 rfl dX7_growthOf_1 lf_X7_10 ly_0 rfl ?_
  refine j_iload_n 1 5 rfl dX7_growthOf_4 rfl rfl ?_
  refine j_callV (K' := kX3_currentByLoads) (As := [.int v1]) (S := []) dX7_growthOf_5 ll_X7_147 ok_X3_currentByLoads ⟨by decide, by decide⟩ ly_1 rfl rfl (Nat.le_of_ble_eq_true rfl) rfl (CT.mono h (fun r G1 hr => ?_))
  obtain ⟨r2, rfl, h⟩ := hr
  show zJ kX7_growthOf post 8 [(0, .ref 0), (1, .int v1)] [.int r2] G1
  refine j_i2l 9 rfl dX7_growthOf_8 ?_
  refine j_lstore_n [(0, .ref 0), (1, .int v1), (2, .long r2.toInt64)] 10 rfl dX7_growthOf_9 rfl (by decide) rfl ?_
  refine j_aload_n 0 11 rfl dX7_growthOf_10 rfl rfl ?_
  refine j_getR 14 rfl dX7_growthOf_11 lf_X7_19 ly_0 rfl ?_
  refine j_iload_n 1 15 rfl dX7_growthOf_14 rfl rfl ?_
  refine j_callV (K' := kX5_leastTenthsSeen) (As := [.int v1]) (S := []) dX7_growthOf_15 ll_X7_289 ok_X5_leastTenthsSeen ⟨by decide, by decide⟩ ly_7 rfl rfl (Nat.le_of_ble_eq_true rfl) rfl (CT.mono h (fun r G3 hr => ?_))
  obtain ⟨r4, rfl, h⟩ := hr
  show zJ kX7_growthOf post 18 [(0, .ref 0), (1, .int v1), (2, .long r2.toInt64)] [.long r4] G3
  refine j_lstore [(0, .ref 0), (1, .int v1), (2, .long r2.toInt64), (4, .long r4)] 20 rfl dX7_growthOf_18 (by decide) rfl ?_
  refine j_lload_n 2 21 rfl dX7_growthOf_20 rfl rfl ?_
  refine j_lconst (1 : Int64) 22 rfl dX7_growthOf_21 (by decide) ?_
  obtain ⟨hbt, hbf⟩ := h
  refine j_lif_lt 23 26 35 rfl rfl (by decide) dX7_growthOf_22 dX7_growthOf_23 (fun hc => ?_) (fun hc => ?_)
  · have h := hbt hc
    refine j_ldc2_w (100000 : Int64) 38 rfl dX7_growthOf_35 lc_X7_228 ?_
    exact j_lret dX7_growthOf_38 rfl h
  · have h := hbf hc
    refine j_lload 3 28 rfl dX7_growthOf_26 rfl ?_
    refine j_ldc2_w (-1 : Int64) 31 rfl dX7_growthOf_28 lc_X7_156 ?_
    obtain ⟨hbt, hbf⟩ := h
    refine j_lif_ne 32 35 39 rfl rfl (by decide) dX7_growthOf_31 dX7_growthOf_32 (fun hc => ?_) (fun hc => ?_)
    · have h := hbt hc
      refine j_ldc2_w (10 : Int64) 42 rfl dX7_growthOf_39 lc_X7_292 ?_
      refine j_lload 3 44 rfl dX7_growthOf_42 rfl ?_
      refine j_lmul 45 rfl dX7_growthOf_44 ?_
      refine j_lconst (1 : Int64) 46 rfl dX7_growthOf_45 (by decide) ?_
      refine j_lsub 47 rfl dX7_growthOf_46 ?_
      refine j_lload_n 2 48 rfl dX7_growthOf_47 rfl rfl ?_
      obtain ⟨h5, h⟩ := h
      refine j_ldiv 49 rfl dX7_growthOf_48 h5 ?_
      exact j_lret dX7_growthOf_49 rfl h
    · have h := hbf hc
      refine j_ldc2_w (100000 : Int64) 38 rfl dX7_growthOf_35 lc_X7_228 ?_
      exact j_lret dX7_growthOf_38 rfl h
theorem vX7_findLeastDials (post : Option Value → GG → Prop)  (G : GG) (h : CTv kX1_gather [.ref 15] G (fun G1 => zJ kX7_findLeastDials post 35 [(0, .ref 0), (1, .int (((gA G1 23 (va_cpy (G1 10) (G1 23) (0 : Int32).toNatClampNeg (0 : Int32).toNatClampNeg (30 : Int32).toNatClampNeg)) 1 0) - (1 : Int32)))] [] (gA G1 23 (va_cpy (G1 10) (G1 23) (0 : Int32).toNatClampNeg (0 : Int32).toNatClampNeg (30 : Int32).toNatClampNeg)))) : CT kX7_findLeastDials [.ref 0] G post := by
  refine CT.of (by decide) (Nat.le_of_ble_eq_true rfl) ?_
  show zJ kX7_findLeastDials post 0 [(0, .ref 0)] [] G
  refine j_aload_n 0 1 rfl dX7_findLeastDials_0 rfl rfl ?_
  refine j_getR 4 rfl dX7_findLeastDials_1 lf_X7_42 ly_0 rfl ?_
  refine j_callV (K' := kX1_gather) (As := []) (S := []) dX7_findLeastDials_4 ll_X7_245 ok_X1_gather ⟨by decide, by decide⟩ ly_15 rfl rfl (Nat.le_of_ble_eq_true rfl) rfl (CT.mono h (fun r G1 hr => ?_))
  obtain ⟨rfl, h⟩ := hr
  show zJ kX7_findLeastDials post 7 [(0, .ref 0)] [] G1
  refine j_aload_n 0 8 rfl dX7_findLeastDials_7 rfl rfl ?_
  refine j_getR 11 rfl dX7_findLeastDials_8 lf_X7_19 ly_0 rfl ?_
  refine j_getR 14 rfl dX7_findLeastDials_11 lf_X7_114 ly_7 rfl ?_
  refine j_iconst (0 : Int32) 15 rfl dX7_findLeastDials_14 (by decide) ?_
  refine j_aload_n 0 16 rfl dX7_findLeastDials_15 rfl rfl ?_
  refine j_getR 19 rfl dX7_findLeastDials_16 lf_X7_55 ly_0 rfl ?_
  refine j_iconst (0 : Int32) 20 rfl dX7_findLeastDials_19 (by decide) ?_
  refine j_bipush (30 : Int32) 22 rfl dX7_findLeastDials_20 (by decide) ?_
  refine j_copy 25 rfl dX7_findLeastDials_22 ll_X7_205 lw_copy ly_10 ly_23 (by decide) (by decide) (by decide) (by decide) (by decide) (by decide) (Nat.le_of_ble_eq_true rfl) ?_
  refine j_aload_n 0 26 rfl dX7_findLeastDials_25 rfl rfl ?_
  refine j_getR 29 rfl dX7_findLeastDials_26 lf_X7_10 ly_0 rfl ?_
  refine j_getI 32 rfl dX7_findLeastDials_29 lf_X7_81 ly_1 rfl ?_
  refine j_iconst (1 : Int32) 33 rfl dX7_findLeastDials_32 (by decide) ?_
  refine j_isub 34 rfl dX7_findLeastDials_33 ?_
  refine j_istore_n [(0, .ref 0), (1, .int (((gA G1 23 (va_cpy (G1 10) (G1 23) (0 : Int32).toNatClampNeg (0 : Int32).toNatClampNeg (30 : Int32).toNatClampNeg)) 1 0) - (1 : Int32)))] 35 rfl dX7_findLeastDials_34 rfl (by decide) rfl ?_
  exact h
theorem vX7_findLeastDials_35 (post : Option Value → GG → Prop) (v1 : Int32) (G : GG) (h : (v1 < (1 : Int32) → (post (some (.int (1 : Int32))) G)) ∧ (¬ v1 < (1 : Int32) → (CTi kX5_isThere [.ref 7, .int v1] G (fun r2 G1 => (r2 = (0 : Int32) → (zJ kX7_findLeastDials post 35 [(0, .ref 0), (1, .int (v1 + (-1 : Int32)))] [] G1)) ∧ (¬ r2 = (0 : Int32) → (CTl kX1_leastDial [.ref 15, .int v1, .ref 23] G1 (fun r4 G3 => (r4 ≤ (40 : Int64) → ((vp_in v1 30) ∧ (zJ kX7_findLeastDials post 35 [(0, .ref 0), (1, .int (v1 + (-1 : Int32)))] [] (gU G3 23 v1.toNatClampNeg r4.toInt32)))) ∧ (¬ r4 ≤ (40 : Int64) → (post (some (.int (0 : Int32))) G3))))))))) : zJ kX7_findLeastDials post 35 [(0, .ref 0), (1, .int v1)] [] G := by
  refine j_iload_n 1 36 rfl dX7_findLeastDials_35 rfl rfl ?_
  refine j_iconst (1 : Int32) 37 rfl dX7_findLeastDials_36 (by decide) ?_
  obtain ⟨hbt, hbf⟩ := h
  refine j_icmp_lt 40 88 rfl (by decide) dX7_findLeastDials_37 (fun hc => ?_) (fun hc => ?_)
  · have h := hbt hc
    refine j_iconst (1 : Int32) 89 rfl dX7_findLeastDials_88 (by decide) ?_
    exact j_iret dX7_findLeastDials_89 rfl rfl h
  · have h := hbf hc
    refine j_aload_n 0 41 rfl dX7_findLeastDials_40 rfl rfl ?_
    refine j_getR 44 rfl dX7_findLeastDials_41 lf_X7_19 ly_0 rfl ?_
    refine j_iload_n 1 45 rfl dX7_findLeastDials_44 rfl rfl ?_
    refine j_callV (K' := kX5_isThere) (As := [.int v1]) (S := []) dX7_findLeastDials_45 ll_X7_107 ok_X5_isThere ⟨by decide, by decide⟩ ly_7 rfl rfl (Nat.le_of_ble_eq_true rfl) rfl (CT.mono h (fun r G1 hr => ?_))
    obtain ⟨r2, rfl, h⟩ := hr
    show zJ kX7_findLeastDials post 48 [(0, .ref 0), (1, .int v1)] [.int r2] G1
    obtain ⟨hbt, hbf⟩ := h
    refine j_if_eq 51 82 rfl (by decide) dX7_findLeastDials_48 (fun hc => ?_) (fun hc => ?_)
    · have h := hbt hc
      refine j_iinc 1 (v1 + (-1 : Int32)) [(0, .ref 0), (1, .int (v1 + (-1 : Int32)))] 85 rfl dX7_findLeastDials_82 rfl rfl (by decide) rfl ?_
      refine j_goto 35 (by decide) dX7_findLeastDials_85 ?_
      exact h
    · have h := hbf hc
      refine j_aload_n 0 52 rfl dX7_findLeastDials_51 rfl rfl ?_
      refine j_getR 55 rfl dX7_findLeastDials_52 lf_X7_42 ly_0 rfl ?_
      refine j_iload_n 1 56 rfl dX7_findLeastDials_55 rfl rfl ?_
      refine j_aload_n 0 57 rfl dX7_findLeastDials_56 rfl rfl ?_
      refine j_getR 60 rfl dX7_findLeastDials_57 lf_X7_55 ly_0 rfl ?_
      refine j_callV (K' := kX1_leastDial) (As := [.int v1, .ref 23]) (S := []) dX7_findLeastDials_60 ll_X7_294 ok_X1_leastDial ⟨by decide, by decide⟩ ly_15 rfl rfl (Nat.le_of_ble_eq_true rfl) rfl (CT.mono h (fun r G3 hr => ?_))
      obtain ⟨r4, rfl, h⟩ := hr
      show zJ kX7_findLeastDials post 63 [(0, .ref 0), (1, .int v1)] [.long r4] G3
      refine j_lstore_n [(0, .ref 0), (1, .int v1), (2, .long r4)] 64 rfl dX7_findLeastDials_63 rfl (by decide) rfl ?_
      refine j_lload_n 2 65 rfl dX7_findLeastDials_64 rfl rfl ?_
      refine j_ldc2_w (40 : Int64) 68 rfl dX7_findLeastDials_65 lc_X7_298 ?_
      obtain ⟨hbt, hbf⟩ := h
      refine j_lif_le 69 72 74 rfl rfl (by decide) dX7_findLeastDials_68 dX7_findLeastDials_69 (fun hc => ?_) (fun hc => ?_)
      · have h := hbt hc
        refine j_aload_n 0 75 rfl dX7_findLeastDials_74 rfl rfl ?_
        refine j_getR 78 rfl dX7_findLeastDials_75 lf_X7_55 ly_0 rfl ?_
        refine j_iload_n 1 79 rfl dX7_findLeastDials_78 rfl rfl ?_
        refine j_lload_n 2 80 rfl dX7_findLeastDials_79 rfl rfl ?_
        refine j_l2i 81 rfl dX7_findLeastDials_80 ?_
        obtain ⟨h5, h⟩ := h
        refine j_iast 82 rfl dX7_findLeastDials_81 ly_23 h5 ?_
        refine j_iinc 1 (v1 + (-1 : Int32)) [(0, .ref 0), (1, .int (v1 + (-1 : Int32))), (2, .long r4)] 85 rfl dX7_findLeastDials_82 rfl rfl (by decide) rfl ?_
        refine j_goto 35 (by decide) dX7_findLeastDials_85 ?_
        refine j_sub [0, 1] rfl ?_
        exact h
      · have h := hbf hc
        refine j_iconst (0 : Int32) 73 rfl dX7_findLeastDials_72 (by decide) ?_
        exact j_iret dX7_findLeastDials_73 rfl rfl h
