theorem lm1 (i : Nat) {w : Cond} (h : tables_1_1[i]? = some w) : w ∈ lw_tbl := List.mem_append_right _ (List.mem_append_left _ (List.mem_of_getElem? h))
theorem lm2 (i : Nat) {w : Cond} (h : tables_1_2[i]? = some w) : w ∈ lw_tbl := List.mem_append_right _ (List.mem_append_right _ (List.mem_append_left _ (List.mem_of_getElem? h)))
theorem lm3 (i : Nat) {w : Cond} (h : tables_1_3[i]? = some w) : w ∈ lw_tbl := List.mem_append_right _ (List.mem_append_right _ (List.mem_append_right _ (List.mem_append_left _ (List.mem_of_getElem? h))))
theorem zNest_0 {s : State} {A : Array Value} (hts : ∀ w ∈ lw_tbl, w.before A s = true) : ∀ w ∈ zNest, va_Nw w s := by
  intro w hw
  simp only [zNest, List.mem_cons, List.not_mem_nil, or_false] at hw
  rcases hw with rfl | rfl | rfl | rfl | rfl | rfl | rfl
  · exact va_Nw.of rfl (hts _ (lm2 56 rfl))
  · exact va_Nw.of rfl (hts _ (lm2 77 rfl))
  · exact va_Nw.of rfl (hts _ (lm2 124 rfl))
  · exact va_Nw.of rfl (hts _ (lm2 139 rfl))
  · exact va_Nw.of rfl (hts _ (lm2 231 rfl))
  · exact va_Nw.of rfl (hts _ (lm3 13 rfl))
  · exact va_Nw.of rfl (hts _ (lm3 104 rfl))
theorem zN2_0 {s : State} {A : Array Value} (hts : ∀ w ∈ lw_tbl, w.before A s = true) : ∀ w ∈ zN2, va_Nw w s := by
  intro w hw
  simp only [zN2, List.mem_cons, List.not_mem_nil, or_false] at hw
  rcases hw with rfl | rfl | rfl
  · exact va_Nw.of rfl (hts _ (lm1 23 rfl))
  · exact va_Nw.of rfl (hts _ (lm1 122 rfl))
  · exact va_Nw.of rfl (hts _ (lm1 72 rfl))
/-- the tables at the start -/
theorem zX_0 {s : State} {A : Array Value} (hts : ∀ w ∈ lw_tbl, w.before A s = true) : ∃ (D : va_G) (aC : Nat → ClassId), zX D aC s := by
  have hz : ∀ w ∈ zTbl, w.before A s = true := fun w hw => hts w (zTbl_sub hw)
  obtain ⟨c0, i0, k0⟩ := u_known (C := RX0) (T := TX0) (N := 3) (n := 3) hz lu_X0 (hz (Cond.instantiable RX0 3) (zm1 71 rfl rfl))
  obtain ⟨c1, i1, k1⟩ := u_known (C := RX1) (T := TX1) (N := 5) (n := 5) hz lu_X1 (hz (Cond.instantiable RX1 5) (zm1 177 rfl rfl))
  obtain ⟨c2, i2, k2⟩ := u_known (C := RX2) (T := TX2) (N := 7) (n := 7) hz lu_X2 (hz (Cond.instantiable RX2 7) (zm1 145 rfl rfl))
  obtain ⟨c3, i3, k3⟩ := u_known (C := RX3) (T := TX3) (N := 8) (n := 8) hz lu_X3 (hz (Cond.instantiable RX3 8) (zm1 22 rfl rfl))
  obtain ⟨c4, i4, k4⟩ := u_known (C := RX4) (T := TX4) (N := 8) (n := 8) hz lu_X4 (hz (Cond.instantiable RX4 8) (zm1 199 rfl rfl))
  obtain ⟨c5, i5, k5⟩ := u_known (C := RX5) (T := TX5) (N := 7) (n := 7) hz lu_X5 (hz (Cond.instantiable RX5 7) (zm1 64 rfl rfl))
  obtain ⟨c6, i6, k6⟩ := u_known (C := RX6) (T := TX6) (N := 3) (n := 3) hz lu_X6 (hz (Cond.instantiable RX6 3) (zm1 121 rfl rfl))
  obtain ⟨c7, i7, k7⟩ := u_known (C := RX7) (T := TX7) (N := 11) (n := 11) hz lu_X7 (hz (Cond.instantiable RX7 11) (zm1 14 rfl rfl))
  obtain ⟨c8, i8, k8⟩ := u_known (C := RX8) (T := TX8) (N := 32) (n := 32) hz lu_X8 (hz (Cond.instantiable RX8 32) (zm3 128 rfl rfl))
  obtain ⟨a0, ka0, cp0, f0, g0, e0⟩ := Cond.arrayClass_spec (hz (Cond.arrayClass .int) ka_int)
  obtain ⟨a1, ka1, cp1, f1, g1, e1⟩ := Cond.arrayClass_spec (hz (Cond.arrayClass .boolean) ka_boolean)
  obtain ⟨a2, ka2, cp2, f2, g2, e2⟩ := Cond.arrayClass_spec (hz (Cond.arrayClass .byte) ka_byte)
  have hov : (Cond.arrayOver (.object RX0)).before A s = true := hts _ (lm1 70 rfl)
  obtain ⟨cp3, a3, ka3, f3, -, g3, e3, n3⟩ := Cond.arrayOver_spec hov
  refine ⟨(fun k => [c0, c1, c2, c3, c4, c5, c6, c7, c8].getD k c0, fun k => [i0, i1, i2, i3, i4, i5, i6, i7, i8].getD k i0), fun k => [a0, a1, a2, a3].getD k a0, ⟨⟨fun k q hq => ?_, fun k q hq => ?_⟩, zNest_0 hts⟩, zN2_0 hts, va_AO.of hov⟩
  · rcases k with _ | _ | _ | _ | _ | _ | _ | _ | _ | k
    · cases hq; exact k0
    · cases hq; exact k1
    · cases hq; exact k2
    · cases hq; exact k3
    · cases hq; exact k4
    · cases hq; exact k5
    · cases hq; exact k6
    · cases hq; exact k7
    · cases hq; exact k8
    · simp [vwCl] at hq
  · rcases k with _ | _ | _ | _ | k
    · cases hq; exact ⟨fun n z => ⟨fun k h => (by cases h), ka0, g0, cp0, e0⟩, f0⟩
    · cases hq; exact ⟨fun n z => ⟨fun k h => (by cases h), ka1, g1, cp1, e1⟩, f1⟩
    · cases hq; exact ⟨fun n z => ⟨fun k h => (by cases h), ka2, g2, cp2, e2⟩, f2⟩
    · cases hq; exact ⟨fun n z => ⟨fun k h => (by cases h), ka3, g3, cp3, e3⟩, ka3, cp3, g3, e3, f3, n3⟩
    · simp [zT] at hq
abbrev kL : zM := (x, code, 4, ret, 9, 340)
def adL (q7 : Nat) (a7 : Nat → Nat) (q8 : Nat) (a8 : Nat → Nat) : Nat → Nat := fun k => if k < 49 then hd q7 a7 k else if k = 49 then q8 else a8 k
set_option maxHeartbeats 4000000 in
set_option maxRecDepth 100000 in
/-- THE LAW, from its entry -/
theorem whole_start {p : Program} {e : Env} {s : State} {m : MethodId} {below : List Frame} {meth : Method} {c : Code} (l : Launch) {b L : Nat} {xs : Nat → Int32} (hL : L ≤ 2560) (C0 : lw_At p s m meth c b L xs) : W p l e room_1 s m #[Value.ref b] below meth c s.heap [] 0 0 (lw_Z below #[Value.ref b] s) (entryFrame m ([Value.ref b] : List Value).toArray 4) := by
  obtain ⟨hx, hb, hr, hml, hown, hts, hX, hbl, hlocks, hgv⟩ := id C0
  obtain ⟨D, aC, hZ⟩ := zX_0 hts
  have C : yC kL p s m #[Value.ref b] meth c D aC (fun q => s.heap.size ≤ q) := ⟨⟨hx, hb, hml, hown, fun w hw => hts w (zTbl_sub hw), hr, hlocks⟩, hZ, fun q => absurd q (by decide), fun _ h => h⟩
  have hl := lv_entry ([.ref b]) (n := 4) (Nat.le_of_ble_eq_true rfl)
  rw [lg_entry_eq]
  generalize (lg_sl ([.ref b]) ++ List.replicate (4 - (lg_sl ([.ref b])).length) Slot.unset).toArray = ls at hl ⊢
  have hl : lv_has ls 4 [(0, .ref b)] := hl
  suffices hY : yW kL p l e room_1 s m #[Value.ref b] below meth c D (fun q => s.heap.size ≤ q) (lw_Z below #[Value.ref b] s) 0 0 0 [(0, .ref b)] [] [] from hY s.heap [] ls (fun k q h => by simp at h) ⟨fun i j p q h => by simp at h, fun k q h => by simp at h⟩ va_S.rf hl
  refine y_new (N := 11) (cells' := 1) (slots' := 11) C dL_law_0 kn_L_7 rfl rfl rfl (Nat.le_of_ble_eq_true rfl) (Nat.le_of_ble_eq_true rfl) (fun q7 => ?_)
  refine y_ws (ws' := w0_X7 q7) rfl ?_
  refine y_dup C dL_law_3 rfl ?_
  refine y_call (K' := kX7_init) (b := q7) (As := []) (S := [.ref q7]) (w0 := w0_X7 q7) (wr := []) (w1 := w1_X7 aC q7) (cells' := 49) (slots' := 4109) C (cy_X7 q7) dL_law_4 (Or.inl (zm1 15 rfl rfl)) ki_X7 ⟨Nat.le_of_ble_eq_true rfl, Nat.le_of_ble_eq_true rfl⟩ rfl (Nat.le_of_ble_eq_true rfl) rfl [0] [] rfl rfl rfl rfl (by decide) (by decide) rfl rfl (Nat.le_of_ble_eq_true rfl) (Nat.le_of_ble_eq_true rfl) (fun a7 => ?_)
  refine y_ws (ws' := w1_X7 aC q7 a7) rfl ?_
  refine y_astore (L' := [(1, .ref q7), (0, .ref b)]) C dL_law_7 (by decide) rfl ?_
  refine y_new (N := 32) (cells' := 50) (slots' := 4141) C dL_law_8 kn_L_10 rfl rfl rfl (Nat.le_of_ble_eq_true rfl) (Nat.le_of_ble_eq_true rfl) (fun q8 => ?_)
  refine y_dup C dL_law_11 rfl ?_
  refine y_call (K' := kX8_init) (b := q8) (As := []) (S := [.ref q8]) (w0 := w0_X8 q8) (wr := w1_X7 aC q7 a7) (w1 := w1_X8 aC q8) (cells' := 68) (slots' := 5701) C (cy_X8 q8) dL_law_12 (Or.inl (zm3 129 rfl rfl)) ki_X8 ⟨Nat.le_of_ble_eq_true rfl, Nat.le_of_ble_eq_true rfl⟩ rfl (Nat.le_of_ble_eq_true rfl) rfl [49] [0, 1, 2, 3, 4, 5, 6, 7, 8, 9, 10, 11, 12, 13, 14, 15, 16, 17, 18, 19, 20, 21, 22, 23, 24, 25, 26, 27, 28, 29, 30, 31, 32, 33, 34, 35, 36, 37, 38, 39, 40, 41, 42, 43, 44, 45, 46, 47, 48] rfl rfl rfl rfl (by decide) (by decide) rfl rfl (Nat.le_of_ble_eq_true rfl) (Nat.le_of_ble_eq_true rfl) (fun a8 => ?_)
  refine y_astore (L' := [(2, .ref q8), (1, .ref q7), (0, .ref b)]) C dL_law_15 (by decide) rfl ?_
  refine y_iconst (v := 0) C dL_law_16 (by decide) ?_
  refine y_istore (L' := [(3, .int 0), (2, .ref q8), (1, .ref q7), (0, .ref b)]) C dL_law_17 (by decide) rfl ?_
  refine y_arq (q0 := 8) (f' := fun i => (([some 25, some 28, some 31, some 34, some 37, some 40, some 43, some 46] : List (Option Nat)).getD i none).map (adL q7 a7 q8 a8)) (ws' := zWs aC (adL q7 a7 q8 a8) G0 0 LAY) rfl (fun j hj => ?_) rfl ?_
  · rcases j with _ | _ | _ | _ | _ | _ | _ | _ | j <;> first | rfl | omega
  · exact fun H locs ls hP hD hS hl => law_loop C0 hZ.1 hL ⟨Nat.le_of_ble_eq_true rfl, Nat.le_of_ble_eq_true rfl⟩ (L + 6) 0 G0 (by omega) (by omega) II_0 H locs ls ⟨hP, hD⟩ hS hl
