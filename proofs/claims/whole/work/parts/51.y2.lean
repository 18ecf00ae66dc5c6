/-! the constructors (written by wip/tools/gen2.py) -/
abbrev kX0_init : zM := (yX0_init, cX0_init, 1, none, 1, 12)
theorem ki_X0 : kX0_init.1.name = "<init>" ∧ kX0_init.2.2.2.1 = none ∧ Cond.instanceMethod kX0_init.1 ∈ zTbl ∧ Cond.initialized kX0_init.1.cls ∈ zTbl ∧ Cond.code kX0_init.1 kX0_init.2.1 kX0_init.2.2.1 kX0_init.2.2.2.1 ∈ zTbl ∧ kX0_init.1.cls ≠ "java/lang/invoke/MethodHandle" ∧ kX0_init.1.cls ≠ "java/lang/invoke/VarHandle" ∧ (parseMethodDescriptor kX0_init.1.desc).map (fun d => d.parameters.length) = some 0 := ⟨rfl, rfl, zm1 73 rfl rfl, zm1 4 rfl rfl, zm1 74 rfl rfl, by decide, by decide, by decide +kernel⟩
abbrev kX1_init : zM := (yX1_init, cX1_init, 4, none, 1, 12)
theorem ki_X1 : kX1_init.1.name = "<init>" ∧ kX1_init.2.2.2.1 = none ∧ Cond.instanceMethod kX1_init.1 ∈ zTbl ∧ Cond.initialized kX1_init.1.cls ∈ zTbl ∧ Cond.code kX1_init.1 kX1_init.2.1 kX1_init.2.2.1 kX1_init.2.2.2.1 ∈ zTbl ∧ kX1_init.1.cls ≠ "java/lang/invoke/MethodHandle" ∧ kX1_init.1.cls ≠ "java/lang/invoke/VarHandle" ∧ (parseMethodDescriptor kX1_init.1.desc).map (fun d => d.parameters.length) = some 3 := ⟨rfl, rfl, zm1 179 rfl rfl, zm1 7 rfl rfl, zm1 180 rfl rfl, by decide, by decide, by decide +kernel⟩
abbrev kX2_init : zM := (yX2_init, cX2_init, 4, none, 1, 12)
theorem ki_X2 : kX2_init.1.name = "<init>" ∧ kX2_init.2.2.2.1 = none ∧ Cond.instanceMethod kX2_init.1 ∈ zTbl ∧ Cond.initialized kX2_init.1.cls ∈ zTbl ∧ Cond.code kX2_init.1 kX2_init.2.1 kX2_init.2.2.1 kX2_init.2.2.2.1 ∈ zTbl ∧ kX2_init.1.cls ≠ "java/lang/invoke/MethodHandle" ∧ kX2_init.1.cls ≠ "java/lang/invoke/VarHandle" ∧ (parseMethodDescriptor kX2_init.1.desc).map (fun d => d.parameters.length) = some 3 := ⟨rfl, rfl, zm1 147 rfl rfl, zm1 6 rfl rfl, zm1 148 rfl rfl, by decide, by decide, by decide +kernel⟩
abbrev kX3_init : zM := (yX3_init, cX3_init, 1, none, 1, 12)
theorem ki_X3 : kX3_init.1.name = "<init>" ∧ kX3_init.2.2.2.1 = none ∧ Cond.instanceMethod kX3_init.1 ∈ zTbl ∧ Cond.initialized kX3_init.1.cls ∈ zTbl ∧ Cond.code kX3_init.1 kX3_init.2.1 kX3_init.2.2.1 kX3_init.2.2.2.1 ∈ zTbl ∧ kX3_init.1.cls ≠ "java/lang/invoke/MethodHandle" ∧ kX3_init.1.cls ≠ "java/lang/invoke/VarHandle" ∧ (parseMethodDescriptor kX3_init.1.desc).map (fun d => d.parameters.length) = some 0 := ⟨rfl, rfl, zm1 24 rfl rfl, zm1 2 rfl rfl, zm1 25 rfl rfl, by decide, by decide, by decide +kernel⟩
abbrev kX4_init : zM := (yX4_init, cX4_init, 3, none, 1, 12)
theorem ki_X4 : kX4_init.1.name = "<init>" ∧ kX4_init.2.2.2.1 = none ∧ Cond.instanceMethod kX4_init.1 ∈ zTbl ∧ Cond.initialized kX4_init.1.cls ∈ zTbl ∧ Cond.code kX4_init.1 kX4_init.2.1 kX4_init.2.2.1 kX4_init.2.2.2.1 ∈ zTbl ∧ kX4_init.1.cls ≠ "java/lang/invoke/MethodHandle" ∧ kX4_init.1.cls ≠ "java/lang/invoke/VarHandle" ∧ (parseMethodDescriptor kX4_init.1.desc).map (fun d => d.parameters.length) = some 2 := ⟨rfl, rfl, zm1 201 rfl rfl, zm1 8 rfl rfl, zm1 202 rfl rfl, by decide, by decide, by decide +kernel⟩
abbrev kX5_init : zM := (yX5_init, cX5_init, 2, none, 2, 40)
theorem ki_X5 : kX5_init.1.name = "<init>" ∧ kX5_init.2.2.2.1 = none ∧ Cond.instanceMethod kX5_init.1 ∈ zTbl ∧ Cond.initialized kX5_init.1.cls ∈ zTbl ∧ Cond.code kX5_init.1 kX5_init.2.1 kX5_init.2.2.1 kX5_init.2.2.2.1 ∈ zTbl ∧ kX5_init.1.cls ≠ "java/lang/invoke/MethodHandle" ∧ kX5_init.1.cls ≠ "java/lang/invoke/VarHandle" ∧ (parseMethodDescriptor kX5_init.1.desc).map (fun d => d.parameters.length) = some 0 := ⟨rfl, rfl, zm1 66 rfl rfl, zm1 3 rfl rfl, zm1 67 rfl rfl, by decide, by decide, by decide +kernel⟩
abbrev kX6_init : zM := (yX6_init, cX6_init, 1, none, 1, 12)
theorem ki_X6 : kX6_init.1.name = "<init>" ∧ kX6_init.2.2.2.1 = none ∧ Cond.instanceMethod kX6_init.1 ∈ zTbl ∧ Cond.initialized kX6_init.1.cls ∈ zTbl ∧ Cond.code kX6_init.1 kX6_init.2.1 kX6_init.2.2.1 kX6_init.2.2.2.1 ∈ zTbl ∧ kX6_init.1.cls ≠ "java/lang/invoke/MethodHandle" ∧ kX6_init.1.cls ≠ "java/lang/invoke/VarHandle" ∧ (parseMethodDescriptor kX6_init.1.desc).map (fun d => d.parameters.length) = some 0 := ⟨rfl, rfl, zm1 123 rfl rfl, zm1 5 rfl rfl, zm1 124 rfl rfl, by decide, by decide, by decide +kernel⟩
abbrev kX7_init : zM := (yX7_init, cX7_init, 1, none, 3, 80)
theorem ki_X7 : kX7_init.1.name = "<init>" ∧ kX7_init.2.2.2.1 = none ∧ Cond.instanceMethod kX7_init.1 ∈ zTbl ∧ Cond.initialized kX7_init.1.cls ∈ zTbl ∧ Cond.code kX7_init.1 kX7_init.2.1 kX7_init.2.2.1 kX7_init.2.2.2.1 ∈ zTbl ∧ kX7_init.1.cls ≠ "java/lang/invoke/MethodHandle" ∧ kX7_init.1.cls ≠ "java/lang/invoke/VarHandle" ∧ (parseMethodDescriptor kX7_init.1.desc).map (fun d => d.parameters.length) = some 0 := ⟨rfl, rfl, zm1 16 rfl rfl, zm1 1 rfl rfl, zm1 17 rfl rfl, by decide, by decide, by decide +kernel⟩
abbrev kX8_init : zM := (yX8_init, cX8_init, 2, none, 1, 12)
theorem ki_X8 : kX8_init.1.name = "<init>" ∧ kX8_init.2.2.2.1 = none ∧ Cond.instanceMethod kX8_init.1 ∈ zTbl ∧ Cond.initialized kX8_init.1.cls ∈ zTbl ∧ Cond.code kX8_init.1 kX8_init.2.1 kX8_init.2.2.1 kX8_init.2.2.2.1 ∈ zTbl ∧ kX8_init.1.cls ≠ "java/lang/invoke/MethodHandle" ∧ kX8_init.1.cls ≠ "java/lang/invoke/VarHandle" ∧ (parseMethodDescriptor kX8_init.1.desc).map (fun d => d.parameters.length) = some 0 := ⟨rfl, rfl, zm3 130 rfl rfl, zm1 9 rfl rfl, zm3 131 rfl rfl, by decide, by decide, by decide +kernel⟩
theorem ko_1 : Cond.instanceMethod Lib.objectInit ∈ zTbl := zm1 19 rfl rfl
theorem ko_2 : Cond.code Lib.objectInit ⟨#[0xb1]⟩ 1 none ∈ zTbl := zm1 20 rfl rfl
theorem ka_int : Cond.arrayClass (newarray.typeOf .int) ∈ zTbl := zm1 62 rfl rfl
theorem ka_boolean : Cond.arrayClass (newarray.typeOf .boolean) ∈ zTbl := zm3 231 rfl rfl
theorem ka_byte : Cond.arrayClass (newarray.typeOf .byte) ∈ zTbl := zm3 232 rfl rfl
theorem y_ws {K : zM} {p : Program} {l : Launch} {e : Env} {R : Room} {s : State} {m : MethodId} {args : Array Value} {below : List Frame} {meth : Method} {c : Code} {D : va_G} {A : Nat → Prop} {Q : State → Prop} {cells slots pc : Nat} {L : List (Nat × Value)} {S : List Value} {ws ws' : va_W} (h : ws = ws') (k : yW K p l e R s m args below meth c D A Q cells slots pc L S ws') : yW K p l e R s m args below meth c D A Q cells slots pc L S ws := h ▸ k
theorem kn_L_7 : yNu RL 7 7 [.null, .null, .null, .null, .null, .null, .null, .null, .int 0, .int 0, .int 0] := ⟨RX7, TX7, 11, tyX7, rfl, lu_X7, tyX7_ok, zm1 13 rfl rfl, zm1 14 rfl rfl, zm1 1 rfl rfl, by decide, rfl⟩
theorem kn_X7_7 : yNu RX7 7 3 [.int 0, .int 0, .int 0, .null, .null, .null, .null, .null] := ⟨RX3, TX3, 8, tyX3, rfl, lu_X3, tyX3_ok, zm1 21 rfl rfl, zm1 22 rfl rfl, zm1 2 rfl rfl, by decide, rfl⟩
theorem kn_X7_16 : yNu RX7 16 5 [.null, .int 0, .int 0, .null, .null, .null, .null] := ⟨RX5, TX5, 7, tyX5, rfl, lu_X5, tyX5_ok, zm1 63 rfl rfl, zm1 64 rfl rfl, zm1 3 rfl rfl, by decide, rfl⟩
theorem kn_X5_9 : yNu RX5 9 0 [.int 0, .null, .null] := ⟨RX0, TX0, 3, tyX0, rfl, lu_X0, tyX0_ok, zm1 69 rfl rfl, zm1 71 rfl rfl, zm1 4 rfl rfl, by decide, rfl⟩
theorem kn_X7_23 : yNu RX7 23 6 [.int 0, .int 0, .int 0] := ⟨RX6, TX6, 3, tyX6, rfl, lu_X6, tyX6_ok, zm1 120 rfl rfl, zm1 121 rfl rfl, zm1 5 rfl rfl, by decide, rfl⟩
theorem kn_X7_30 : yNu RX7 30 2 [.null, .null, .null, .int 0, .int 0, .int 0, .int 0] := ⟨RX2, TX2, 7, tyX2, rfl, lu_X2, tyX2_ok, zm1 144 rfl rfl, zm1 145 rfl rfl, zm1 6 rfl rfl, by decide, rfl⟩
theorem kn_X7_39 : yNu RX7 39 1 [.null, .null, .null, .null, .null] := ⟨RX1, TX1, 5, tyX1, rfl, lu_X1, tyX1_ok, zm1 176 rfl rfl, zm1 177 rfl rfl, zm1 7 rfl rfl, by decide, rfl⟩
theorem kn_X7_46 : yNu RX7 46 4 [.null, .null, .int 0, .null, .int 0, .null, .null, .null] := ⟨RX4, TX4, 8, tyX4, rfl, lu_X4, tyX4_ok, zm1 198 rfl rfl, zm1 199 rfl rfl, zm1 8 rfl rfl, by decide, rfl⟩
theorem kn_L_10 : yNu RL 10 8 [.int 0, .int 0, .int 0, .int 0, .int 0, .int 0, .null, .null, .null, .null, .null, .null, .null, .null, .null, .null, .null, .int 0, .null, .int 0, .null, .null, .null, .int 0, .int 0, .int 0, .int 0, .int 0, .null, .null, .int 0, .null] := ⟨RX8, TX8, 32, tyX8, rfl, lu_X8, tyX8_ok, zm3 127 rfl rfl, zm3 128 rfl rfl, zm1 9 rfl rfl, by decide, rfl⟩
theorem kf_X0_9 : yFP RX0 9 0 1 (.array .int) := ⟨RX0, TX0, 3, tyX0, rfl, by decide, lu_X0, zm1 78 rfl rfl, by decide +kernel, tyX0_ok, nmX0, rfl⟩
theorem kf_X0_15 : yFP RX0 15 0 2 (.array .int) := ⟨RX0, TX0, 3, tyX0, rfl, by decide, lu_X0, zm1 80 rfl rfl, by decide +kernel, tyX0_ok, nmX0, rfl⟩
theorem kf_X1_9 : yFP RX1 9 1 3 (.array .int) := ⟨RX1, TX1, 5, tyX1, rfl, by decide, lu_X1, zm1 185 rfl rfl, by decide +kernel, tyX1_ok, nmX1, rfl⟩
theorem kf_X1_15 : yFP RX1 15 1 4 (.array .int) := ⟨RX1, TX1, 5, tyX1, rfl, by decide, lu_X1, zm1 186 rfl rfl, by decide +kernel, tyX1_ok, nmX1, rfl⟩
theorem kf_X1_18 : yFP RX1 18 1 0 (.object "BreakerRows$Net") := ⟨RX1, TX1, 5, tyX1, rfl, by decide, lu_X1, zm1 182 rfl rfl, by decide +kernel, tyX1_ok, nmX1, rfl⟩
theorem kf_X1_22 : yFP RX1 22 1 1 (.object "BreakerRows$Rows") := ⟨RX1, TX1, 5, tyX1, rfl, by decide, lu_X1, zm1 183 rfl rfl, by decide +kernel, tyX1_ok, nmX1, rfl⟩
theorem kf_X1_26 : yFP RX1 26 1 2 (.object "BreakerRows$Rules") := ⟨RX1, TX1, 5, tyX1, rfl, by decide, lu_X1, zm1 184 rfl rfl, by decide +kernel, tyX1_ok, nmX1, rfl⟩
theorem kf_X2_9 : yFP RX2 9 2 0 (.object "BreakerRows$Net") := ⟨RX2, TX2, 7, tyX2, rfl, by decide, lu_X2, zm1 150 rfl rfl, by decide +kernel, tyX2_ok, nmX2, rfl⟩
theorem kf_X2_15 : yFP RX2 15 2 1 (.object "BreakerRows$Rows") := ⟨RX2, TX2, 7, tyX2, rfl, by decide, lu_X2, zm1 151 rfl rfl, by decide +kernel, tyX2_ok, nmX2, rfl⟩
theorem kf_X2_19 : yFP RX2 19 2 2 (.object "BreakerRows$Rules") := ⟨RX2, TX2, 7, tyX2, rfl, by decide, lu_X2, zm1 152 rfl rfl, by decide +kernel, tyX2_ok, nmX2, rfl⟩
theorem kf_X3_9 : yFP RX3 9 3 0 .int := ⟨RX3, TX3, 8, tyX3, rfl, by decide, lu_X3, zm1 27 rfl rfl, by decide +kernel, tyX3_ok, nmX3, rfl⟩
theorem kf_X3_15 : yFP RX3 15 3 1 .int := ⟨RX3, TX3, 8, tyX3, rfl, by decide, lu_X3, zm1 31 rfl rfl, by decide +kernel, tyX3_ok, nmX3, rfl⟩
theorem kf_X3_18 : yFP RX3 18 3 2 .int := ⟨RX3, TX3, 8, tyX3, rfl, by decide, lu_X3, zm1 33 rfl rfl, by decide +kernel, tyX3_ok, nmX3, rfl⟩
theorem kf_X3_21 : yFP RX3 21 3 3 (.array .int) := ⟨RX3, TX3, 8, tyX3, rfl, by decide, lu_X3, zm1 35 rfl rfl, by decide +kernel, tyX3_ok, nmX3, rfl⟩
theorem kf_X3_25 : yFP RX3 25 3 4 (.array .int) := ⟨RX3, TX3, 8, tyX3, rfl, by decide, lu_X3, zm1 37 rfl rfl, by decide +kernel, tyX3_ok, nmX3, rfl⟩
theorem kf_X3_28 : yFP RX3 28 3 5 (.array .int) := ⟨RX3, TX3, 8, tyX3, rfl, by decide, lu_X3, zm1 38 rfl rfl, by decide +kernel, tyX3_ok, nmX3, rfl⟩
theorem kf_X3_31 : yFP RX3 31 3 6 (.array .int) := ⟨RX3, TX3, 8, tyX3, rfl, by decide, lu_X3, zm1 39 rfl rfl, by decide +kernel, tyX3_ok, nmX3, rfl⟩
theorem kf_X3_34 : yFP RX3 34 3 7 (.array .int) := ⟨RX3, TX3, 8, tyX3, rfl, by decide, lu_X3, zm1 43 rfl rfl, by decide +kernel, tyX3_ok, nmX3, rfl⟩
theorem kf_X4_9 : yFP RX4 9 4 3 (.array .int) := ⟨RX4, TX4, 8, tyX4, rfl, by decide, lu_X4, zm1 208 rfl rfl, by decide +kernel, tyX4_ok, nmX4, rfl⟩
theorem kf_X4_15 : yFP RX4 15 4 5 (.array .int) := ⟨RX4, TX4, 8, tyX4, rfl, by decide, lu_X4, zm1 211 rfl rfl, by decide +kernel, tyX4_ok, nmX4, rfl⟩
theorem kf_X4_18 : yFP RX4 18 4 6 (.array .int) := ⟨RX4, TX4, 8, tyX4, rfl, by decide, lu_X4, zm1 212 rfl rfl, by decide +kernel, tyX4_ok, nmX4, rfl⟩
theorem kf_X4_21 : yFP RX4 21 4 7 (.array .int) := ⟨RX4, TX4, 8, tyX4, rfl, by decide, lu_X4, zm1 213 rfl rfl, by decide +kernel, tyX4_ok, nmX4, rfl⟩
theorem kf_X4_24 : yFP RX4 24 4 0 (.object "BreakerRows$Rows") := ⟨RX4, TX4, 8, tyX4, rfl, by decide, lu_X4, zm1 204 rfl rfl, by decide +kernel, tyX4_ok, nmX4, rfl⟩
theorem kf_X4_28 : yFP RX4 28 4 1 (.object "BreakerRows$Demands") := ⟨RX4, TX4, 8, tyX4, rfl, by decide, lu_X4, zm1 205 rfl rfl, by decide +kernel, tyX4_ok, nmX4, rfl⟩
theorem kf_X5_11 : yFP RX5 11 5 0 (.array (.object "BreakerRows$Curve")) := ⟨RX5, TX5, 7, tyX5, rfl, by decide, lu_X5, zm1 89 rfl rfl, by decide +kernel, tyX5_ok, nmX5, rfl⟩
theorem kf_X5_17 : yFP RX5 17 5 3 (.array .int) := ⟨RX5, TX5, 7, tyX5, rfl, by decide, lu_X5, zm1 95 rfl rfl, by decide +kernel, tyX5_ok, nmX5, rfl⟩
theorem kf_X5_21 : yFP RX5 21 5 4 (.array .int) := ⟨RX5, TX5, 7, tyX5, rfl, by decide, lu_X5, zm1 97 rfl rfl, by decide +kernel, tyX5_ok, nmX5, rfl⟩
theorem kf_X5_24 : yFP RX5 24 5 5 (.array .int) := ⟨RX5, TX5, 7, tyX5, rfl, by decide, lu_X5, zm1 100 rfl rfl, by decide +kernel, tyX5_ok, nmX5, rfl⟩
theorem kf_X5_27 : yFP RX5 27 5 6 (.array .int) := ⟨RX5, TX5, 7, tyX5, rfl, by decide, lu_X5, zm1 102 rfl rfl, by decide +kernel, tyX5_ok, nmX5, rfl⟩
theorem kf_X6_9 : yFP RX6 9 6 0 .int := ⟨RX6, TX6, 3, tyX6, rfl, by decide, lu_X6, zm1 127 rfl rfl, by decide +kernel, tyX6_ok, nmX6, rfl⟩
theorem kf_X6_16 : yFP RX6 16 6 1 .int := ⟨RX6, TX6, 3, tyX6, rfl, by decide, lu_X6, zm1 131 rfl rfl, by decide +kernel, tyX6_ok, nmX6, rfl⟩
theorem kf_X6_19 : yFP RX6 19 6 2 .int := ⟨RX6, TX6, 3, tyX6, rfl, by decide, lu_X6, zm1 135 rfl rfl, by decide +kernel, tyX6_ok, nmX6, rfl⟩
theorem kf_X7_10 : yFP RX7 10 7 0 (.object "BreakerRows$Net") := ⟨RX7, TX7, 11, tyX7, rfl, by decide, lu_X7, zm1 231 rfl rfl, by decide +kernel, tyX7_ok, nmX7, rfl⟩
theorem kf_X7_19 : yFP RX7 19 7 1 (.object "BreakerRows$Rows") := ⟨RX7, TX7, 11, tyX7, rfl, by decide, lu_X7, zm1 232 rfl rfl, by decide +kernel, tyX7_ok, nmX7, rfl⟩
theorem kf_X7_26 : yFP RX7 26 7 2 (.object "BreakerRows$Rules") := ⟨RX7, TX7, 11, tyX7, rfl, by decide, lu_X7, zm1 233 rfl rfl, by decide +kernel, tyX7_ok, nmX7, rfl⟩
theorem kf_X7_35 : yFP RX7 35 7 3 (.object "BreakerRows$Judge") := ⟨RX7, TX7, 11, tyX7, rfl, by decide, lu_X7, zm1 234 rfl rfl, by decide +kernel, tyX7_ok, nmX7, rfl⟩
theorem kf_X7_42 : yFP RX7 42 7 4 (.object "BreakerRows$Demands") := ⟨RX7, TX7, 11, tyX7, rfl, by decide, lu_X7, zm1 235 rfl rfl, by decide +kernel, tyX7_ok, nmX7, rfl⟩
theorem kf_X7_51 : yFP RX7 51 7 5 (.object "BreakerRows$Order") := ⟨RX7, TX7, 11, tyX7, rfl, by decide, lu_X7, zm1 236 rfl rfl, by decide +kernel, tyX7_ok, nmX7, rfl⟩
theorem kf_X7_55 : yFP RX7 55 7 6 (.array .int) := ⟨RX7, TX7, 11, tyX7, rfl, by decide, lu_X7, zm1 237 rfl rfl, by decide +kernel, tyX7_ok, nmX7, rfl⟩
theorem kf_X7_59 : yFP RX7 59 7 7 (.array .int) := ⟨RX7, TX7, 11, tyX7, rfl, by decide, lu_X7, zm1 238 rfl rfl, by decide +kernel, tyX7_ok, nmX7, rfl⟩
theorem kf_X8_7 : yFP RX8 7 8 0 .int := ⟨RX8, TX8, 32, tyX8, rfl, by decide, lu_X8, zm3 134 rfl rfl, by decide +kernel, tyX8_ok, nmX8, rfl⟩
theorem kf_X8_13 : yFP RX8 13 8 1 .int := ⟨RX8, TX8, 32, tyX8, rfl, by decide, lu_X8, zm3 135 rfl rfl, by decide +kernel, tyX8_ok, nmX8, rfl⟩
theorem kf_X8_16 : yFP RX8 16 8 2 .int := ⟨RX8, TX8, 32, tyX8, rfl, by decide, lu_X8, zm3 136 rfl rfl, by decide +kernel, tyX8_ok, nmX8, rfl⟩
theorem kf_X8_19 : yFP RX8 19 8 3 .int := ⟨RX8, TX8, 32, tyX8, rfl, by decide, lu_X8, zm3 137 rfl rfl, by decide +kernel, tyX8_ok, nmX8, rfl⟩
theorem kf_X8_23 : yFP RX8 23 8 4 .int := ⟨RX8, TX8, 32, tyX8, rfl, by decide, lu_X8, zm3 138 rfl rfl, by decide +kernel, tyX8_ok, nmX8, rfl⟩
theorem kf_X8_26 : yFP RX8 26 8 6 (.array .int) := ⟨RX8, TX8, 32, tyX8, rfl, by decide, lu_X8, zm3 140 rfl rfl, by decide +kernel, tyX8_ok, nmX8, rfl⟩
theorem kf_X8_30 : yFP RX8 30 8 7 (.array .int) := ⟨RX8, TX8, 32, tyX8, rfl, by decide, lu_X8, zm3 141 rfl rfl, by decide +kernel, tyX8_ok, nmX8, rfl⟩
theorem kf_X8_33 : yFP RX8 33 8 8 (.array .int) := ⟨RX8, TX8, 32, tyX8, rfl, by decide, lu_X8, zm3 142 rfl rfl, by decide +kernel, tyX8_ok, nmX8, rfl⟩
theorem kf_X8_36 : yFP RX8 36 8 9 (.array .int) := ⟨RX8, TX8, 32, tyX8, rfl, by decide, lu_X8, zm3 143 rfl rfl, by decide +kernel, tyX8_ok, nmX8, rfl⟩
theorem kf_X8_39 : yFP RX8 39 8 10 (.array .int) := ⟨RX8, TX8, 32, tyX8, rfl, by decide, lu_X8, zm3 144 rfl rfl, by decide +kernel, tyX8_ok, nmX8, rfl⟩
theorem kf_X8_42 : yFP RX8 42 8 11 (.array .int) := ⟨RX8, TX8, 32, tyX8, rfl, by decide, lu_X8, zm3 145 rfl rfl, by decide +kernel, tyX8_ok, nmX8, rfl⟩
theorem kf_X8_45 : yFP RX8 45 8 12 (.array .boolean) := ⟨RX8, TX8, 32, tyX8, rfl, by decide, lu_X8, zm3 146 rfl rfl, by decide +kernel, tyX8_ok, nmX8, rfl⟩
theorem kf_X8_49 : yFP RX8 49 8 13 (.array .int) := ⟨RX8, TX8, 32, tyX8, rfl, by decide, lu_X8, zm3 147 rfl rfl, by decide +kernel, tyX8_ok, nmX8, rfl⟩
theorem kf_X8_52 : yFP RX8 52 8 14 (.array .int) := ⟨RX8, TX8, 32, tyX8, rfl, by decide, lu_X8, zm3 148 rfl rfl, by decide +kernel, tyX8_ok, nmX8, rfl⟩
theorem kf_X8_55 : yFP RX8 55 8 15 (.array .int) := ⟨RX8, TX8, 32, tyX8, rfl, by decide, lu_X8, zm3 149 rfl rfl, by decide +kernel, tyX8_ok, nmX8, rfl⟩
theorem kf_X8_58 : yFP RX8 58 8 16 (.array .boolean) := ⟨RX8, TX8, 32, tyX8, rfl, by decide, lu_X8, zm3 150 rfl rfl, by decide +kernel, tyX8_ok, nmX8, rfl⟩
theorem kf_X8_61 : yFP RX8 61 8 18 (.array .int) := ⟨RX8, TX8, 32, tyX8, rfl, by decide, lu_X8, zm3 152 rfl rfl, by decide +kernel, tyX8_ok, nmX8, rfl⟩
theorem kf_X8_64 : yFP RX8 64 8 20 (.array .boolean) := ⟨RX8, TX8, 32, tyX8, rfl, by decide, lu_X8, zm3 154 rfl rfl, by decide +kernel, tyX8_ok, nmX8, rfl⟩
theorem kf_X8_67 : yFP RX8 67 8 21 (.array .boolean) := ⟨RX8, TX8, 32, tyX8, rfl, by decide, lu_X8, zm3 155 rfl rfl, by decide +kernel, tyX8_ok, nmX8, rfl⟩
theorem kf_X8_70 : yFP RX8 70 8 22 (.array .int) := ⟨RX8, TX8, 32, tyX8, rfl, by decide, lu_X8, zm3 156 rfl rfl, by decide +kernel, tyX8_ok, nmX8, rfl⟩
theorem kf_X8_73 : yFP RX8 73 8 28 (.array .int) := ⟨RX8, TX8, 32, tyX8, rfl, by decide, lu_X8, zm3 162 rfl rfl, by decide +kernel, tyX8_ok, nmX8, rfl⟩
theorem kf_X8_76 : yFP RX8 76 8 29 (.array .int) := ⟨RX8, TX8, 32, tyX8, rfl, by decide, lu_X8, zm3 163 rfl rfl, by decide +kernel, tyX8_ok, nmX8, rfl⟩
theorem kf_X8_79 : yFP RX8 79 8 31 (.array .byte) := ⟨RX8, TX8, 32, tyX8, rfl, by decide, lu_X8, zm3 165 rfl rfl, by decide +kernel, tyX8_ok, nmX8, rfl⟩
abbrev w1_X0 (aC : Nat → ClassId) (h : Nat) (ad : Nat → Nat) : va_W := [(h, .inr (0, [.int 0, .ref (ad 1), .ref (ad 2)])), (ad 1, .inl (aC 0, 8, .inl (fun _ => 0))), (ad 2, .inl (aC 0, 8, .inl (fun _ => 0)))]
abbrev w0_X0 (h : Nat) : va_W := [(h, .inr (0, [.int 0, .null, .null]))]
abbrev w1_X1 (aC : Nat → ClassId) (h n1 n2 n3 : Nat) (ad : Nat → Nat) : va_W := [(h, .inr (1, [.ref n1, .ref n2, .ref n3, .ref (ad 16), .ref (ad 17)])), (ad 16, .inl (aC 0, 3480, .inl (fun _ => 0))), (ad 17, .inl (aC 0, 30, .inl (fun _ => 0)))]
abbrev w0_X1 (h : Nat) : va_W := [(h, .inr (1, [.null, .null, .null, .null, .null]))]
abbrev w1_X2 (aC : Nat → ClassId) (h n1 n2 n3 : Nat) (ad : Nat → Nat) : va_W := [(h, .inr (2, [.ref n1, .ref n2, .ref n3, .int 0, .int 0, .int 0, .int 0]))]
abbrev w0_X2 (h : Nat) : va_W := [(h, .inr (2, [.null, .null, .null, .int 0, .int 0, .int 0, .int 0]))]
abbrev w1_X3 (aC : Nat → ClassId) (h : Nat) (ad : Nat → Nat) : va_W := [(h, .inr (3, [.int 1, .int 1000, .int 1, .ref (ad 2), .ref (ad 3), .ref (ad 4), .ref (ad 5), .ref (ad 6)])), (ad 2, .inl (aC 0, 30, .inl (fun _ => 0))), (ad 3, .inl (aC 0, 30, .inl (fun _ => 0))), (ad 4, .inl (aC 0, 30, .inl (fun _ => 0))), (ad 5, .inl (aC 0, 30, .inl (fun _ => 0))), (ad 6, .inl (aC 0, 30, .inl (fun _ => 0)))]
abbrev w0_X3 (h : Nat) : va_W := [(h, .inr (3, [.int 0, .int 0, .int 0, .null, .null, .null, .null, .null]))]
abbrev w1_X4 (aC : Nat → ClassId) (h n1 n2 : Nat) (ad : Nat → Nat) : va_W := [(h, .inr (4, [.ref n1, .ref n2, .int 0, .ref (ad 19), .int 0, .ref (ad 20), .ref (ad 21), .ref (ad 22)])), (ad 19, .inl (aC 0, 10, .inl (fun _ => 0))), (ad 20, .inl (aC 0, 10, .inl (fun _ => 0))), (ad 21, .inl (aC 0, 10, .inl (fun _ => 0))), (ad 22, .inl (aC 0, 30, .inl (fun _ => 0)))]
abbrev w0_X4 (h : Nat) : va_W := [(h, .inr (4, [.null, .null, .int 0, .null, .int 0, .null, .null, .null]))]
abbrev w1_X5 (aC : Nat → ClassId) (h : Nat) (ad : Nat → Nat) : va_W := [(h, .inr (5, [.ref (ad 8), .int 0, .int 0, .ref (ad 9), .ref (ad 10), .ref (ad 11), .ref (ad 12)])), (ad 8, .inl (aC 3, 8, .inr (.inr (.inr (.inr (fun i => (([some 25, some 28, some 31, some 34, some 37, some 40, some 43, some 46] : List (Option Nat)).getD i none).map ad)))))), (ad 9, .inl (aC 0, 30, .inl (fun _ => 0))), (ad 10, .inl (aC 0, 30, .inl (fun _ => 0))), (ad 11, .inl (aC 0, 30, .inl (fun _ => 0))), (ad 12, .inl (aC 0, 30, .inl (fun _ => -1))), (ad 25, .inr (0, [.int 0, .ref (ad 26), .ref (ad 27)])), (ad 26, .inl (aC 0, 8, .inl (fun _ => 0))), (ad 27, .inl (aC 0, 8, .inl (fun _ => 0))), (ad 28, .inr (0, [.int 0, .ref (ad 29), .ref (ad 30)])), (ad 29, .inl (aC 0, 8, .inl (fun _ => 0))), (ad 30, .inl (aC 0, 8, .inl (fun _ => 0))), (ad 31, .inr (0, [.int 0, .ref (ad 32), .ref (ad 33)])), (ad 32, .inl (aC 0, 8, .inl (fun _ => 0))), (ad 33, .inl (aC 0, 8, .inl (fun _ => 0))), (ad 34, .inr (0, [.int 0, .ref (ad 35), .ref (ad 36)])), (ad 35, .inl (aC 0, 8, .inl (fun _ => 0))), (ad 36, .inl (aC 0, 8, .inl (fun _ => 0))), (ad 37, .inr (0, [.int 0, .ref (ad 38), .ref (ad 39)])), (ad 38, .inl (aC 0, 8, .inl (fun _ => 0))), (ad 39, .inl (aC 0, 8, .inl (fun _ => 0))), (ad 40, .inr (0, [.int 0, .ref (ad 41), .ref (ad 42)])), (ad 41, .inl (aC 0, 8, .inl (fun _ => 0))), (ad 42, .inl (aC 0, 8, .inl (fun _ => 0))), (ad 43, .inr (0, [.int 0, .ref (ad 44), .ref (ad 45)])), (ad 44, .inl (aC 0, 8, .inl (fun _ => 0))), (ad 45, .inl (aC 0, 8, .inl (fun _ => 0))), (ad 46, .inr (0, [.int 0, .ref (ad 47), .ref (ad 48)])), (ad 47, .inl (aC 0, 8, .inl (fun _ => 0))), (ad 48, .inl (aC 0, 8, .inl (fun _ => 0)))]
abbrev w0_X5 (h : Nat) : va_W := [(h, .inr (5, [.null, .int 0, .int 0, .null, .null, .null, .null]))]
abbrev w1_X6 (aC : Nat → ClassId) (h : Nat) (ad : Nat → Nat) : va_W := [(h, .inr (6, [.int 1, .int 100000, .int 0]))]
abbrev w0_X6 (h : Nat) : va_W := [(h, .inr (6, [.int 0, .int 0, .int 0]))]
abbrev w1_X8 (aC : Nat → ClassId) (h : Nat) (ad : Nat → Nat) : va_W := [(h, .inr (8, [.int 1, .int 1000, .int 1, .int 1, .int 100000, .int 0, .ref (ad 50), .ref (ad 51), .ref (ad 52), .ref (ad 53), .ref (ad 54), .ref (ad 55), .ref (ad 56), .ref (ad 57), .ref (ad 58), .ref (ad 59), .ref (ad 60), .int 0, .ref (ad 61), .int 0, .ref (ad 62), .ref (ad 63), .ref (ad 64), .int 0, .int 0, .int 0, .int 0, .int 0, .ref (ad 65), .ref (ad 66), .int 0, .ref (ad 67)])), (ad 50, .inl (aC 0, 30, .inl (fun _ => 0))), (ad 51, .inl (aC 0, 30, .inl (fun _ => 0))), (ad 52, .inl (aC 0, 30, .inl (fun _ => 0))), (ad 53, .inl (aC 0, 8, .inl (fun _ => 0))), (ad 54, .inl (aC 0, 64, .inl (fun _ => 0))), (ad 55, .inl (aC 0, 64, .inl (fun _ => 0))), (ad 56, .inl (aC 1, 30, .inl (fun _ => 0))), (ad 57, .inl (aC 0, 30, .inl (fun _ => 0))), (ad 58, .inl (aC 0, 30, .inl (fun _ => 0))), (ad 59, .inl (aC 0, 30, .inl (fun _ => 0))), (ad 60, .inl (aC 1, 30, .inl (fun _ => 0))), (ad 61, .inl (aC 0, 30, .inl (fun _ => -1))), (ad 62, .inl (aC 1, 30, .inl (fun _ => 0))), (ad 63, .inl (aC 1, 30, .inl (fun _ => 0))), (ad 64, .inl (aC 0, 10, .inl (fun _ => 0))), (ad 65, .inl (aC 0, 30, .inl (fun _ => 0))), (ad 66, .inl (aC 0, 30, .inl (fun _ => 0))), (ad 67, .inl (aC 2, 1024, .inl (fun _ => 0)))]
abbrev w0_X8 (h : Nat) : va_W := [(h, .inr (8, [.int 0, .int 0, .int 0, .int 0, .int 0, .int 0, .null, .null, .null, .null, .null, .null, .null, .null, .null, .null, .null, .int 0, .null, .int 0, .null, .null, .null, .int 0, .int 0, .int 0, .int 0, .int 0, .null, .null, .int 0, .null]))]
/-- the numbers at first -/
def G0 : GG := fun p => match p with
  | 1 => fun k => ([1, 1000, 1] : List Int32).getD k 0
  | 12 => fun _ => -1
  | 13 => fun k => ([1, 100000, 0] : List Int32).getD k 0
  | 49 => fun k => ([1, 1000, 1, 1, 100000] : List Int32).getD k 0
  | 61 => fun _ => -1
  | _ => fun _ => 0
abbrev LAY7 : List zKd := LAY.take 49
abbrev w0_X7 (h : Nat) : va_W := [(h, .inr (7, [.null, .null, .null, .null, .null, .null, .null, .null, .int 0, .int 0, .int 0]))]
def hd (h : Nat) (ad : Nat → Nat) : Nat → Nat := fun k => match k with
  | 0 => h
  | k + 1 => ad (k + 1)
abbrev w1_X7 (aC : Nat → ClassId) (h : Nat) (ad : Nat → Nat) : va_W := zWs aC (hd h ad) G0 0 LAY7
set_option maxHeartbeats 4000000 in
set_option maxRecDepth 100000 in
theorem cy_X0 {aC : Nat → ClassId} (h : Nat) : CY kX0_init 2 16 aC [.ref h] (w0_X0 h) (w1_X0 aC h) := by
  refine CY.of (by decide) (Nat.le_of_ble_eq_true rfl) ?_
  intro l p e s m args below meth c D sz C
  show yW _ _ _ _ _ _ _ _ _ _ _ _ _ _ 0 0 0 [(0, .ref h)] [] [(h, .inr (0, [.int 0, .null, .null]))]
  refine y_aload 0 C dX0_init_0 rfl ?_
  refine y_obj C dX0_init_1 (zm1 75 rfl rfl) ko_1 ko_2 (Nat.le_of_ble_eq_true rfl) (Nat.le_of_ble_eq_true rfl) ?_
  refine y_aload 0 C dX0_init_4 rfl ?_
  refine y_bipush (v := 8) C dX0_init_5 (by decide) ?_
  refine y_newa (t0 := 0) (N := 8) (cells' := 1) (slots' := 8) C dX0_init_7 ka_int rfl rfl (fun _ => rfl) rfl (by decide) rfl (by decide) rfl rfl (Nat.le_of_ble_eq_true rfl) (Nat.le_of_ble_eq_true rfl) (fun q0 => ?_)
  refine y_ws (ws' := [(h, .inr (0, [.int 0, .null, .null])), (q0, .inl (aC 0, 8, .inl (fun _ => 0)))]) rfl ?_
  refine y_put (q0 := 0) (ws' := [(h, .inr (0, [.int 0, .ref q0, .null])), (q0, .inl (aC 0, 8, .inl (fun _ => 0)))]) C dX0_init_9 kf_X0_9 rfl rfl (Nat.le_of_ble_eq_true rfl) rfl rfl rfl ?_
  refine y_aload 0 C dX0_init_12 rfl ?_
  refine y_bipush (v := 8) C dX0_init_13 (by decide) ?_
  refine y_newa (t0 := 0) (N := 8) (cells' := 2) (slots' := 16) C dX0_init_15 ka_int rfl rfl (fun _ => rfl) rfl (by decide) rfl (by decide) rfl rfl (Nat.le_of_ble_eq_true rfl) (Nat.le_of_ble_eq_true rfl) (fun q1 => ?_)
  refine y_ws (ws' := [(h, .inr (0, [.int 0, .ref q0, .null])), (q0, .inl (aC 0, 8, .inl (fun _ => 0))), (q1, .inl (aC 0, 8, .inl (fun _ => 0)))]) rfl ?_
  refine y_put (q0 := 0) (ws' := [(h, .inr (0, [.int 0, .ref q0, .ref q1])), (q0, .inl (aC 0, 8, .inl (fun _ => 0))), (q1, .inl (aC 0, 8, .inl (fun _ => 0)))]) C dX0_init_17 kf_X0_15 rfl rfl (Nat.le_of_ble_eq_true rfl) rfl rfl rfl ?_
  exact y_ret (fun k => ([h, q0, q1] : List Nat).getD k 0) C dX0_init_20 rfl (Nat.le_of_ble_eq_true rfl) (Nat.le_of_ble_eq_true rfl) rfl
set_option maxHeartbeats 4000000 in
set_option maxRecDepth 100000 in
theorem cy_X3 {aC : Nat → ClassId} (h : Nat) : CY kX3_init 5 150 aC [.ref h] (w0_X3 h) (w1_X3 aC h) := by
  refine CY.of (by decide) (Nat.le_of_ble_eq_true rfl) ?_
  intro l p e s m args below meth c D sz C
  show yW _ _ _ _ _ _ _ _ _ _ _ _ _ _ 0 0 0 [(0, .ref h)] [] [(h, .inr (3, [.int 0, .int 0, .int 0, .null, .null, .null, .null, .null]))]
  refine y_aload 0 C dX3_init_0 rfl ?_
  refine y_obj C dX3_init_1 (zm1 26 rfl rfl) ko_1 ko_2 (Nat.le_of_ble_eq_true rfl) (Nat.le_of_ble_eq_true rfl) ?_
  refine y_aload 0 C dX3_init_4 rfl ?_
  refine y_iconst (v := 1) C dX3_init_5 (by decide) ?_
  refine y_put (q0 := 0) (ws' := [(h, .inr (3, [.int 1, .int 0, .int 0, .null, .null, .null, .null, .null]))]) C dX3_init_6 kf_X3_9 rfl rfl (Nat.le_of_ble_eq_true rfl) rfl rfl rfl ?_
  refine y_aload 0 C dX3_init_9 rfl ?_
  refine y_sipush (v := 1000) C dX3_init_10 (by decide) ?_
  refine y_put (q0 := 0) (ws' := [(h, .inr (3, [.int 1, .int 1000, .int 0, .null, .null, .null, .null, .null]))]) C dX3_init_13 kf_X3_15 rfl rfl (Nat.le_of_ble_eq_true rfl) rfl rfl rfl ?_
  refine y_aload 0 C dX3_init_16 rfl ?_
  refine y_iconst (v := 1) C dX3_init_17 (by decide) ?_
  refine y_put (q0 := 0) (ws' := [(h, .inr (3, [.int 1, .int 1000, .int 1, .null, .null, .null, .null, .null]))]) C dX3_init_18 kf_X3_18 rfl rfl (Nat.le_of_ble_eq_true rfl) rfl rfl rfl ?_
  refine y_aload 0 C dX3_init_21 rfl ?_
  refine y_bipush (v := 30) C dX3_init_22 (by decide) ?_
  refine y_newa (t0 := 0) (N := 30) (cells' := 1) (slots' := 30) C dX3_init_24 ka_int rfl rfl (fun _ => rfl) rfl (by decide) rfl (by decide) rfl rfl (Nat.le_of_ble_eq_true rfl) (Nat.le_of_ble_eq_true rfl) (fun q0 => ?_)
  refine y_ws (ws' := [(h, .inr (3, [.int 1, .int 1000, .int 1, .null, .null, .null, .null, .null])), (q0, .inl (aC 0, 30, .inl (fun _ => 0)))]) rfl ?_
  refine y_put (q0 := 0) (ws' := [(h, .inr (3, [.int 1, .int 1000, .int 1, .ref q0, .null, .null, .null, .null])), (q0, .inl (aC 0, 30, .inl (fun _ => 0)))]) C dX3_init_26 kf_X3_21 rfl rfl (Nat.le_of_ble_eq_true rfl) rfl rfl rfl ?_
  refine y_aload 0 C dX3_init_29 rfl ?_
  refine y_bipush (v := 30) C dX3_init_30 (by decide) ?_
  refine y_newa (t0 := 0) (N := 30) (cells' := 2) (slots' := 60) C dX3_init_32 ka_int rfl rfl (fun _ => rfl) rfl (by decide) rfl (by decide) rfl rfl (Nat.le_of_ble_eq_true rfl) (Nat.le_of_ble_eq_true rfl) (fun q1 => ?_)
  refine y_ws (ws' := [(h, .inr (3, [.int 1, .int 1000, .int 1, .ref q0, .null, .null, .null, .null])), (q0, .inl (aC 0, 30, .inl (fun _ => 0))), (q1, .inl (aC 0, 30, .inl (fun _ => 0)))]) rfl ?_
  refine y_put (q0 := 0) (ws' := [(h, .inr (3, [.int 1, .int 1000, .int 1, .ref q0, .ref q1, .null, .null, .null])), (q0, .inl (aC 0, 30, .inl (fun _ => 0))), (q1, .inl (aC 0, 30, .inl (fun _ => 0)))]) C dX3_init_34 kf_X3_25 rfl rfl (Nat.le_of_ble_eq_true rfl) rfl rfl rfl ?_
  refine y_aload 0 C dX3_init_37 rfl ?_
  refine y_bipush (v := 30) C dX3_init_38 (by decide) ?_
  refine y_newa (t0 := 0) (N := 30) (cells' := 3) (slots' := 90) C dX3_init_40 ka_int rfl rfl (fun _ => rfl) rfl (by decide) rfl (by decide) rfl rfl (Nat.le_of_ble_eq_true rfl) (Nat.le_of_ble_eq_true rfl) (fun q2 => ?_)
  refine y_ws (ws' := [(h, .inr (3, [.int 1, .int 1000, .int 1, .ref q0, .ref q1, .null, .null, .null])), (q0, .inl (aC 0, 30, .inl (fun _ => 0))), (q1, .inl (aC 0, 30, .inl (fun _ => 0))), (q2, .inl (aC 0, 30, .inl (fun _ => 0)))]) rfl ?_
  refine y_put (q0 := 0) (ws' := [(h, .inr (3, [.int 1, .int 1000, .int 1, .ref q0, .ref q1, .ref q2, .null, .null])), (q0, .inl (aC 0, 30, .inl (fun _ => 0))), (q1, .inl (aC 0, 30, .inl (fun _ => 0))), (q2, .inl (aC 0, 30, .inl (fun _ => 0)))]) C dX3_init_42 kf_X3_28 rfl rfl (Nat.le_of_ble_eq_true rfl) rfl rfl rfl ?_
  refine y_aload 0 C dX3_init_45 rfl ?_
  refine y_bipush (v := 30) C dX3_init_46 (by decide) ?_
  refine y_newa (t0 := 0) (N := 30) (cells' := 4) (slots' := 120) C dX3_init_48 ka_int rfl rfl (fun _ => rfl) rfl (by decide) rfl (by decide) rfl rfl (Nat.le_of_ble_eq_true rfl) (Nat.le_of_ble_eq_true rfl) (fun q3 => ?_)
  refine y_ws (ws' := [(h, .inr (3, [.int 1, .int 1000, .int 1, .ref q0, .ref q1, .ref q2, .null, .null])), (q0, .inl (aC 0, 30, .inl (fun _ => 0))), (q1, .inl (aC 0, 30, .inl (fun _ => 0))), (q2, .inl (aC 0, 30, .inl (fun _ => 0))), (q3, .inl (aC 0, 30, .inl (fun _ => 0)))]) rfl ?_
  refine y_put (q0 := 0) (ws' := [(h, .inr (3, [.int 1, .int 1000, .int 1, .ref q0, .ref q1, .ref q2, .ref q3, .null])), (q0, .inl (aC 0, 30, .inl (fun _ => 0))), (q1, .inl (aC 0, 30, .inl (fun _ => 0))), (q2, .inl (aC 0, 30, .inl (fun _ => 0))), (q3, .inl (aC 0, 30, .inl (fun _ => 0)))]) C dX3_init_50 kf_X3_31 rfl rfl (Nat.le_of_ble_eq_true rfl) rfl rfl rfl ?_
  refine y_aload 0 C dX3_init_53 rfl ?_
  refine y_bipush (v := 30) C dX3_init_54 (by decide) ?_
  refine y_newa (t0 := 0) (N := 30) (cells' := 5) (slots' := 150) C dX3_init_56 ka_int rfl rfl (fun _ => rfl) rfl (by decide) rfl (by decide) rfl rfl (Nat.le_of_ble_eq_true rfl) (Nat.le_of_ble_eq_true rfl) (fun q4 => ?_)
  refine y_ws (ws' := [(h, .inr (3, [.int 1, .int 1000, .int 1, .ref q0, .ref q1, .ref q2, .ref q3, .null])), (q0, .inl (aC 0, 30, .inl (fun _ => 0))), (q1, .inl (aC 0, 30, .inl (fun _ => 0))), (q2, .inl (aC 0, 30, .inl (fun _ => 0))), (q3, .inl (aC 0, 30, .inl (fun _ => 0))), (q4, .inl (aC 0, 30, .inl (fun _ => 0)))]) rfl ?_
  refine y_put (q0 := 0) (ws' := [(h, .inr (3, [.int 1, .int 1000, .int 1, .ref q0, .ref q1, .ref q2, .ref q3, .ref q4])), (q0, .inl (aC 0, 30, .inl (fun _ => 0))), (q1, .inl (aC 0, 30, .inl (fun _ => 0))), (q2, .inl (aC 0, 30, .inl (fun _ => 0))), (q3, .inl (aC 0, 30, .inl (fun _ => 0))), (q4, .inl (aC 0, 30, .inl (fun _ => 0)))]) C dX3_init_58 kf_X3_34 rfl rfl (Nat.le_of_ble_eq_true rfl) rfl rfl rfl ?_
  exact y_ret (fun k => ([h, 0, q0, q1, q2, q3, q4] : List Nat).getD k 0) C dX3_init_61 rfl (Nat.le_of_ble_eq_true rfl) (Nat.le_of_ble_eq_true rfl) rfl
set_option maxHeartbeats 4000000 in
set_option maxRecDepth 100000 in
theorem cy_X6 {aC : Nat → ClassId} (h : Nat) : CY kX6_init 0 0 aC [.ref h] (w0_X6 h) (w1_X6 aC h) := by
  refine CY.of (by decide) (Nat.le_of_ble_eq_true rfl) ?_
  intro l p e s m args below meth c D sz C
  show yW _ _ _ _ _ _ _ _ _ _ _ _ _ _ 0 0 0 [(0, .ref h)] [] [(h, .inr (6, [.int 0, .int 0, .int 0]))]
  refine y_aload 0 C dX6_init_0 rfl ?_
  refine y_obj C dX6_init_1 (zm1 125 rfl rfl) ko_1 ko_2 (Nat.le_of_ble_eq_true rfl) (Nat.le_of_ble_eq_true rfl) ?_
  refine y_aload 0 C dX6_init_4 rfl ?_
  refine y_iconst (v := 1) C dX6_init_5 (by decide) ?_
  refine y_put (q0 := 0) (ws' := [(h, .inr (6, [.int 1, .int 0, .int 0]))]) C dX6_init_6 kf_X6_9 rfl rfl (Nat.le_of_ble_eq_true rfl) rfl rfl rfl ?_
  refine y_aload 0 C dX6_init_9 rfl ?_
  refine y_ldc (v := 100000) C dX6_init_10 (zm1 126 rfl rfl) ?_
  refine y_put (q0 := 0) (ws' := [(h, .inr (6, [.int 1, .int 100000, .int 0]))]) C dX6_init_12 kf_X6_16 rfl rfl (Nat.le_of_ble_eq_true rfl) rfl rfl rfl ?_
  refine y_aload 0 C dX6_init_15 rfl ?_
  refine y_iconst (v := 0) C dX6_init_16 (by decide) ?_
  refine y_put (q0 := 0) (ws' := [(h, .inr (6, [.int 1, .int 100000, .int 0]))]) C dX6_init_17 kf_X6_19 rfl rfl (Nat.le_of_ble_eq_true rfl) rfl rfl rfl ?_
  exact y_ret (fun k => ([h] : List Nat).getD k 0) C dX6_init_20 rfl (Nat.le_of_ble_eq_true rfl) (Nat.le_of_ble_eq_true rfl) rfl
set_option maxHeartbeats 4000000 in
set_option maxRecDepth 100000 in
theorem cy_X2 {aC : Nat → ClassId} (h n1 n2 n3 : Nat) : CY kX2_init 0 0 aC [.ref h, .ref n1, .ref n2, .ref n3] (w0_X2 h) (w1_X2 aC h n1 n2 n3) := by
  refine CY.of (by decide) (Nat.le_of_ble_eq_true rfl) ?_
  intro l p e s m args below meth c D sz C
  show yW _ _ _ _ _ _ _ _ _ _ _ _ _ _ 0 0 0 [(0, .ref h), (1, .ref n1), (2, .ref n2), (3, .ref n3)] [] [(h, .inr (2, [.null, .null, .null, .int 0, .int 0, .int 0, .int 0]))]
  refine y_aload 0 C dX2_init_0 rfl ?_
  refine y_obj C dX2_init_1 (zm1 149 rfl rfl) ko_1 ko_2 (Nat.le_of_ble_eq_true rfl) (Nat.le_of_ble_eq_true rfl) ?_
  refine y_aload 0 C dX2_init_4 rfl ?_
  refine y_aload 1 C dX2_init_5 rfl ?_
  refine y_put (q0 := 0) (ws' := [(h, .inr (2, [.ref n1, .null, .null, .int 0, .int 0, .int 0, .int 0]))]) C dX2_init_6 kf_X2_9 rfl rfl (Nat.le_of_ble_eq_true rfl) rfl rfl rfl ?_
  refine y_aload 0 C dX2_init_9 rfl ?_
  refine y_aload 2 C dX2_init_10 rfl ?_
  refine y_put (q0 := 0) (ws' := [(h, .inr (2, [.ref n1, .ref n2, .null, .int 0, .int 0, .int 0, .int 0]))]) C dX2_init_11 kf_X2_15 rfl rfl (Nat.le_of_ble_eq_true rfl) rfl rfl rfl ?_
  refine y_aload 0 C dX2_init_14 rfl ?_
  refine y_aload 3 C dX2_init_15 rfl ?_
  refine y_put (q0 := 0) (ws' := [(h, .inr (2, [.ref n1, .ref n2, .ref n3, .int 0, .int 0, .int 0, .int 0]))]) C dX2_init_16 kf_X2_19 rfl rfl (Nat.le_of_ble_eq_true rfl) rfl rfl rfl ?_
  exact y_ret (fun k => ([h] : List Nat).getD k 0) C dX2_init_19 rfl (Nat.le_of_ble_eq_true rfl) (Nat.le_of_ble_eq_true rfl) rfl
set_option maxHeartbeats 4000000 in
set_option maxRecDepth 100000 in
theorem cy_X1 {aC : Nat → ClassId} (h n1 n2 n3 : Nat) : CY kX1_init 2 3510 aC [.ref h, .ref n1, .ref n2, .ref n3] (w0_X1 h) (w1_X1 aC h n1 n2 n3) := by
  refine CY.of (by decide) (Nat.le_of_ble_eq_true rfl) ?_
  intro l p e s m args below meth c D sz C
  show yW _ _ _ _ _ _ _ _ _ _ _ _ _ _ 0 0 0 [(0, .ref h), (1, .ref n1), (2, .ref n2), (3, .ref n3)] [] [(h, .inr (1, [.null, .null, .null, .null, .null]))]
  refine y_aload 0 C dX1_init_0 rfl ?_
  refine y_obj C dX1_init_1 (zm1 181 rfl rfl) ko_1 ko_2 (Nat.le_of_ble_eq_true rfl) (Nat.le_of_ble_eq_true rfl) ?_
  refine y_aload 0 C dX1_init_4 rfl ?_
  refine y_sipush (v := 3480) C dX1_init_5 (by decide) ?_
  refine y_newa (t0 := 0) (N := 3480) (cells' := 1) (slots' := 3480) C dX1_init_8 ka_int rfl rfl (fun _ => rfl) rfl (by decide) rfl (by decide) rfl rfl (Nat.le_of_ble_eq_true rfl) (Nat.le_of_ble_eq_true rfl) (fun q0 => ?_)
  refine y_ws (ws' := [(h, .inr (1, [.null, .null, .null, .null, .null])), (q0, .inl (aC 0, 3480, .inl (fun _ => 0)))]) rfl ?_
  refine y_put (q0 := 0) (ws' := [(h, .inr (1, [.null, .null, .null, .ref q0, .null])), (q0, .inl (aC 0, 3480, .inl (fun _ => 0)))]) C dX1_init_10 kf_X1_9 rfl rfl (Nat.le_of_ble_eq_true rfl) rfl rfl rfl ?_
  refine y_aload 0 C dX1_init_13 rfl ?_
  refine y_bipush (v := 30) C dX1_init_14 (by decide) ?_
  refine y_newa (t0 := 0) (N := 30) (cells' := 2) (slots' := 3510) C dX1_init_16 ka_int rfl rfl (fun _ => rfl) rfl (by decide) rfl (by decide) rfl rfl (Nat.le_of_ble_eq_true rfl) (Nat.le_of_ble_eq_true rfl) (fun q1 => ?_)
  refine y_ws (ws' := [(h, .inr (1, [.null, .null, .null, .ref q0, .null])), (q0, .inl (aC 0, 3480, .inl (fun _ => 0))), (q1, .inl (aC 0, 30, .inl (fun _ => 0)))]) rfl ?_
  refine y_put (q0 := 0) (ws' := [(h, .inr (1, [.null, .null, .null, .ref q0, .ref q1])), (q0, .inl (aC 0, 3480, .inl (fun _ => 0))), (q1, .inl (aC 0, 30, .inl (fun _ => 0)))]) C dX1_init_18 kf_X1_15 rfl rfl (Nat.le_of_ble_eq_true rfl) rfl rfl rfl ?_
  refine y_aload 0 C dX1_init_21 rfl ?_
  refine y_aload 1 C dX1_init_22 rfl ?_
  refine y_put (q0 := 0) (ws' := [(h, .inr (1, [.ref n1, .null, .null, .ref q0, .ref q1])), (q0, .inl (aC 0, 3480, .inl (fun _ => 0))), (q1, .inl (aC 0, 30, .inl (fun _ => 0)))]) C dX1_init_23 kf_X1_18 rfl rfl (Nat.le_of_ble_eq_true rfl) rfl rfl rfl ?_
  refine y_aload 0 C dX1_init_26 rfl ?_
  refine y_aload 2 C dX1_init_27 rfl ?_
  refine y_put (q0 := 0) (ws' := [(h, .inr (1, [.ref n1, .ref n2, .null, .ref q0, .ref q1])), (q0, .inl (aC 0, 3480, .inl (fun _ => 0))), (q1, .inl (aC 0, 30, .inl (fun _ => 0)))]) C dX1_init_28 kf_X1_22 rfl rfl (Nat.le_of_ble_eq_true rfl) rfl rfl rfl ?_
  refine y_aload 0 C dX1_init_31 rfl ?_
  refine y_aload 3 C dX1_init_32 rfl ?_
  refine y_put (q0 := 0) (ws' := [(h, .inr (1, [.ref n1, .ref n2, .ref n3, .ref q0, .ref q1])), (q0, .inl (aC 0, 3480, .inl (fun _ => 0))), (q1, .inl (aC 0, 30, .inl (fun _ => 0)))]) C dX1_init_33 kf_X1_26 rfl rfl (Nat.le_of_ble_eq_true rfl) rfl rfl rfl ?_
  exact y_ret (fun k => ([h, 0, 0, 0, 0, 0, 0, 0, 0, 0, 0, 0, 0, 0, 0, 0, q0, q1] : List Nat).getD k 0) C dX1_init_36 rfl (Nat.le_of_ble_eq_true rfl) (Nat.le_of_ble_eq_true rfl) rfl
set_option maxHeartbeats 4000000 in
set_option maxRecDepth 100000 in
theorem cy_X4 {aC : Nat → ClassId} (h n1 n2 : Nat) : CY kX4_init 4 60 aC [.ref h, .ref n1, .ref n2] (w0_X4 h) (w1_X4 aC h n1 n2) := by
  refine CY.of (by decide) (Nat.le_of_ble_eq_true rfl) ?_
  intro l p e s m args below meth c D sz C
  show yW _ _ _ _ _ _ _ _ _ _ _ _ _ _ 0 0 0 [(0, .ref h), (1, .ref n1), (2, .ref n2)] [] [(h, .inr (4, [.null, .null, .int 0, .null, .int 0, .null, .null, .null]))]
  refine y_aload 0 C dX4_init_0 rfl ?_
  refine y_obj C dX4_init_1 (zm1 203 rfl rfl) ko_1 ko_2 (Nat.le_of_ble_eq_true rfl) (Nat.le_of_ble_eq_true rfl) ?_
  refine y_aload 0 C dX4_init_4 rfl ?_
  refine y_bipush (v := 10) C dX4_init_5 (by decide) ?_
  refine y_newa (t0 := 0) (N := 10) (cells' := 1) (slots' := 10) C dX4_init_7 ka_int rfl rfl (fun _ => rfl) rfl (by decide) rfl (by decide) rfl rfl (Nat.le_of_ble_eq_true rfl) (Nat.le_of_ble_eq_true rfl) (fun q0 => ?_)
  refine y_ws (ws' := [(h, .inr (4, [.null, .null, .int 0, .null, .int 0, .null, .null, .null])), (q0, .inl (aC 0, 10, .inl (fun _ => 0)))]) rfl ?_
  refine y_put (q0 := 0) (ws' := [(h, .inr (4, [.null, .null, .int 0, .ref q0, .int 0, .null, .null, .null])), (q0, .inl (aC 0, 10, .inl (fun _ => 0)))]) C dX4_init_9 kf_X4_9 rfl rfl (Nat.le_of_ble_eq_true rfl) rfl rfl rfl ?_
  refine y_aload 0 C dX4_init_12 rfl ?_
  refine y_bipush (v := 10) C dX4_init_13 (by decide) ?_
  refine y_newa (t0 := 0) (N := 10) (cells' := 2) (slots' := 20) C dX4_init_15 ka_int rfl rfl (fun _ => rfl) rfl (by decide) rfl (by decide) rfl rfl (Nat.le_of_ble_eq_true rfl) (Nat.le_of_ble_eq_true rfl) (fun q1 => ?_)
  refine y_ws (ws' := [(h, .inr (4, [.null, .null, .int 0, .ref q0, .int 0, .null, .null, .null])), (q0, .inl (aC 0, 10, .inl (fun _ => 0))), (q1, .inl (aC 0, 10, .inl (fun _ => 0)))]) rfl ?_
  refine y_put (q0 := 0) (ws' := [(h, .inr (4, [.null, .null, .int 0, .ref q0, .int 0, .ref q1, .null, .null])), (q0, .inl (aC 0, 10, .inl (fun _ => 0))), (q1, .inl (aC 0, 10, .inl (fun _ => 0)))]) C dX4_init_17 kf_X4_15 rfl rfl (Nat.le_of_ble_eq_true rfl) rfl rfl rfl ?_
  refine y_aload 0 C dX4_init_20 rfl ?_
  refine y_bipush (v := 10) C dX4_init_21 (by decide) ?_
  refine y_newa (t0 := 0) (N := 10) (cells' := 3) (slots' := 30) C dX4_init_23 ka_int rfl rfl (fun _ => rfl) rfl (by decide) rfl (by decide) rfl rfl (Nat.le_of_ble_eq_true rfl) (Nat.le_of_ble_eq_true rfl) (fun q2 => ?_)
  refine y_ws (ws' := [(h, .inr (4, [.null, .null, .int 0, .ref q0, .int 0, .ref q1, .null, .null])), (q0, .inl (aC 0, 10, .inl (fun _ => 0))), (q1, .inl (aC 0, 10, .inl (fun _ => 0))), (q2, .inl (aC 0, 10, .inl (fun _ => 0)))]) rfl ?_
  refine y_put (q0 := 0) (ws' := [(h, .inr (4, [.null, .null, .int 0, .ref q0, .int 0, .ref q1, .ref q2, .null])), (q0, .inl (aC 0, 10, .inl (fun _ => 0))), (q1, .inl (aC 0, 10, .inl (fun _ => 0))), (q2, .inl (aC 0, 10, .inl (fun _ => 0)))]) C dX4_init_25 kf_X4_18 rfl rfl (Nat.le_of_ble_eq_true rfl) rfl rfl rfl ?_
  refine y_aload 0 C dX4_init_28 rfl ?_
  refine y_bipush (v := 30) C dX4_init_29 (by decide) ?_
  refine y_newa (t0 := 0) (N := 30) (cells' := 4) (slots' := 60) C dX4_init_31 ka_int rfl rfl (fun _ => rfl) rfl (by decide) rfl (by decide) rfl rfl (Nat.le_of_ble_eq_true rfl) (Nat.le_of_ble_eq_true rfl) (fun q3 => ?_)
  refine y_ws (ws' := [(h, .inr (4, [.null, .null, .int 0, .ref q0, .int 0, .ref q1, .ref q2, .null])), (q0, .inl (aC 0, 10, .inl (fun _ => 0))), (q1, .inl (aC 0, 10, .inl (fun _ => 0))), (q2, .inl (aC 0, 10, .inl (fun _ => 0))), (q3, .inl (aC 0, 30, .inl (fun _ => 0)))]) rfl ?_
  refine y_put (q0 := 0) (ws' := [(h, .inr (4, [.null, .null, .int 0, .ref q0, .int 0, .ref q1, .ref q2, .ref q3])), (q0, .inl (aC 0, 10, .inl (fun _ => 0))), (q1, .inl (aC 0, 10, .inl (fun _ => 0))), (q2, .inl (aC 0, 10, .inl (fun _ => 0))), (q3, .inl (aC 0, 30, .inl (fun _ => 0)))]) C dX4_init_33 kf_X4_21 rfl rfl (Nat.le_of_ble_eq_true rfl) rfl rfl rfl ?_
  refine y_aload 0 C dX4_init_36 rfl ?_
  refine y_aload 1 C dX4_init_37 rfl ?_
  refine y_put (q0 := 0) (ws' := [(h, .inr (4, [.ref n1, .null, .int 0, .ref q0, .int 0, .ref q1, .ref q2, .ref q3])), (q0, .inl (aC 0, 10, .inl (fun _ => 0))), (q1, .inl (aC 0, 10, .inl (fun _ => 0))), (q2, .inl (aC 0, 10, .inl (fun _ => 0))), (q3, .inl (aC 0, 30, .inl (fun _ => 0)))]) C dX4_init_38 kf_X4_24 rfl rfl (Nat.le_of_ble_eq_true rfl) rfl rfl rfl ?_
  refine y_aload 0 C dX4_init_41 rfl ?_
  refine y_aload 2 C dX4_init_42 rfl ?_
  refine y_put (q0 := 0) (ws' := [(h, .inr (4, [.ref n1, .ref n2, .int 0, .ref q0, .int 0, .ref q1, .ref q2, .ref q3])), (q0, .inl (aC 0, 10, .inl (fun _ => 0))), (q1, .inl (aC 0, 10, .inl (fun _ => 0))), (q2, .inl (aC 0, 10, .inl (fun _ => 0))), (q3, .inl (aC 0, 30, .inl (fun _ => 0)))]) C dX4_init_43 kf_X4_28 rfl rfl (Nat.le_of_ble_eq_true rfl) rfl rfl rfl ?_
  exact y_ret (fun k => ([h, 0, 0, 0, 0, 0, 0, 0, 0, 0, 0, 0, 0, 0, 0, 0, 0, 0, 0, q0, q1, q2, q3] : List Nat).getD k 0) C dX4_init_46 rfl (Nat.le_of_ble_eq_true rfl) (Nat.le_of_ble_eq_true rfl) rfl
