/-! worlds that grow: what the constructors stand on -/
def zN2 : List Cond := [.methodLinkNest RX7 9 yX3_init RX7, .methodLinkNest RX7 25 yX6_init RX7, .methodLinkNest RX5 30 yX0_init RX7]
theorem zN2_form {w : Cond} (h : w ∈ zN2) : ∃ a i x b, w = .methodLinkNest a i x b := by
  simp only [zN2, List.mem_cons, List.not_mem_nil, or_false] at h
  rcases h with rfl | rfl | rfl <;> exact ⟨_, _, _, _, rfl⟩
def zX (D : va_G) (aC : Nat → ClassId) (U : State) : Prop := zK D aC U ∧ (∀ w ∈ zN2, va_Nw w U) ∧ va_AO RX0 U
theorem zX.warm {D : va_G} {aC : Nat → ClassId} {s U : State} (h : zX D aC s) (hW : s.WarmedH U.vm) : zX D aC U := by
  refine ⟨h.1.warm hW, fun w hw => ?_, h.2.2.moved hW.alike⟩
  have := h.2.1 w hw
  obtain ⟨a, i, x, b, rfl⟩ := zN2_form hw
  exact va_Nw.warmM hW this
theorem zX.call {D : va_G} {aC : Nat → ClassId} {U : State} {g : JFrame} {mk : MethodId} {a : Array Value} (h : zX D aC U) : zX D aC (U.calling g mk a) := by
  refine ⟨⟨va_K.moved (u := U) (U := U.calling g mk a) (Vm.Alike.refl U.vm) h.1.1, zNest_same (s := U) (U := U.calling g mk a) rfl h.1.2⟩, fun w hw => ?_, va_AO.moved (u := U) (U := U.calling g mk a) (Vm.Alike.refl U.vm) h.2.2⟩
  have := h.2.1 w hw
  obtain ⟨x, i, y, b, rfl⟩ := zN2_form hw
  exact va_Nw.same rfl rfl this
def yC (K : zM) (p : Program) (s : State) (m : MethodId) (args : Array Value) (meth : Method) (c : Code) (D : va_G) (aC : Nat → ClassId) (A : Nat → Prop) : Prop := zCx K p s m args meth c ∧ zX D aC s ∧ (K.1.name = "<init>" → meth.name = "<init>") ∧ ∀ q, s.heap.size ≤ q → A q
def yW (K : zM) (p : Program) (l : Launch) (e : Env) (R : Room) (s : State) (m : MethodId) (args : Array Value) (below : List Frame) (meth : Method) (c : Code) (D : va_G) (A : Nat → Prop) (Q : State → Prop) (cells slots pc : Nat) (L : List (Nat × Value)) (S : List Value) (ws : va_W) : Prop :=
  ∀ (H : Heap) (locs : List Loc) (ls : Array Slot), va_P D vwCl ws H → va_D A ws → va_S A s.heap H locs → lv_has ls K.2.2.1 L → W p l e R s m args below meth c H locs cells slots Q (F0 m pc ls S)
def yNu (own : String) (idx ci : Nat) (fs : List Value) : Prop := ∃ (C : String) (T : u_T) (N : Nat) (ty : Nat → FieldType), vwCl[ci]? = some (C, T, N) ∧ (∀ w ∈ u_ws C T N, w ∈ zTbl) ∧ (∀ k, k < N → parseFieldDescriptor (T k).2.2.1 = some (ty k)) ∧ Cond.classLink own idx C ∈ zTbl ∧ Cond.instantiable C N ∈ zTbl ∧ Cond.initialized C ∈ zTbl ∧ (∀ j, j < N → defaultValue (ty j) = vp_V fs j) ∧ fs.length = N
def yFP (own : String) (idx ci k : Nat) (ty : FieldType) : Prop := ∃ (R : String) (T : u_T) (N : Nat) (ty0 : Nat → FieldType), vwCl[ci]? = some (R, T, N) ∧ k < N ∧ (∀ w ∈ u_ws R T N, w ∈ zTbl) ∧ Cond.fieldLink own idx (T k).1 (T k).2.1 (T k).2.2.1 ∈ zTbl ∧ parseFieldDescriptor (T k).2.2.1 = some ty ∧ (∀ k, k < N → parseFieldDescriptor (T k).2.2.1 = some (ty0 k)) ∧ (∀ a, a < N → ∀ b, b < N → a ≠ b → (T a).2.1 ≠ (T b).2.1) ∧ (T k).1 = own
def yAt (t : ArrayType) : Nat × FieldType := match t with
  | .boolean => (1, .boolean)
  | .byte => (2, .byte)
  | _ => (0, .int)
section Y
variable {K : zM} {p : Program} {l : Launch} {e : Env} {R : Room} {s : State} {m : MethodId} {args : Array Value} {below : List Frame} {meth : Method} {c : Code} {D : va_G} {aC : Nat → ClassId} {A : Nat → Prop} {Q : State → Prop} {cells slots pc : Nat} {L : List (Nat × Value)} {S : List Value} {ws : va_W}
theorem y_aload {i : Fin 4} {x : Nat} (kk : Nat) (C : yC K p s m args meth c D aC A) (d : decode K.2.1 pc = .ok (.aload_n i, 1)) (hL : L[kk]? = some ((i : Nat), .ref x)) (k : yW K p l e R s m args below meth c D A Q cells slots (pc + 1) L (.ref x :: S) ws) : yW K p l e R s m args below meth c D A Q cells slots pc L S ws :=
  fun H locs ls hP hD hS hl => lv_aload_n C.1.1 C.1.2.1 d rfl (lv_at hl kk hL) (k H locs ls hP hD hS hl)
theorem y_iload {i : Fin 4} {x : Int32} (kk : Nat) (C : yC K p s m args meth c D aC A) (d : decode K.2.1 pc = .ok (.iload_n i, 1)) (hL : L[kk]? = some ((i : Nat), .int x)) (k : yW K p l e R s m args below meth c D A Q cells slots (pc + 1) L (.int x :: S) ws) : yW K p l e R s m args below meth c D A Q cells slots pc L S ws :=
  fun H locs ls hP hD hS hl => lv_iload_n C.1.1 C.1.2.1 d rfl (lv_at hl kk hL) (k H locs ls hP hD hS hl)
theorem y_istore {i : Fin 4} {x : Int32} {L' : List (Nat × Value)} (C : yC K p s m args meth c D aC A) (d : decode K.2.1 pc = .ok (.istore_n i, 1)) (hn : (i : Nat) < K.2.2.1) (hL : ((i : Nat), Value.int x) :: L.filter (fun q => !(q.1 == (i : Nat)) && !(q.1 + 1 == (i : Nat) && q.2.category == 2)) = L') (k : yW K p l e R s m args below meth c D A Q cells slots (pc + 1) L' S ws) : yW K p l e R s m args below meth c D A Q cells slots pc L (.int x :: S) ws :=
  fun H locs ls hP hD hS hl => lv_istore_n C.1.1 C.1.2.1 d rfl hl hn hL (fun ls' hl' => k H locs ls' hP hD hS hl')
theorem y_astore {i : Fin 4} {x : Nat} {L' : List (Nat × Value)} (C : yC K p s m args meth c D aC A) (d : decode K.2.1 pc = .ok (.astore_n i, 1)) (hn : (i : Nat) < K.2.2.1) (hL : ((i : Nat), Value.ref x) :: L.filter (fun q => !(q.1 == (i : Nat)) && !(q.1 + 1 == (i : Nat) && q.2.category == 2)) = L') (k : yW K p l e R s m args below meth c D A Q cells slots (pc + 1) L' S ws) : yW K p l e R s m args below meth c D A Q cells slots pc L (.ref x :: S) ws :=
  fun H locs ls hP hD hS hl => lv_astore_n C.1.1 C.1.2.1 d rfl hl hn hL (fun ls' hl' => k H locs ls' hP hD hS hl')
theorem y_iinc {i kk : Nat} {n : Int} {x v : Int32} {L' : List (Nat × Value)} (C : yC K p s m args meth c D aC A) (d : decode K.2.1 pc = .ok (.iinc i n, 3)) (hk : L[kk]? = some (i, .int x)) (hv : x + Int32.ofInt n = v) (hn : i < K.2.2.1) (hL : (i, Value.int v) :: L.filter (fun q => !(q.1 == i) && !(q.1 + 1 == i && q.2.category == 2)) = L') (k : yW K p l e R s m args below meth c D A Q cells slots (pc + 3) L' S ws) : yW K p l e R s m args below meth c D A Q cells slots pc L S ws :=
  fun H locs ls hP hD hS hl => lv_iinc C.1.1 C.1.2.1 d hl hk hv hn hL (fun ls' hl' => k H locs ls' hP hD hS hl')
theorem y_goto {off : Int} (t : Nat) (C : yC K p s m args meth c D aC A) (d : decode K.2.1 pc = .ok (.goto off, 3)) (ht : (pc : Int) + off = (t : Int)) (k : yW K p l e R s m args below meth c D A Q cells slots t L S ws) : yW K p l e R s m args below meth c D A Q cells slots pc L S ws :=
  fun H locs ls hP hD hS hl => lv_goto C.1.1 C.1.2.1 d ht (k H locs ls hP hD hS hl)
theorem y_iconst {n : Int} {v : Int32} (C : yC K p s m args meth c D aC A) (d : decode K.2.1 pc = .ok (.iconst n, 1)) (hv : Int32.ofInt n = v) (k : yW K p l e R s m args below meth c D A Q cells slots (pc + 1) L (.int v :: S) ws) : yW K p l e R s m args below meth c D A Q cells slots pc L S ws :=
  fun H locs ls hP hD hS hl => lv_iconst C.1.1 C.1.2.1 d hv (k H locs ls hP hD hS hl)
theorem y_bipush {n : Int} {v : Int32} (C : yC K p s m args meth c D aC A) (d : decode K.2.1 pc = .ok (.bipush n, 2)) (hv : (Int8.ofInt n).toInt32 = v) (k : yW K p l e R s m args below meth c D A Q cells slots (pc + 2) L (.int v :: S) ws) : yW K p l e R s m args below meth c D A Q cells slots pc L S ws :=
  fun H locs ls hP hD hS hl => lv_bipush C.1.1 C.1.2.1 d hv (k H locs ls hP hD hS hl)
theorem y_sipush {n : Int} {v : Int32} (C : yC K p s m args meth c D aC A) (d : decode K.2.1 pc = .ok (.sipush n, 3)) (hv : (Int16.ofInt n).toInt32 = v) (k : yW K p l e R s m args below meth c D A Q cells slots (pc + 3) L (.int v :: S) ws) : yW K p l e R s m args below meth c D A Q cells slots pc L S ws :=
  fun H locs ls hP hD hS hl => lv_sipush C.1.1 C.1.2.1 d hv (k H locs ls hP hD hS hl)
theorem y_ldc {i : Nat} {v : Int32} (C : yC K p s m args meth c D aC A) (d : decode K.2.1 pc = .ok (.ldc i, 2)) (hw : Cond.constant K.1.cls i v ∈ zTbl) (k : yW K p l e R s m args below meth c D A Q cells slots (pc + 2) L (.int v :: S) ws) : yW K p l e R s m args below meth c D A Q cells slots pc L S ws :=
  fun H locs ls hP hD hS hl => lv_ldc C.1.1 C.1.2.1 C.1.2.2.2.1 (C.1.2.2.2.2.1 _ hw) d (k H locs ls hP hD hS hl)
theorem y_dup {v : Value} (C : yC K p s m args meth c D aC A) (d : decode K.2.1 pc = .ok (.dup, 1)) (hv : v.category = 1) (k : yW K p l e R s m args below meth c D A Q cells slots (pc + 1) L (v :: v :: S) ws) : yW K p l e R s m args below meth c D A Q cells slots pc L (v :: S) ws :=
  fun H locs ls hP hD hS hl => lv_dup C.1.1 C.1.2.1 d hv (k H locs ls hP hD hS hl)
theorem y_obj {i a : Nat} (C : yC K p s m args meth c D aC A) (d : decode K.2.1 pc = .ok (.invokespecial i, 3)) (hw : Cond.methodLink K.1.cls i Lib.objectInit ∈ zTbl) (hw2 : Cond.instanceMethod Lib.objectInit ∈ zTbl) (hw3 : Cond.code Lib.objectInit ⟨#[0xb1]⟩ 1 none ∈ zTbl) (hf : 1 ≤ R.frames) (hlo : (S.map fun v => v.category).sum + 12 ≤ R.locals) (k : yW K p l e R s m args below meth c D A Q cells slots (pc + 3) L S ws) : yW K p l e R s m args below meth c D A Q cells slots pc L (.ref a :: S) ws := by
  intro H locs ls hP hD hS hl
  obtain ⟨hx, hb, hml, hown, hts, hr, hlk⟩ := C.1
  refine W.objInit hx hb hown (hts _ hw) (hts _ hw2) (hts _ hw3) rfl (by rw [hml]; exact hl.1) rfl d hf (by simpa [F0] using hlo) ?_
  exact k H locs ls hP hD hS hl
theorem y_new {i ci N : Nat} {fs : List Value} {cells' slots' : Nat} (C : yC K p s m args meth c D aC A) (d : decode K.2.1 pc = .ok (.new i, 3)) (hn : yNu K.1.cls i ci fs) (hN : fs.length = N) (h1 : cells + 1 = cells') (h2 : slots + N = slots') (hc : cells' ≤ R.cells) (hs : slots' ≤ R.slots) (k : ∀ q, yW K p l e R s m args below meth c D A Q cells' slots' (pc + 3) L (.ref q :: S) (ws ++ [(q, .inr (ci, fs))])) : yW K p l e R s m args below meth c D A Q cells slots pc L S ws := by
  intro H locs ls hP hD hS hl
  obtain ⟨hx, hb, hml, hown, hts, hr, hlk⟩ := C.1
  obtain ⟨Cn, T, N0, ty, hcl, hin, hty, hcw, hiw, hnw, hfs, hlen⟩ := hn
  subst h1 h2
  rw [hN] at hlen
  subst hlen
  exact va_new hx hb hts hin ty hty hown (hts _ hcw) (hts _ hiw) (hts _ hnw) C.2.1.1.1 hP hD hS C.2.2.2 hcl hfs hc hs d (fun q H1 hP1 hD1 hS1 => k q H1 locs ls hP1 hD1 hS1 hl)
theorem y_newa {t : ArrayType} {n : Int32} {N t0 : Nat} {ty : FieldType} {cells' slots' : Nat} (C : yC K p s m args meth c D aC A) (d : decode K.2.1 pc = .ok (.newarray t, 2)) (hw : Cond.arrayClass (newarray.typeOf t) ∈ zTbl) (hty : newarray.typeOf t = ty) (ht0 : (zT aC)[t0]? = some (aC t0, ty)) (hnoobj : ∀ cA, va_RA s cA ty = (s.vm.findClass ("[" ++ ty.toString) = some cA)) (hdv : defaultValue ty = .int 0) (hn : ¬ n < 0) (hN : n.toNatClampNeg = N) (hbytes : N * componentBytes ty ≤ 536870912) (h1 : cells + 1 = cells') (h2 : slots + N = slots') (hc : cells' ≤ R.cells) (hs : slots' ≤ R.slots) (k : ∀ q, yW K p l e R s m args below meth c D A Q cells' slots' (pc + 2) L (.ref q :: S) (ws ++ [(q, .inl (aC t0, N, .inl (fun _ => 0)))])) : yW K p l e R s m args below meth c D A Q cells slots pc L (.int n :: S) ws := by
  intro H locs ls hP hD hS hl
  obtain ⟨hx, hb, hml, hown, hts, hr, hlk⟩ := C.1
  subst h1 h2
  refine va_newa hx hb (hts _ hw) hty C.2.1.1.1 hP hD hS C.2.2.2 (a0 := (N, .inl (fun _ => 0))) (fun cA => by rw [hdv]; rfl) hn hN hbytes hc hs d (fun q cA H1 hK1 hP1 hD1 hS1 => ?_)
  have e : cA = aC t0 := by
    have h1 := (C.2.1.1.1.2 t0 _ ht0).2
    have h2 := (hK1.2 (zT aC).length (cA, ty) (by rw [List.getElem?_append_right (Nat.le_refl _), Nat.sub_self]; rfl)).2
    rw [hnoobj] at h1 h2
    exact Option.some.inj (h2.symm.trans h1)
  subst e
  exact k q H1 locs ls hP1 hD1 hS1 hl
theorem y_newq {i : Nat} {n : Int32} {N : Nat} {cells' slots' : Nat} (C : yC K p s m args meth c D aC A) (d : decode K.2.1 pc = .ok (.anewarray i, 3)) (hw : Cond.classLink K.1.cls i RX0 ∈ zTbl) (hn : ¬ n < 0) (hN : n.toNatClampNeg = N) (hbytes : N * 4 ≤ 536870912) (h1 : cells + 1 = cells') (h2 : slots + N = slots') (hc : cells' ≤ R.cells) (hs : slots' ≤ R.slots) (k : ∀ q, yW K p l e R s m args below meth c D A Q cells' slots' (pc + 3) L (.ref q :: S) (ws ++ [(q, .inl (aC 3, N, .inr (.inr (.inr (.inr (fun _ => none))))))])) : yW K p l e R s m args below meth c D A Q cells slots pc L (.int n :: S) ws := by
  intro H locs ls hP hD hS hl
  obtain ⟨hx, hb, hml, hown, hts, hr, hlk⟩ := C.1
  subst h1 h2
  refine va_newq hx hb hown (hts _ hw) C.2.1.2.2 C.2.1.1.1 hP hD hS C.2.2.2 hn hN hbytes hc hs d (fun q cA H1 hK1 hP1 hD1 hS1 => ?_)
  have e : cA = aC 3 := by
    obtain ⟨-, -, -, -, -, h1⟩ := (C.2.1.1.1.2 3 (aC 3, .object RX0) rfl).2
    obtain ⟨-, -, -, -, -, h2⟩ := (hK1.2 (zT aC).length (cA, .object RX0) (by rw [List.getElem?_append_right (Nat.le_refl _), Nat.sub_self]; rfl)).2
    exact Option.some.inj (h2.symm.trans h1)
  subst e
  exact k q H1 locs ls hP1 hD1 hS1 hl
theorem y_put {i a ci n q0 : Nat} {v : Value} {ty : FieldType} {fs : List Value} {ws' : va_W} (C : yC K p s m args meth c D aC A) (d : decode K.2.1 pc = .ok (.putfield i, 3)) (hf : yFP K.1.cls i ci n ty) (hi : K.1.name = "<init>") (he : ws[q0]? = some (a, .inr (ci, fs))) (hl0 : n < fs.length) (hn : narrow ty v = v) (hfi : fits ty v = true) (hw : ws.set q0 (a, .inr (ci, fs.set n v)) = ws') (k : yW K p l e R s m args below meth c D A Q cells slots (pc + 3) L S ws') : yW K p l e R s m args below meth c D A Q cells slots pc L (v :: .ref a :: S) ws := by
  intro H locs ls hP hD hS hl
  obtain ⟨hx, hb, hml, hown, hts, hr, hlk⟩ := C.1
  obtain ⟨Rn, T, N, ty0, hcl, hkN, hin, hlw, hpd, hty, hnm, hdecl⟩ := hf
  subst hw
  cases hfin : (T n).2.2.2 with
  | true => exact va_putF hx hb hts hin ty0 hty hnm hown C.2.1.1.1 hP hD hS q0 he hcl n hkN (hts _ hlw) (fun _ h9 => h9) hfin (C.2.2.1 hi) hdecl hpd hn hfi hl0 d (fun H1 locs1 hP1 hD1 hS1 => k H1 locs1 ls hP1 hD1 hS1 hl)
  | false => exact va_put hx hb hts hin ty0 hty hnm hown C.2.1.1.1 hP hD hS q0 he hcl n hkN (hts _ hlw) (fun _ h9 => h9) hfin hpd hn hfi hl0 d (fun H1 locs1 hP1 hD1 hS1 => k H1 locs1 ls hP1 hD1 hS1 hl)
theorem y_get {i a ci n q0 : Nat} {v : Value} {ty : FieldType} {fs : List Value} (C : yC K p s m args meth c D aC A) (d : decode K.2.1 pc = .ok (.getfield i, 3)) (hf : yFP K.1.cls i ci n ty) (he : ws[q0]? = some (a, .inr (ci, fs))) (hv : fs[n]? = some v) (k : yW K p l e R s m args below meth c D A Q cells slots (pc + 3) L (v :: S) ws) : yW K p l e R s m args below meth c D A Q cells slots pc L (.ref a :: S) ws := by
  intro H locs ls hP hD hS hl
  obtain ⟨hx, hb, hml, hown, hts, hr, hlk⟩ := C.1
  obtain ⟨Rn, T, N, ty0, hcl, hkN, hin, hlw, hpd, hty, hnm, hdecl⟩ := hf
  exact va_get hx hb hts hin hown C.2.1.1.1 hP q0 he hcl n hkN (hts _ hlw) (fun _ h9 => h9) hv d (k H locs ls hP hD hS hl)
theorem y_iast {a q0 n : Nat} {f : Nat → Int32} {i x : Int32} {ws' : va_W} (C : yC K p s m args meth c D aC A) (d : decode K.2.1 pc = .ok (.iastore, 1)) (he : ws[q0]? = some (a, .inl (aC 0, n, .inl f))) (hin : vp_in i n) (hw : ws.set q0 (a, .inl (aC 0, n, .inl (upd f i.toNatClampNeg x))) = ws') (k : yW K p l e R s m args below meth c D A Q cells slots (pc + 1) L S ws') : yW K p l e R s m args below meth c D A Q cells slots pc L (.int x :: .int i :: .ref a :: S) ws := by
  intro H locs ls hP hD hS hl
  subst hw
  exact va_iast C.1.1 C.1.2.1 C.2.1.1.1 hP hD hS q0 0 he rfl hin d (fun H1 locs1 hP1 hD1 hS1 => k H1 locs1 ls hP1 hD1 hS1 hl)
theorem y_aast {a q0 qk n v : Nat} {vs : List Value} {f : Nat → Option Nat} {i : Int32} {ws' : va_W} (C : yC K p s m args meth c D aC A) (d : decode K.2.1 pc = .ok (.aastore, 1)) (he : ws[q0]? = some (a, .inl (aC 3, n, .inr (.inr (.inr (.inr f)))))) (hv : ws[qk]? = some (v, .inr (0, vs))) (hin : vp_in i n) (hw : ws.set q0 (a, .inl (aC 3, n, .inr (.inr (.inr (.inr (va_up f i.toNatClampNeg (some v))))))) = ws') (k : yW K p l e R s m args below meth c D A Q cells slots (pc + 1) L S ws') : yW K p l e R s m args below meth c D A Q cells slots pc L (.ref v :: .int i :: .ref a :: S) ws := by
  intro H locs ls hP hD hS hl
  subst hw
  exact va_astq (r := (RX0, TX0, 3)) C.1.1 C.1.2.1 C.2.1.1.1 hP hD hS q0 3 qk 0 he rfl hv rfl hin d (fun H1 locs1 hP1 hD1 hS1 => k H1 locs1 ls hP1 hD1 hS1 hl)
theorem y_ige {off : Int} {x y : Int32} (t : Nat) (C : yC K p s m args meth c D aC A) (d : decode K.2.1 pc = .ok (.if_icmp .ge off, 3)) (ht : (pc : Int) + off = (t : Int)) (k1 : y ≤ x → yW K p l e R s m args below meth c D A Q cells slots t L S ws) (k2 : ¬ y ≤ x → yW K p l e R s m args below meth c D A Q cells slots (pc + 3) L S ws) : yW K p l e R s m args below meth c D A Q cells slots pc L (.int y :: .int x :: S) ws :=
  fun H locs ls hP hD hS hl => lv_icmp_ge C.1.1 C.1.2.1 d ht (fun q => k1 q H locs ls hP hD hS hl) (fun q => k2 q H locs ls hP hD hS hl)
/-- the world in another order, or a part of it -/
theorem y_sub {ws' : va_W} (is : List Nat) (hn : va_nd is = true) (h1 : is.filterMap (fun i => ws[i]?) = ws') (h2 : is.map (fun i => ws[i]?) = ws'.map some) (k : yW K p l e R s m args below meth c D A Q cells slots pc L S ws') : yW K p l e R s m args below meth c D A Q cells slots pc L S ws :=
  fun H locs ls hP hD hS hl => k H locs ls (hP.sub is h1) (hD.sub is hn h2) hS hl
/-- the contract of a constructor: of its own cell it makes w1 -/
def yPc (D : va_G) (aC : Nat → ClassId) (sz : Nat) (av : List Value) (w0 : va_W) : Array Value → State → Prop := va_Pc av (fun U => U.heap.size = sz ∧ va_P D vwCl w0 U.heap ∧ zX D aC U ∧ va_D (fun _ => True) w0)
def yQc (D : va_G) (sz : Nat) (w0 : va_W) (w1 : (Nat → Nat) → va_W) : Array Value → State → Outcome → State → Prop := va_Qv (fun _ : Nat → Nat => True) (fun ad t => va_P D vwCl (w1 ad) t.heap ∧ va_D (va_A w0 sz) (w1 ad)) (va_A w0 sz)
def CY (K : zM) (mc ms : Nat) (aC : Nat → ClassId) (av : List Value) (w0 : va_W) (w1 : (Nat → Nat) → va_W) : Prop := ∀ (l : Launch) (D : va_G) (sz : Nat), Met l K.1 (zWd K) { frames := K.2.2.2.2.1, cells := mc, slots := ms, locals := K.2.2.2.2.2 } (yPc D aC sz av w0) (yQc D sz w0 w1) mc ms (va_A w0 sz)
theorem yBlind {sz : Nat} {av : List Value} {w0 : va_W} : FrameBlind (yPc D aC sz av w0) := by
  intro a U g mk h
  obtain ⟨h1, h2, h3, h4, h5⟩ := h
  exact ⟨h1, h2, h3, h4.call, h5⟩
theorem CY.of {mc ms : Nat} {av : List Value} {w0 : va_W} {w1 : (Nat → Nat) → va_W} (hy : plainName K.1.cls = true) (hn : (lg_sl av).length ≤ K.2.2.1)
    (h : ∀ (l : Launch) (p : Program) (e : Env) (s : State) (m : MethodId) (args : Array Value) (below : List Frame) (meth : Method) (c : Code) (D : va_G) (sz : Nat), yC K p s m args meth c D aC (va_A w0 sz) → yW K p l e { frames := K.2.2.2.2.1, cells := mc, slots := ms, locals := K.2.2.2.2.2 } s m args below meth c D (va_A w0 sz) (MQ below (yQc D sz w0 w1) args s mc ms (va_A w0 sz)) 0 0 0 (lv_args 0 av) [] w0) : CY K mc ms aC av w0 w1 := by
  intro l D sz
  refine Met.ofW (cc := K.2.1) (maxL := K.2.2.1) (ret := K.2.2.2.1) (ws' := zTbl) hy rfl ?_
  intro p e s m args below meth c s₁ B hml hv
  obtain ⟨rfl, hsz, hP, hX, hD0⟩ := hv
  have hts := atoms_spec (ws := zWd K) B.pre
  have hl := lv_entry av (n := K.2.2.1) hn
  rw [lg_entry_eq]
  exact h l p e s m _ below meth c D sz ⟨⟨B.exec, B.bytes, hml, findClass_of_methodNamed B.named, fun w hw => hts w (List.mem_cons_of_mem _ hw), B.returns, B.notSynchronized⟩, hX, fun q => (name_of_methodNamed B.named B.method).1.trans q, fun q hq => Or.inr (by rw [← hsz]; exact hq)⟩ s.heap [] _ hP hD0.self va_S.rf hl
theorem y_ret {sz mc ms : Nat} {w0 : va_W} {w1 : (Nat → Nat) → va_W} (ad : Nat → Nat) (C : yC K p s m args meth c D aC (va_A w0 sz)) (d : decode K.2.1 pc = .ok (.return_, 1)) (hr : K.2.2.2.1 = none) (hc : cells ≤ mc) (hs : slots ≤ ms) (hw : ws = w1 ad) : yW K p l e R s m args below meth c D (va_A w0 sz) (MQ below (yQc D sz w0 w1) args s mc ms (va_A w0 sz)) cells slots pc L [] ws := by
  intro H locs ls hP hD hS hl
  obtain ⟨hx, hb, hml, hown, hts, hrt, hlk⟩ := C.1
  subst hw
  refine W.widen hc hs ?_
  exact W.vret hx hb (hrt.trans hr) (fun t ht hW => ⟨⟨ad, rfl, trivial, by rw [ht]; exact hP, hD⟩, hS.F ht⟩) hS.2.2 d (hlocks := hlk)
/-- a constructor is called: plainly, or as a nest mate's -/
theorem y_call {K' : zM} {mc ms i n b : Nat} {As : List Value} {w0 wr : va_W} {w1 : (Nat → Nat) → va_W} {cells' slots' : Nat} {S0 : List Value} (C : yC K p s m args meth c D aC A) (hM : CY K' mc ms aC (.ref b :: As) w0 w1) (d : decode K.2.1 pc = .ok (.invokespecial i, 3)) (hl : Cond.methodLink K.1.cls i K'.1 ∈ zTbl ∨ ∃ host, Cond.methodLinkNest K.1.cls i K'.1 host ∈ zN2) (hK' : K'.1.name = "<init>" ∧ K'.2.2.2.1 = none ∧ Cond.instanceMethod K'.1 ∈ zTbl ∧ Cond.initialized K'.1.cls ∈ zTbl ∧ Cond.code K'.1 K'.2.1 K'.2.2.1 K'.2.2.2.1 ∈ zTbl ∧ K'.1.cls ≠ "java/lang/invoke/MethodHandle" ∧ K'.1.cls ≠ "java/lang/invoke/VarHandle" ∧ (parseMethodDescriptor K'.1.desc).map (fun d => d.parameters.length) = some n) (hfit : K'.2.2.2.2.1 + 1 ≤ R.frames ∧ 8 + (K'.2.2.1 + 11) + K'.2.2.2.2.2 ≤ R.locals) (hn : As.length = n) (hs : (S.map fun v => v.category).sum ≤ 8) (hS0 : S0 = As.reverse ++ .ref b :: S)
    (isC isR : List Nat) (hC : isC.map (fun i => ws[i]?) = w0.map some) (hR : isR.map (fun i => ws[i]?) = wr.map some) (hCn : va_nd isC = true) (hCf : isC.filterMap (fun i => ws[i]?) = w0) (hRn : va_nd isR = true) (hdis : ∀ i ∈ isR, i ∉ isC)
    (h1 : cells + mc = cells') (h2 : slots + ms = slots') (hc : cells' ≤ R.cells) (hsl : slots' ≤ R.slots) (k : ∀ ad : Nat → Nat, yW K p l e R s m args below meth c D A Q cells' slots' (pc + 3) L S (wr ++ w1 ad)) : yW K p l e R s m args below meth c D A Q cells slots pc L S0 ws := by
  intro H locs ls hP hD hS hl0
  obtain ⟨hx, hb, hml, hown, hts, hr, hlk⟩ := C.1
  subst h1 h2 hS0
  have hPc := hP.sub (ws' := w0) isC hCf
  have hDc := hD.sub (ws' := w0) isC hCn hC
  have hFc := va_free (wc := w0) hD hS C.2.2.2 isC hC
  have hp : PreS s H (yPc D aC H.size (.ref b :: As) w0) (.ref b :: As) := ⟨yBlind, fun U hU hW => ⟨rfl, by rw [hU], by rw [hU]; exact hPc, C.2.1.warm hW, hDc.weaken (fun _ _ _ _ => trivial)⟩⟩
  have hrun : va_Run p l e R s m args below meth c H locs cells slots mc ms (F0 m pc ls (As.reverse ++ .ref b :: S)) S (yQc D H.size w0 w1 (Value.ref b :: As).toArray) (va_A w0 H.size) := by
    have hd : K'.1.cls ≠ "java/lang/invoke/MethodHandle" ∧ K'.1.cls ≠ "java/lang/invoke/VarHandle" ∧ (parseMethodDescriptor K'.1.desc).map (fun d => d.parameters.length) = some n := hK'.2.2.2.2.2
    have hcode : Cond.code K'.1 K'.2.1 K'.2.2.1 none ∈ zTbl := by rw [← hK'.2.1]; exact hK'.2.2.2.2.1
    have hw' : zWd K' = Cond.code K'.1 K'.2.1 K'.2.2.1 none :: zTbl := by unfold zWd; rw [hK'.2.1]
    rcases hl with hl | ⟨host, hl⟩
    · exact va_runI (As := As) (rest := S) (b := b) (cc := K.2.1) (nL := K.2.2.1) (Ts := zTbl) ⟨hx, hb, hml, hown, hts⟩ (hM l D H.size) (cwI n hts (zGood hK'.2.2.2.2.1) hw' rfl rfl (hts _ hK'.2.2.2.1) (hts _ hl) (hts _ hK'.2.2.1) hK'.1 hd ⟨hfit.1, hfit.2⟩) hp rfl hn hl0.1 rfl (lv_room hs) d ⟨hc, hsl⟩
    · exact va_runIN (As := As) (rest := S) (b := b) (cc := K.2.1) (nL := K.2.2.1) (Ts := zTbl) ⟨hx, hb, hml, hown, hts⟩ (hM l D H.size) ⟨va_cnB n hts (zGood hK'.2.2.2.2.1) hw' rfl rfl (C.2.1.2.1 _ hl) (hts _ hK'.2.2.2.1) hd ⟨hfit.1, hfit.2⟩, hK'.1, hts _ hK'.2.2.1⟩ hp rfl hn hl0.1 rfl (lv_room hs) d ⟨hc, hsl⟩
  refine va_callv hrun hS (fun q _ h => hFc q h) hFc (fun u t H1 locs1 ht hvm hw hB hz1 hk1 hS1 => ?_)
  obtain ⟨hP1, hD1⟩ := hB
  rw [ht] at hP1
  obtain ⟨hP2, hD2⟩ := va_join (wr := wr) (w1 := w1 u) hP hD isC isR hC hR hRn hdis hk1 hFc hP1 hD1
  exact k u H1 locs1 ls hP2 hD2 hS1 hl0
/-- an array's contents count under its length alone -/
theorem y_arr {q0 a n : Nat} {cA : ClassId} {f f' : Nat → Int32} {ws' : va_W} (he : ws[q0]? = some (a, .inl (cA, n, .inl f))) (hff : ∀ j, j < n → f j = f' j) (hw : ws.set q0 (a, .inl (cA, n, .inl f')) = ws') (k : yW K p l e R s m args below meth c D A Q cells slots pc L S ws') : yW K p l e R s m args below meth c D A Q cells slots pc L S ws := by
  intro H locs ls hP hD hS hl
  subst hw
  have ec : vp_cell cA (n, .inl f) = vp_cell cA (n, .inl f') := by
    show arrV cA n (fun j => .int (f j)) = arrV cA n (fun j => .int (f' j))
    unfold arrV
    congr 1
    apply Array.ext
    · simp
    · intro i h1 h2
      simp
      exact hff i (by simpa using h1)
  refine k H locs ls (fun k q hk => ?_) (hD.set he) hS hl
  rw [List.getElem?_set] at hk
  split at hk
  · next q1 =>
    split at hk
    · cases hk
      have := hP q0 _ he
      show H[a]? = some (vp_cell cA (n, .inl f'))
      rw [← ec]
      exact this
    · cases hk
  · exact hP k q hk
/-- the place of an array of objects, likewise -/
theorem y_arq {q0 a n : Nat} {cA : ClassId} {f f' : Nat → Option Nat} {ws' : va_W} (he : ws[q0]? = some (a, .inl (cA, n, .inr (.inr (.inr (.inr f)))))) (hff : ∀ j, j < n → f j = f' j) (hw : ws.set q0 (a, .inl (cA, n, .inr (.inr (.inr (.inr f'))))) = ws') (k : yW K p l e R s m args below meth c D A Q cells slots pc L S ws') : yW K p l e R s m args below meth c D A Q cells slots pc L S ws := by
  intro H locs ls hP hD hS hl
  subst hw
  have ec : vp_cell cA (n, .inr (.inr (.inr (.inr f)))) = vp_cell cA (n, .inr (.inr (.inr (.inr f')))) := by
    show arrV cA n (fun j => va_rf (f j)) = arrV cA n (fun j => va_rf (f' j))
    unfold arrV
    congr 1
    apply Array.ext
    · simp
    · intro i h1 h2
      simp
      rw [hff i (by simpa using h1)]
  refine k H locs ls (fun k q hk => ?_) (hD.set he) hS hl
  rw [List.getElem?_set] at hk
  split at hk
  · next q1 =>
    split at hk
    · cases hk
      have := hP q0 _ he
      show H[a]? = some (vp_cell cA (n, .inr (.inr (.inr (.inr f')))))
      rw [← ec]
      exact this
    · cases hk
  · exact hP k q hk
end Y
