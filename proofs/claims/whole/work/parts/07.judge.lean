/-! the places of the two objects -/
def LAY : List zKd := [
  .inr (.inl (7, [some (some 1), some (some 7), some (some 13), some (some 14), some (some 15), some (some 18), some (some 23), some (some 24), none, none, none])),
  .inr (.inl (3, [none, none, none, some (some 2), some (some 3), some (some 4), some (some 5), some (some 6)])),
  .inl (0, 30), .inl (0, 30), .inl (0, 30), .inl (0, 30), .inl (0, 30),
  .inr (.inl (5, [some (some 8), none, none, some (some 9), some (some 10), some (some 11), some (some 12)])),
  .inr (.inr [some 25, some 28, some 31, some 34, some 37, some 40, some 43, some 46]),
  .inl (0, 30), .inl (0, 30), .inl (0, 30), .inl (0, 30),
  .inr (.inl (6, [none, none, none])),
  .inr (.inl (2, [some (some 1), some (some 7), some (some 13), none, none, none, none])),
  .inr (.inl (1, [some (some 1), some (some 7), some (some 13), some (some 16), some (some 17)])),
  .inl (0, 3480), .inl (0, 30),
  .inr (.inl (4, [some (some 7), some (some 15), none, some (some 19), none, some (some 20), some (some 21), some (some 22)])),
  .inl (0, 10), .inl (0, 10), .inl (0, 10), .inl (0, 30),
  .inl (0, 30), .inl (0, 30),
  .inr (.inl (0, [none, some (some 26), some (some 27)])), .inl (0, 8), .inl (0, 8),
  .inr (.inl (0, [none, some (some 29), some (some 30)])), .inl (0, 8), .inl (0, 8),
  .inr (.inl (0, [none, some (some 32), some (some 33)])), .inl (0, 8), .inl (0, 8),
  .inr (.inl (0, [none, some (some 35), some (some 36)])), .inl (0, 8), .inl (0, 8),
  .inr (.inl (0, [none, some (some 38), some (some 39)])), .inl (0, 8), .inl (0, 8),
  .inr (.inl (0, [none, some (some 41), some (some 42)])), .inl (0, 8), .inl (0, 8),
  .inr (.inl (0, [none, some (some 44), some (some 45)])), .inl (0, 8), .inl (0, 8),
  .inr (.inl (0, [none, some (some 47), some (some 48)])), .inl (0, 8), .inl (0, 8),
  .inr (.inl (8, [none, none, none, none, none, none, some (some 50), some (some 51), some (some 52), some (some 53), some (some 54), some (some 55), some (some 56), some (some 57), some (some 58), some (some 59), some (some 60), none, some (some 61), none, some (some 62), some (some 63), some (some 64), none, none, none, none, none, some (some 65), some (some 66), none, some (some 67)])),
  .inl (0, 30), .inl (0, 30), .inl (0, 30), .inl (0, 8), .inl (0, 64), .inl (0, 64), .inl (1, 30), .inl (0, 30), .inl (0, 30), .inl (0, 30), .inl (1, 30), .inl (0, 30), .inl (1, 30), .inl (1, 30), .inl (0, 10), .inl (0, 30), .inl (0, 30), .inl (2, 1024)]
def zT (aC : Nat → ClassId) : List (ClassId × FieldType) := [(aC 0, .int), (aC 1, .boolean), (aC 2, .byte), (aC 3, .object RX0)]
def zNest : List Cond := [.methodLinkNest RX0 22 yX7_isWithin RX7, .methodLinkNest RX5 35 yX7_holds RX7, .methodLinkNest RX3 41 yX7_holds RX7, .methodLinkNest RX3 45 yX7_isWithin RX7, .methodLinkNest RX2 94 yX7_holds RX7, .methodLinkNest RX1 57 yX7_holds RX7, .methodLinkNest RX4 55 yX7_holds RX7]
theorem zNest_form {w : Cond} (h : w ∈ zNest) : ∃ a i x b, w = .methodLinkNest a i x b := by
  simp only [zNest, List.mem_cons, List.not_mem_nil, or_false] at h
  rcases h with rfl | rfl | rfl | rfl | rfl | rfl | rfl <;> exact ⟨_, _, _, _, rfl⟩
theorem zNest_warm {s U : State} (hW : s.WarmedH U.vm) (h : ∀ w ∈ zNest, va_Nw w s) : ∀ w ∈ zNest, va_Nw w U := by
  intro w hw
  obtain ⟨a, i, x, b, rfl⟩ := zNest_form hw
  exact va_Nw.warmM hW (h _ hw)
theorem zNest_same {s U : State} (hv : s.vm = U.vm) (h : ∀ w ∈ zNest, va_Nw w s) : ∀ w ∈ zNest, va_Nw w U := by
  intro w hw
  obtain ⟨a, i, x, b, rfl⟩ := zNest_form hw
  exact va_Nw.same rfl hv (h _ hw)
/-- the tables' part of the world -/
def zK (D : va_G) (aC : Nat → ClassId) (U : State) : Prop := va_K D vwCl (zT aC) U ∧ ∀ w ∈ zNest, va_Nw w U
theorem zK.warm {D : va_G} {aC : Nat → ClassId} {s U : State} (h : zK D aC s) (hW : s.WarmedH U.vm) : zK D aC U := ⟨va_K.moved hW.alike h.1, zNest_warm hW h.2⟩
/-- the heap's part -/
def zP (D : va_G) (aC : Nat → ClassId) (ad : Nat → Nat) (base : Nat) (G : GG) (H : Heap) : Prop := va_P D vwCl (zWs aC ad G 0 LAY) H ∧ va_D (fun q => base ≤ q) (zWs aC ad G 0 LAY)
/-- a method: its name, code, locals, answer, and its room: frames, locals -/
abbrev zM : Type := MethodName × ByteArray × Nat × Option FieldType × Nat × Nat
def zRoom (K : zM) : Room := { frames := K.2.2.2.2.1, cells := 0, slots := 0, locals := K.2.2.2.2.2 }
def zWd (K : zM) : List Cond := Cond.code K.1 K.2.1 K.2.2.1 K.2.2.2.1 :: zTbl
def zQc (D : va_G) (aC : Nat → ClassId) (ad : Nat → Nat) (base : Nat) (post : Option Value → GG → Prop) : Array Value → State → Outcome → State → Prop := fun _ st oc t =>
  (∃ (r : Option Value) (G' : GG), oc = .returned (r.map (zV ad)) ∧ post r G' ∧ zK D aC t ∧ zP D aC ad base G' t.heap) ∧ va_F (fun q => base ≤ q) st t
def zPc (D : va_G) (aC : Nat → ClassId) (ad : Nat → Nat) (base : Nat) (args : List Value) (G : GG) : Array Value → State → Prop :=
  va_Pc (args.map (zV ad)) (fun U => base ≤ U.heap.size ∧ zK D aC U ∧ zP D aC ad base G U.heap)
/-- the contract of a method: called with these arguments at this heap it returns, and 'post' holds of its answer and the heap behind it -/
def CT (K : zM) (args : List Value) (G : GG) (post : Option Value → GG → Prop) : Prop :=
  ∃ post0 : Option Value → GG → Prop, (∀ r G', post0 r G' → post r G') ∧ ∀ (l : Launch) (D : va_G) (aC : Nat → ClassId) (ad : Nat → Nat) (base : Nat), Met l K.1 (zWd K) (zRoom K) (zPc D aC ad base args G) (zQc D aC ad base post0) 0 0 (fun q => base ≤ q)
theorem CT.mono {K : zM} {av : List Value} {G : GG} {post post' : Option Value → GG → Prop} (h : CT K av G post) (hp : ∀ r G', post r G' → post' r G') : CT K av G post' := by
  obtain ⟨p0, h0, h1⟩ := h
  exact ⟨p0, fun r G' h => hp r G' (h0 r G' h), h1⟩
def CTi (K : zM) (args : List Value) (G : GG) (post : Int32 → GG → Prop) : Prop := CT K args G (fun r G' => ∃ x : Int32, r = some (.int x) ∧ post x G')
def CTl (K : zM) (args : List Value) (G : GG) (post : Int64 → GG → Prop) : Prop := CT K args G (fun r G' => ∃ x : Int64, r = some (.long x) ∧ post x G')
def CTv (K : zM) (args : List Value) (G : GG) (post : GG → Prop) : Prop := CT K args G (fun r G' => r = none ∧ post G')
theorem CTi.mono {K : zM} {av : List Value} {G : GG} {post post' : Int32 → GG → Prop} (h : CTi K av G post) (hp : ∀ x G', post x G' → post' x G') : CTi K av G post' := CT.mono h (fun _ G' ⟨x, e, h⟩ => ⟨x, e, hp x G' h⟩)
theorem CTl.mono {K : zM} {av : List Value} {G : GG} {post post' : Int64 → GG → Prop} (h : CTl K av G post) (hp : ∀ x G', post x G' → post' x G') : CTl K av G post' := CT.mono h (fun _ G' ⟨x, e, h⟩ => ⟨x, e, hp x G' h⟩)
theorem CTv.mono {K : zM} {av : List Value} {G : GG} {post post' : GG → Prop} (h : CTv K av G post) (hp : ∀ G', post G' → post' G') : CTv K av G post' := CT.mono h (fun _ G' ⟨e, h⟩ => ⟨e, hp G' h⟩)
def zCx (K : zM) (p : Program) (s : State) (m : MethodId) (args : Array Value) (meth : Method) (c : Code) : Prop :=
  p.tables.exec = Jvm.exec ∧ c.code = K.2.1 ∧ c.maxLocals = K.2.2.1 ∧ s.vm.findClass K.1.cls = some m.cls ∧ (∀ w ∈ zTbl, w.before args s = true) ∧ meth.sig.returnType = K.2.2.2.1 ∧ meth.locks = false
/-- the judgement: from this point of the method on, with these locals, stack and heap, it comes to its end with 'post' -/
def zJ (K : zM) (post : Option Value → GG → Prop) (pc : Nat) (L : List (Nat × Value)) (S : List Value) (G : GG) : Prop :=
  ∀ (l : Launch) (p : Program) (e : Env) (s : State) (m : MethodId) (args : Array Value) (below : List Frame) (meth : Method) (c : Code) (D : va_G) (aC : Nat → ClassId) (ad : Nat → Nat) (base : Nat) (H : Heap) (locs : List Loc) (ls : Array Slot),
    zCx K p s m args meth c → base ≤ s.heap.size → zK D aC s → zP D aC ad base G H → va_S (fun q => base ≤ q) s.heap H locs → lv_has ls K.2.2.1 (zL ad L) →
    W p l e (zRoom K) s m args below meth c H locs 0 0 (MQ below (zQc D aC ad base post) args s 0 0 (fun q => base ≤ q)) (F0 m pc ls (S.map (zV ad)))
theorem zBlind {D : va_G} {aC : Nat → ClassId} {ad : Nat → Nat} {base : Nat} {args : List Value} {G : GG} : FrameBlind (zPc D aC ad base args G) := by
  intro a U g mk h
  obtain ⟨h1, h2, h3, h4⟩ := h
  exact ⟨h1, h2, ⟨va_K.moved (u := U) (U := U.calling g mk a) (Vm.Alike.refl U.vm) h3.1, zNest_same (s := U) (U := U.calling g mk a) rfl h3.2⟩, h4⟩
theorem CT.of {K : zM} {av : List Value} {G : GG} {post : Option Value → GG → Prop} (hy : plainName K.1.cls = true) (hn : (lg_sl av).length ≤ K.2.2.1) (h : zJ K post 0 (lv_args 0 av) [] G) : CT K av G post := by
  refine ⟨post, fun _ _ h => h, ?_⟩
  intro l D aC ad base
  refine Met.ofW (cc := K.2.1) (maxL := K.2.2.1) (ret := K.2.2.2.1) (ws' := zTbl) hy rfl ?_
  intro p e s m args below meth c s₁ B hml hv
  obtain ⟨rfl, hbase, hK, hP⟩ := hv
  have hts := atoms_spec (ws := zWd K) B.pre
  have hl := lv_entry (av.map (zV ad)) (n := K.2.2.1) (by rw [zSl_len]; exact hn)
  rw [zL_args] at hl
  rw [lg_entry_eq]
  exact h l p e s m _ below meth c D aC ad base s.heap [] _ ⟨B.exec, B.bytes, hml, findClass_of_methodNamed B.named, fun w hw => hts w (List.mem_cons_of_mem _ hw), B.returns, B.notSynchronized⟩ hbase hK hP va_S.rf hl
/-- behind a call -/
theorem z_call {p : Program} {l : Launch} {e : Env} {R : Room} {s : State} {m : MethodId} {args : Array Value} {below : List Frame} {meth : Method} {c : Code} {H : Heap} {locs : List Loc} {Q : State → Prop} {pc base : Nat} {ls : Array Slot} {rest st0 : List Value} {a : Array Value} {D : va_G} {aC : Nat → ClassId} {ad : Nat → Nat} {post : Option Value → GG → Prop} {H0 : Heap}
    (hr : va_Run p l e R s m args below meth c H locs 0 0 0 0 (F0 m pc ls st0) rest (zQc D aC ad base post a) (fun q => base ≤ q)) (hS : va_S (fun q => base ≤ q) H0 H locs) (hK : zK D aC s)
    (kk : ∀ (r : Option Value) (G' : GG) (H1 : Heap) (locs1 : List Loc), post r G' → zP D aC ad base G' H1 → va_S (fun q => base ≤ q) H0 H1 locs1 → W p l e R s m args below meth c H1 locs1 0 0 Q (F0 m (pc + 3) ls ((r.map (zV ad)).toList ++ rest))) : W p l e R s m args below meth c H locs 0 0 Q (F0 m pc ls st0) := by
  intro T hT X
  obtain ⟨v, st₀, t, T', L, h0, X', hL, e1, e2, ⟨⟨r, G', hv, hp, hk, hP⟩, hz, hkk⟩, st⟩ := hr T hT X
  cases hv
  rw [h0] at hz hkk
  obtain ⟨t2, a1, b1⟩ := kk r G' T'.heap (locs ++ L) hp (by rw [e1]; exact hP)
    ⟨Nat.le_trans hS.1 (by rw [e1]; exact hz), fun q h1 h2 => by rw [e1, hkk q (Nat.lt_of_lt_of_le h1 hS.1) h2]; exact hS.2.1 q h1 h2, fun q hq => by
      rcases List.mem_append.mp hq with h | h
      · exact hS.2.2 q h
      · exact hL q h⟩ T' rfl X'
  exact ⟨t2, st t2 a1, b1⟩
/-- what the words say of a method that is called on an object, of one that is static -/
def zOkV (K : zM) (n : Nat) : Prop := Cond.instanceMethod K.1 ∈ zTbl ∧ Cond.selects K.1.cls K.1 K.1 ∈ zTbl ∧ Cond.initialized K.1.cls ∈ zTbl ∧ Cond.code K.1 K.2.1 K.2.2.1 K.2.2.2.1 ∈ zTbl ∧ K.1.cls ≠ "java/lang/invoke/MethodHandle" ∧ K.1.cls ≠ "java/lang/invoke/VarHandle" ∧ (parseMethodDescriptor K.1.desc).map (fun d => d.parameters.length) = some n
def zOkS (K : zM) (n : Nat) : Prop := Cond.static K.1 ∈ zTbl ∧ Cond.initialized K.1.cls ∈ zTbl ∧ Cond.code K.1 K.2.1 K.2.2.1 K.2.2.2.1 ∈ zTbl ∧ K.1.cls ≠ "java/lang/invoke/MethodHandle" ∧ K.1.cls ≠ "java/lang/invoke/VarHandle" ∧ (parseMethodDescriptor K.1.desc).map (fun d => d.parameters.length) = some n
/-- the callee's room fits the caller's -/
def zFit (K K' : zM) : Prop := K'.2.2.2.2.1 + 1 ≤ K.2.2.2.2.1 ∧ 8 + (K'.2.2.1 + 11) + K'.2.2.2.2.2 ≤ K.2.2.2.2.2
theorem zGood {K : zM} (h : Cond.code K.1 K.2.1 K.2.2.1 K.2.2.2.1 ∈ zTbl) : GoodIn zTbl (zWd K) := by
  intro w hw
  have hm : w ∈ zTbl := by
    rcases List.mem_cons.mp hw with rfl | hw
    · exact h
    · exact hw
  exact ⟨hm, good_of_word (zTbl_good hm)⟩
theorem zGoodV {K : zM} {n idx : Nat} {own : String} (h : zOkV K n) (hl : Cond.methodLink own idx K.1 ∈ zTbl) : GoodIn zTbl (wsV own idx K.1.cls K.1 (zWd K)) := by
  intro w hw
  have hm : w ∈ zTbl := by
    unfold wsV at hw
    rcases List.mem_append.mp hw with hw | hw
    · simp only [List.mem_cons, List.not_mem_nil, or_false] at hw
      rcases hw with rfl | rfl | rfl | rfl
      · exact hl
      · exact h.1
      · exact h.2.1
      · exact h.2.2.1
    · exact (zGood h.2.2.2.1 w hw).1
  exact ⟨hm, good_of_word (zTbl_good hm)⟩
theorem zGoodS {K : zM} {n idx : Nat} {own : String} (h : zOkS K n) (hl : Cond.methodLink own idx K.1 ∈ zTbl) : GoodIn zTbl (va_wsS own idx K.1 (zWd K)) := by
  intro w hw
  have hm : w ∈ zTbl := by
    unfold va_wsS at hw
    rcases List.mem_append.mp hw with hw | hw
    · simp only [List.mem_cons, List.not_mem_nil, or_false] at hw
      rcases hw with rfl | rfl | rfl
      · exact hl
      · exact h.1
      · exact h.2.1
    · exact (zGood h.2.2.1 w hw).1
  exact ⟨hm, good_of_word (zTbl_good hm)⟩
theorem zPre {D : va_G} {aC : Nat → ClassId} {ad : Nat → Nat} {base : Nat} {G : GG} {s : State} {H : Heap} {locs : List Loc} {av : List Value} (hb : base ≤ s.heap.size) (hK : zK D aC s) (hP : zP D aC ad base G H) (hS : va_S (fun q => base ≤ q) s.heap H locs) : ∀ U : State, U.heap = H → s.WarmedH U.vm → zPc D aC ad base av G (av.map (zV ad)).toArray U :=
  fun U hU hW => ⟨rfl, by rw [hU]; exact Nat.le_trans hb hS.1, hK.warm hW, by rw [hU]; exact hP⟩
theorem zRecv {D : va_G} {aC : Nat → ClassId} {ad : Nat → Nat} {base : Nat} {G : GG} {s : State} {H : Heap} {b ci : Nat} {fk : List (Option (Option Nat))} {q : vw_C} (hK : zK D aC s) (hP : zP D aC ad base G H) (hb : LAY[b]? = some (.inr (.inl (ci, fk)))) (hc : vwCl[ci]? = some q) : ∃ cell : Cell, H[ad b]? = some cell ∧ cell.vm.isStatics = false ∧ s.vm.findClass q.1 = some cell.cls := by
  have h := zWs_get (aC := aC) (ad := ad) (G := G) (b := 0) hb
  rw [Nat.zero_add] at h
  exact va_recv hK.1 hP.1 (ci := ci) (q0 := b) hc h
section ZC
variable {K K' : zM} {post : Option Value → GG → Prop} {pc idx n b ci : Nat} {L : List (Nat × Value)} {S S0 As : List Value} {G : GG} {fk : List (Option (Option Nat))} {T : u_T} {N : Nat}
theorem zTop (ad : Nat → Nat) (r : Option Value) (S : List Value) : (r.map (zV ad)).toList ++ S.map (zV ad) = (r.toList ++ S).map (zV ad) := by cases r <;> rfl
theorem j_callV (d : decode K.2.1 pc = .ok (.invokevirtual idx, 3)) (hl : Cond.methodLink K.1.cls idx K'.1 ∈ zTbl) (hok : zOkV K' n) (hfit : zFit K K') (hb : LAY[b]? = some (.inr (.inl (ci, fk)))) (hc : vwCl[ci]? = some (K'.1.cls, T, N)) (hn : As.length = n) (hs : (S.map fun v => v.category).sum ≤ 8) (hS0 : S0 = As.reverse ++ .ref b :: S)
    (h : CT K' (.ref b :: As) G (fun r G' => zJ K post (pc + 3) L (r.toList ++ S) G')) : zJ K post pc L S0 G := by
  intro l p e s m args below meth c D aC ad base H locs ls hC hb0 hK hP hS hl0
  obtain ⟨hx, hcb, hml, hown, hts, hr, hlk⟩ := id hC
  obtain ⟨post0, hp0, h⟩ := h
  subst hS0
  have hrun := va_runV (e := e) (below := below) (meth := meth) (As := As.map (zV ad)) (rest := S.map (zV ad)) (b := ad b) (C := K'.1.cls) (g := F0 m pc ls ((As.reverse ++ .ref b :: S).map (zV ad))) (H := H) (locs := locs) (cells := 0) (slots := 0) (R := zRoom K) (cc := K.2.1) (nL := K.2.2.1) (Ts := zTbl) ⟨hx, hcb, hml, hown, hts⟩ (h l D aC ad base)
    (cwV n hts (zGoodV hok hl) rfl rfl rfl ⟨rfl, hok.2.2.2.2⟩ ⟨hfit.1, hfit.2⟩)
    ⟨zBlind, zRecv hK hP hb hc, fun U hU hW => by
      have := zPre (av := .ref b :: As) hb0 hK hP hS U hU hW
      exact this⟩ rfl (by rw [List.length_map]; exact hn) hl0.1 (by simp [zV, List.map_reverse]) (lv_room (by rw [zS_sum]; exact hs)) d ⟨Nat.le_refl 0, Nat.le_refl 0⟩
  refine z_call hrun hS hK fun r G' H1 locs1 hp hP1 hS1 => ?_
  rw [zTop]
  exact hp0 r G' hp l p e s m args below meth c D aC ad base H1 locs1 ls hC hb0 hK hP1 hS1 hl0
theorem j_callS (d : decode K.2.1 pc = .ok (.invokestatic idx, 3)) (hl : Cond.methodLink K.1.cls idx K'.1 ∈ zTbl) (hok : zOkS K' n) (hfit : zFit K K') (hn : As.length = n) (hs : (S.map fun v => v.category).sum ≤ 8) (hS0 : S0 = As.reverse ++ S)
    (h : CT K' As G (fun r G' => zJ K post (pc + 3) L (r.toList ++ S) G')) : zJ K post pc L S0 G := by
  intro l p e s m args below meth c D aC ad base H locs ls hC hb0 hK hP hS hl0
  obtain ⟨hx, hcb, hml, hown, hts, hr, hlk⟩ := id hC
  obtain ⟨post0, hp0, h⟩ := h
  subst hS0
  have hrun := va_runS (e := e) (below := below) (meth := meth) (As := As.map (zV ad)) (rest := S.map (zV ad)) (g := F0 m pc ls ((As.reverse ++ S).map (zV ad))) (H := H) (locs := locs) (cells := 0) (slots := 0) (R := zRoom K) (cc := K.2.1) (nL := K.2.2.1) (Ts := zTbl) ⟨hx, hcb, hml, hown, hts⟩ (h l D aC ad base)
    (va_cwS n hts (zGoodS hok hl) rfl rfl rfl hok.2.2.2 ⟨hfit.1, hfit.2⟩)
    ⟨zBlind, fun U hU hW => zPre (av := As) hb0 hK hP hS U hU hW⟩ rfl (by rw [List.length_map]; exact hn) hl0.1 (by simp [List.map_reverse]) (lv_room (by rw [zS_sum]; exact hs)) d ⟨Nat.le_refl 0, Nat.le_refl 0⟩
  refine z_call hrun hS hK fun r G' H1 locs1 hp hP1 hS1 => ?_
  rw [zTop]
  exact hp0 r G' hp l p e s m args below meth c D aC ad base H1 locs1 ls hC hb0 hK hP1 hS1 hl0
theorem j_callN {host : String} (d : decode K.2.1 pc = .ok (.invokestatic idx, 3)) (hl : Cond.methodLinkNest K.1.cls idx K'.1 host ∈ zNest) (hok : zOkS K' n) (hfit : zFit K K') (hn : As.length = n) (hs : (S.map fun v => v.category).sum ≤ 8) (hS0 : S0 = As.reverse ++ S)
    (h : CT K' As G (fun r G' => zJ K post (pc + 3) L (r.toList ++ S) G')) : zJ K post pc L S0 G := by
  intro l p e s m args below meth c D aC ad base H locs ls hC hb0 hK hP hS hl0
  obtain ⟨hx, hcb, hml, hown, hts, hr, hlk⟩ := id hC
  obtain ⟨post0, hp0, h⟩ := h
  subst hS0
  have hrun := va_runSN (e := e) (below := below) (meth := meth) (As := As.map (zV ad)) (rest := S.map (zV ad)) (g := F0 m pc ls ((As.reverse ++ S).map (zV ad))) (H := H) (locs := locs) (cells := 0) (slots := 0) (R := zRoom K) (cc := K.2.1) (nL := K.2.2.1) (Ts := zTbl) ⟨hx, hcb, hml, hown, hts⟩ (h l D aC ad base)
    ⟨va_cnB n hts (zGood hok.2.2.1) rfl rfl rfl (hK.2 _ hl) (hts _ hok.2.1) hok.2.2.2 ⟨hfit.1, hfit.2⟩, hts _ hok.1, trivial⟩
    ⟨zBlind, fun U hU hW => zPre (av := As) hb0 hK hP hS U hU hW⟩ rfl (by rw [List.length_map]; exact hn) hl0.1 (by simp [List.map_reverse]) (lv_room (by rw [zS_sum]; exact hs)) d ⟨Nat.le_refl 0, Nat.le_refl 0⟩
  refine z_call hrun hS hK fun r G' H1 locs1 hp hP1 hS1 => ?_
  rw [zTop]
  exact hp0 r G' hp l p e s m args below meth c D aC ad base H1 locs1 ls hC hb0 hK hP1 hS1 hl0
end ZC
