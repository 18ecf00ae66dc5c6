/-! THE CLAIM OUT OF ONE WALK OF THE LAW'S BODY. Your part is whole_start (and what it stands on); all else here is the same for every law, but numbers. -/
def R_law : String := "BreakerRowsLaw"
def lw_P (b : Addr) (xs : List Int32) (args : Array Value) (s : State) : Prop := args = #[.ref b] ∧ s.IntsAt b xs ∧ xs.length ≤ 2560 ∧ (Jvm.Cond.and given_1 narrow_1).before args s = true
def lw_Q (_ : Array Value) (s : State) (o : Outcome) (t : State) : Prop := o = .returned (some (.int 1)) ∧ Framed s o t [] 600000 7302250
def lw_Z (below : List Frame) (a : Array Value) (s : State) : State → Prop := fun t => ∃ o, t.status = .running ∧ Ended t below o ∧ lw_Q a s o t
/-- the law's own end, with 1 on the stack, nothing written that was there before, its room as the claim has it -/
theorem lw_ret {p : Program} {l : Launch} {e : Env} {s : State} {m : MethodId} {below : List Frame} {meth : Method} {c : Code} {b : Nat} (hx : p.tables.exec = Jvm.exec) (hb : c.code = code) (hr : meth.sig.returnType = ret) (hlocks : meth.locks = false) {pc : Nat} {H : Heap} {ls : Array Slot} (hdg : decode code pc = .ok (.ireturn, 1)) : W p l e room_1 s m #[Value.ref b] below meth c H [] 600000 7302250 (lw_Z below #[Value.ref b] s) (F0 m pc ls [.int 1]) := by
  intro T hT X
  obtain ⟨fs, hret, hrun, hended, hW, hframe⟩ := X.leave (v := some (.int 1)) (hlocks := hlocks) (fun h => by rw [hr] at h; cases h)
  have hmeth' : T.vm.method? m = some meth := X.method'
  refine ⟨T.setFrames fs, ?_, .returned (some (.int 1)), hrun, hended, rfl, ⟨_, rfl⟩, hW, hframe⟩
  jvm_step X.here [X.here.top, hx, hb, hdg, hmeth', hr, ret, narrow_b1]
  (try refine ⟨rfl, ?_⟩); (try refine ⟨rfl, ?_⟩)
  first | (intro acts; rw [hret _ acts rfl rfl rfl]) | rw [hret _ _ rfl rfl rfl]
  exact Steps.refl _
/-- what holds at the law's entry: the machine, the code, the tables' words (any of lw_tbl by 'hts w (by decide +kernel)'), the script of L ints xs at the cell b, what the Statement gives of the start (any of its parts by flat_of_before) -/
def lw_At (p : Program) (s : State) (m : MethodId) (meth : Method) (c : Code) (b L : Nat) (xs : Nat → Int32) : Prop :=
  p.tables.exec = Jvm.exec ∧ c.code = code ∧ meth.sig.returnType = ret ∧ c.maxLocals = 4 ∧ s.vm.findClass R_law = some m.cls ∧ (∀ w ∈ lw_tbl, w.before #[Value.ref b] s = true) ∧ va_X b L xs s s.heap ∧ b < s.heap.size ∧ meth.locks = false ∧ (Jvm.Cond.and given_1 narrow_1).before #[Value.ref b] s = true
/-! the law's rows -/
theorem zTbl_sub {w : Cond} (h : w ∈ zTbl) : w ∈ lw_tbl := (List.mem_filter.mp h).1
def lJ (p : Program) (l : Launch) (e : Env) (s : State) (m : MethodId) (b : Nat) (below : List Frame) (meth : Method) (c : Code) (D : va_G) (aC : Nat → ClassId) (ad : Nat → Nat) (cells slots pc : Nat) (L : List (Nat × Value)) (S : List Value) (G : GG) : Prop :=
  ∀ (H : Heap) (locs : List Loc) (ls : Array Slot), zP D aC ad s.heap.size G H → va_S (fun q => s.heap.size ≤ q) s.heap H locs → lv_has ls 4 L → W p l e room_1 s m #[Value.ref b] below meth c H locs cells slots (lw_Z below #[Value.ref b] s) (F0 m pc ls S)
section LR
variable {p : Program} {l : Launch} {e : Env} {s : State} {m : MethodId} {b Len : Nat} {xs : Nat → Int32} {below : List Frame} {meth : Method} {c : Code} {D : va_G} {aC : Nat → ClassId} {ad : Nat → Nat} {cells slots pc : Nat} {L : List (Nat × Value)} {S : List Value} {G : GG}
theorem l_aload {i : Fin 4} {x : Nat} (kk : Nat) (C : lw_At p s m meth c b Len xs) (d : decode code pc = .ok (.aload_n i, 1)) (hL : L[kk]? = some ((i : Nat), .ref x)) (k : lJ p l e s m b below meth c D aC ad cells slots (pc + 1) L (.ref x :: S) G) : lJ p l e s m b below meth c D aC ad cells slots pc L S G :=
  fun H locs ls hP hS hl => lv_aload_n C.1 C.2.1 d rfl (lv_at hl kk hL) (k H locs ls hP hS hl)
theorem l_iload {i : Fin 4} {x : Int32} (kk : Nat) (C : lw_At p s m meth c b Len xs) (d : decode code pc = .ok (.iload_n i, 1)) (hL : L[kk]? = some ((i : Nat), .int x)) (k : lJ p l e s m b below meth c D aC ad cells slots (pc + 1) L (.int x :: S) G) : lJ p l e s m b below meth c D aC ad cells slots pc L S G :=
  fun H locs ls hP hS hl => lv_iload_n C.1 C.2.1 d rfl (lv_at hl kk hL) (k H locs ls hP hS hl)
theorem l_iconst {n : Int} {v : Int32} (C : lw_At p s m meth c b Len xs) (d : decode code pc = .ok (.iconst n, 1)) (hv : Int32.ofInt n = v) (k : lJ p l e s m b below meth c D aC ad cells slots (pc + 1) L (.int v :: S) G) : lJ p l e s m b below meth c D aC ad cells slots pc L S G :=
  fun H locs ls hP hS hl => lv_iconst C.1 C.2.1 d hv (k H locs ls hP hS hl)
theorem l_bipush {n : Int} {v : Int32} (C : lw_At p s m meth c b Len xs) (d : decode code pc = .ok (.bipush n, 2)) (hv : (Int8.ofInt n).toInt32 = v) (k : lJ p l e s m b below meth c D aC ad cells slots (pc + 2) L (.int v :: S) G) : lJ p l e s m b below meth c D aC ad cells slots pc L S G :=
  fun H locs ls hP hS hl => lv_bipush C.1 C.2.1 d hv (k H locs ls hP hS hl)
theorem l_iadd {x y : Int32} (C : lw_At p s m meth c b Len xs) (d : decode code pc = .ok (.iadd, 1)) (k : lJ p l e s m b below meth c D aC ad cells slots (pc + 1) L (.int (x + y) :: S) G) : lJ p l e s m b below meth c D aC ad cells slots pc L (.int y :: .int x :: S) G :=
  fun H locs ls hP hS hl => lv_iadd C.1 C.2.1 d (k H locs ls hP hS hl)
theorem l_isub {x y : Int32} (C : lw_At p s m meth c b Len xs) (d : decode code pc = .ok (.isub, 1)) (k : lJ p l e s m b below meth c D aC ad cells slots (pc + 1) L (.int (x - y) :: S) G) : lJ p l e s m b below meth c D aC ad cells slots pc L (.int y :: .int x :: S) G :=
  fun H locs ls hP hS hl => lv_isub C.1 C.2.1 d (k H locs ls hP hS hl)
theorem l_iand {x y : Int32} (C : lw_At p s m meth c b Len xs) (d : decode code pc = .ok (.iand, 1)) (k : lJ p l e s m b below meth c D aC ad cells slots (pc + 1) L (.int (x &&& y) :: S) G) : lJ p l e s m b below meth c D aC ad cells slots pc L (.int y :: .int x :: S) G :=
  fun H locs ls hP hS hl => lv_iand C.1 C.2.1 d (k H locs ls hP hS hl)
theorem l_sld {i : Int32} (C : lw_At p s m meth c b Len xs) (d : decode code pc = .ok (.iaload, 1)) (hin : vp_in i Len) (k : lJ p l e s m b below meth c D aC ad cells slots (pc + 1) L (.int (xs i.toNatClampNeg) :: S) G) : lJ p l e s m b below meth c D aC ad cells slots pc L (.int i :: .ref b :: S) G :=
  fun H locs ls hP hS hl => va_sld C.1 C.2.1 C.2.2.2.2.2.2.1 C.2.2.2.2.2.2.2.1 (Nat.not_le.mpr C.2.2.2.2.2.2.2.1) hS hin d (k H locs ls hP hS hl)
theorem l_slen (C : lw_At p s m meth c b Len xs) (d : decode code pc = .ok (.arraylength, 1)) (k : lJ p l e s m b below meth c D aC ad cells slots (pc + 1) L (.int (nI Len) :: S) G) : lJ p l e s m b below meth c D aC ad cells slots pc L (.ref b :: S) G :=
  fun H locs ls hP hS hl => va_slen C.1 C.2.1 C.2.2.2.2.2.2.1 C.2.2.2.2.2.2.2.1 (Nat.not_le.mpr C.2.2.2.2.2.2.2.1) hS d (k H locs ls hP hS hl)
theorem l_goto {off : Int} (t : Nat) (C : lw_At p s m meth c b Len xs) (d : decode code pc = .ok (.goto off, 3)) (ht : (pc : Int) + off = (t : Int)) (k : lJ p l e s m b below meth c D aC ad cells slots t L S G) : lJ p l e s m b below meth c D aC ad cells slots pc L S G :=
  fun H locs ls hP hS hl => lv_goto C.1 C.2.1 d ht (k H locs ls hP hS hl)
theorem l_iinc {i kk : Nat} {n : Int} {x v : Int32} {L' : List (Nat × Value)} (C : lw_At p s m meth c b Len xs) (d : decode code pc = .ok (.iinc i n, 3)) (hk : L[kk]? = some (i, .int x)) (hv : x + Int32.ofInt n = v) (hn : i < 4) (hL : (i, Value.int v) :: L.filter (fun q => !(q.1 == i) && !(q.1 + 1 == i && q.2.category == 2)) = L') (k : lJ p l e s m b below meth c D aC ad cells slots (pc + 3) L' S G) : lJ p l e s m b below meth c D aC ad cells slots pc L S G :=
  fun H locs ls hP hS hl => lv_iinc C.1 C.2.1 d hl hk hv hn hL (fun ls' hl' => k H locs ls' hP hS hl')
theorem l_igt {off : Int} {x y : Int32} (t : Nat) (C : lw_At p s m meth c b Len xs) (d : decode code pc = .ok (.if_icmp .gt off, 3)) (ht : (pc : Int) + off = (t : Int)) (k1 : y < x → lJ p l e s m b below meth c D aC ad cells slots t L S G) (k2 : ¬ y < x → lJ p l e s m b below meth c D aC ad cells slots (pc + 3) L S G) : lJ p l e s m b below meth c D aC ad cells slots pc L (.int y :: .int x :: S) G :=
  fun H locs ls hP hS hl => lv_icmp_gt C.1 C.2.1 d ht (fun q => k1 q H locs ls hP hS hl) (fun q => k2 q H locs ls hP hS hl)
theorem l_ieq {off : Int} {x y : Int32} (t : Nat) (C : lw_At p s m meth c b Len xs) (d : decode code pc = .ok (.if_icmp .eq off, 3)) (ht : (pc : Int) + off = (t : Int)) (hxy : x = y) (k : lJ p l e s m b below meth c D aC ad cells slots t L S G) : lJ p l e s m b below meth c D aC ad cells slots pc L (.int y :: .int x :: S) G :=
  fun H locs ls hP hS hl => lv_icmp_eq C.1 C.2.1 d ht (fun _ => k H locs ls hP hS hl) (fun q => absurd hxy q)
theorem l_leq {off : Int} {x y : Int64} (t : Nat) (C : lw_At p s m meth c b Len xs) (d1 : decode code pc = .ok (.lcmp, 1)) (d : decode code (pc + 1) = .ok (.ifCond .eq off, 3)) (ht : ((pc + 1 : Nat) : Int) + off = (t : Int)) (hxy : x = y) (k : lJ p l e s m b below meth c D aC ad cells slots t L S G) : lJ p l e s m b below meth c D aC ad cells slots pc L (.long y :: .long x :: S) G :=
  fun H locs ls hP hS hl => W.lcmp C.1 C.2.1 d1 (lv_if_eq C.1 C.2.1 d ht (fun _ => k H locs ls hP hS hl) (fun q => absurd (zc_eq.mpr hxy) q))
theorem l_if0 {off : Int} {x : Int32} (t : Nat) (C : lw_At p s m meth c b Len xs) (d : decode code pc = .ok (.ifCond .eq off, 3)) (ht : (pc : Int) + off = (t : Int)) (k1 : x = 0 → lJ p l e s m b below meth c D aC ad cells slots t L S G) (k2 : ¬ x = 0 → lJ p l e s m b below meth c D aC ad cells slots (pc + 3) L S G) : lJ p l e s m b below meth c D aC ad cells slots pc L (.int x :: S) G :=
  fun H locs ls hP hS hl => lv_if_eq C.1 C.2.1 d ht (fun q => k1 q H locs ls hP hS hl) (fun q => k2 q H locs ls hP hS hl)
theorem l_tabOut {dflt lo hi : Int} {offs : Array Int} {len : Nat} {x : Int32} (t : Nat) (C : lw_At p s m meth c b Len xs) (d : decode code pc = .ok (.tableswitch dflt lo hi offs, len)) (h : x.toInt < lo ∨ hi < x.toInt) (ht : (pc : Int) + dflt = (t : Int)) (k : lJ p l e s m b below meth c D aC ad cells slots t L S G) : lJ p l e s m b below meth c D aC ad cells slots pc L (.int x :: S) G :=
  fun H locs ls hP hS hl => lv_tableOut C.1 C.2.1 d h ht (k H locs ls hP hS hl)
theorem l_tabIn {dflt lo hi v off : Int} {offs : Array Int} {len : Nat} {x : Int32} (t : Nat) (C : lw_At p s m meth c b Len xs) (d : decode code pc = .ok (.tableswitch dflt lo hi offs, len)) (h : x.toInt = v) (h1 : ¬ v < lo) (h2 : ¬ hi < v) (ho : offs[(v - lo).toNat]? = some off) (ht : (pc : Int) + off = (t : Int)) (k : lJ p l e s m b below meth c D aC ad cells slots t L S G) : lJ p l e s m b below meth c D aC ad cells slots pc L (.int x :: S) G := by
  subst h
  exact fun H locs ls hP hS hl => lv_tableIn C.1 C.2.1 d h1 h2 ho ht (k H locs ls hP hS hl)
theorem l_ret (C : lw_At p s m meth c b Len xs) (d : decode code pc = .ok (.ireturn, 1)) (hc : cells ≤ 600000) (hs : slots ≤ 7302250) : lJ p l e s m b below meth c D aC ad cells slots pc L [.int 1] G := by
  intro H locs ls hP hS hl
  refine va_forget hS.2.2 (W.widen hc hs ?_)
  exact lw_ret C.1 C.2.1 C.2.2.1 C.2.2.2.2.2.2.2.2.1 d
theorem z_callG {p : Program} {l : Launch} {e : Env} {R : Room} {s : State} {m : MethodId} {args : Array Value} {below : List Frame} {meth : Method} {c : Code} {H : Heap} {locs : List Loc} {Q : State → Prop} {pc base cells slots : Nat} {ls : Array Slot} {rest st0 : List Value} {a : Array Value} {D : va_G} {aC : Nat → ClassId} {ad : Nat → Nat} {post : Option Value → GG → Prop} {H0 : Heap}
    (hr : va_Run p l e R s m args below meth c H locs cells slots 0 0 (F0 m pc ls st0) rest (zQc D aC ad base post a) (fun q => base ≤ q)) (hS : va_S (fun q => base ≤ q) H0 H locs) (hK : zK D aC s)
    (kk : ∀ (r : Option Value) (G' : GG) (H1 : Heap) (locs1 : List Loc), post r G' → zP D aC ad base G' H1 → va_S (fun q => base ≤ q) H0 H1 locs1 → W p l e R s m args below meth c H1 locs1 cells slots Q (F0 m (pc + 3) ls ((r.map (zV ad)).toList ++ rest))) : W p l e R s m args below meth c H locs cells slots Q (F0 m pc ls st0) := by
  intro T hT X
  obtain ⟨v, st₀, t, T', L, h0, X', hL, e1, e2, ⟨⟨r, G', hv, hp, hk, hP⟩, hz, hkk⟩, st⟩ := hr T hT X
  cases hv
  rw [h0] at hz hkk
  obtain ⟨t2, a1, b1⟩ := kk r G' T'.heap (locs ++ L) hp (by rw [e1]; exact hP)
    ⟨Nat.le_trans hS.1 (by rw [e1]; exact hz), fun q h1 h2 => by rw [e1, hkk q (Nat.lt_of_lt_of_le h1 hS.1) h2]; exact hS.2.1 q h1 h2, fun q hq => by
      rcases List.mem_append.mp hq with h | h
      · exact hS.2.2 q h
      · exact hL q h⟩ T' rfl X'
  exact ⟨t2, st t2 a1, b1⟩
theorem l_call {K' : zM} {idx n bp ci N : Nat} {fk : List (Option (Option Nat))} {T : u_T} {As S0 : List Value} {x0 : Nat} (C : lw_At p s m meth c b Len xs) (hK : zK D aC s) (d : decode code pc = .ok (.invokevirtual idx, 3)) (hl : Cond.methodLink R_law idx K'.1 ∈ zTbl) (hok : zOkV K' n) (hfit : K'.2.2.2.2.1 + 1 ≤ 9 ∧ 8 + (K'.2.2.1 + 11) + K'.2.2.2.2.2 ≤ 340) (hb : LAY[bp]? = some (.inr (.inl (ci, fk)))) (hc : vwCl[ci]? = some (K'.1.cls, T, N)) (hn : As.length = n) (hi : As.map (zV ad) = As) (hs : (S.map fun v => v.category).sum ≤ 8) (hcs : cells ≤ 600000 ∧ slots ≤ 7302250) (hx0 : x0 = ad bp) (hS0 : S0 = As.reverse ++ .ref x0 :: S)
    (h : CT K' (.ref bp :: As) G (fun r G' => lJ p l e s m b below meth c D aC ad cells slots (pc + 3) L ((r.map (zV ad)).toList ++ S) G')) : lJ p l e s m b below meth c D aC ad cells slots pc L S0 G := by
  intro H locs ls hP hS hl0
  obtain ⟨hx, hb0, hr, hml, hown, hts, hX, hbl, hlocks, hgv⟩ := id C
  have hts' : ∀ w ∈ zTbl, w.before #[Value.ref b] s = true := fun w hw => hts w (zTbl_sub hw)
  obtain ⟨post0, hp0, h⟩ := h
  subst hS0 hx0
  have hrun := va_runV (e := e) (below := below) (meth := meth) (As := As) (rest := S) (b := ad bp) (C := K'.1.cls) (g := F0 m pc ls (As.reverse ++ .ref (ad bp) :: S)) (H := H) (locs := locs) (cells := cells) (slots := slots) (R := room_1) (cc := code) (nL := 4) (Ts := zTbl) ⟨hx, hb0, hml, hown, hts'⟩ (h l D aC ad s.heap.size)
    (cwV n hts' (zGoodV hok hl) rfl rfl rfl ⟨rfl, hok.2.2.2.2⟩ ⟨hfit.1, hfit.2⟩)
    ⟨zBlind, zRecv hK hP hb hc, fun U hU hW => by
      have := zPre (av := .ref bp :: As) (Nat.le_refl _) hK hP hS U hU hW
      rw [List.map_cons, hi] at this
      exact this⟩ rfl hn hl0.1 rfl (lv_room hs) d ⟨hcs.1, hcs.2⟩
  exact z_callG hrun hS hK fun r G' H1 locs1 hp hP1 hS1 => hp0 r G' hp H1 locs1 ls hP1 hS1 hl0
theorem l_calli {K' : zM} {idx n bp ci N : Nat} {fk : List (Option (Option Nat))} {T : u_T} {As S0 : List Value} {x0 : Nat} (C : lw_At p s m meth c b Len xs) (hK : zK D aC s) (d : decode code pc = .ok (.invokevirtual idx, 3)) (hl : Cond.methodLink R_law idx K'.1 ∈ zTbl) (hok : zOkV K' n) (hfit : K'.2.2.2.2.1 + 1 ≤ 9 ∧ 8 + (K'.2.2.1 + 11) + K'.2.2.2.2.2 ≤ 340) (hb : LAY[bp]? = some (.inr (.inl (ci, fk)))) (hc : vwCl[ci]? = some (K'.1.cls, T, N)) (hn : As.length = n) (hi : As.map (zV ad) = As) (hs : (S.map fun v => v.category).sum ≤ 8) (hcs : cells ≤ 600000 ∧ slots ≤ 7302250) (hx0 : x0 = ad bp) (hS0 : S0 = As.reverse ++ .ref x0 :: S) {post : Int32 → GG → Prop}
    (h : CTi K' (.ref bp :: As) G post) (k : ∀ x G', post x G' → lJ p l e s m b below meth c D aC ad cells slots (pc + 3) L (.int x :: S) G') : lJ p l e s m b below meth c D aC ad cells slots pc L S0 G :=
  l_call C hK d hl hok hfit hb hc hn hi hs hcs hx0 hS0 (CT.mono h fun r G' hr => by
    obtain ⟨x, rfl, hx⟩ := hr
    exact k x G' hx)
theorem l_calll {K' : zM} {idx n bp ci N : Nat} {fk : List (Option (Option Nat))} {T : u_T} {As S0 : List Value} {x0 : Nat} (C : lw_At p s m meth c b Len xs) (hK : zK D aC s) (d : decode code pc = .ok (.invokevirtual idx, 3)) (hl : Cond.methodLink R_law idx K'.1 ∈ zTbl) (hok : zOkV K' n) (hfit : K'.2.2.2.2.1 + 1 ≤ 9 ∧ 8 + (K'.2.2.1 + 11) + K'.2.2.2.2.2 ≤ 340) (hb : LAY[bp]? = some (.inr (.inl (ci, fk)))) (hc : vwCl[ci]? = some (K'.1.cls, T, N)) (hn : As.length = n) (hi : As.map (zV ad) = As) (hs : (S.map fun v => v.category).sum ≤ 8) (hcs : cells ≤ 600000 ∧ slots ≤ 7302250) (hx0 : x0 = ad bp) (hS0 : S0 = As.reverse ++ .ref x0 :: S) {post : Int64 → GG → Prop}
    (h : CTl K' (.ref bp :: As) G post) (k : ∀ x G', post x G' → lJ p l e s m b below meth c D aC ad cells slots (pc + 3) L (.long x :: S) G') : lJ p l e s m b below meth c D aC ad cells slots pc L S0 G :=
  l_call C hK d hl hok hfit hb hc hn hi hs hcs hx0 hS0 (CT.mono h fun r G' hr => by
    obtain ⟨x, rfl, hx⟩ := hr
    exact k x G' hx)
end LR
