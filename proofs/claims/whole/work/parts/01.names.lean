-- ===== PART A: goes FIRST, ahead of the names: the tables' words, and 'selects' of the private methods out of them =====
/-- a private method of a class that the tables say can be made, by its rows of tables_1 -/
def lw_okq (q : MethodName × Nat) : Prop := (q.1.cls ≠ "java/lang/invoke/MethodHandle" ∧ q.1.cls ≠ "java/lang/invoke/VarHandle") ∧ Cond.instantiable q.1.cls q.2 ∈ tables_1 ∧ Cond.privateMethod q.1 ∈ tables_1 ∧ Cond.instanceMethod q.1 ∈ tables_1
theorem lw_p0 : lw_okq (⟨"BreakerRows", "nextOf", "(I)I"⟩, 11) := ⟨⟨by decide +kernel, by decide +kernel⟩, List.mem_of_getElem? (i := 14) (by decide +kernel), List.mem_of_getElem? (i := 357) (by decide +kernel), List.mem_of_getElem? (i := 358) (by decide +kernel)⟩
theorem lw_p1 : lw_okq (⟨"BreakerRows", "breakerOf", "(II)I"⟩, 11) := ⟨⟨by decide +kernel, by decide +kernel⟩, List.mem_of_getElem? (i := 14) (by decide +kernel), List.mem_of_getElem? (i := 366) (by decide +kernel), List.mem_of_getElem? (i := 367) (by decide +kernel)⟩
theorem lw_p2 : lw_okq (⟨"BreakerRows", "clearTick", "(III)I"⟩, 11) := ⟨⟨by decide +kernel, by decide +kernel⟩, List.mem_of_getElem? (i := 14) (by decide +kernel), List.mem_of_getElem? (i := 413) (by decide +kernel), List.mem_of_getElem? (i := 414) (by decide +kernel)⟩
theorem lw_p3 : lw_okq (⟨"BreakerRows", "ableOn", "(I)I"⟩, 11) := ⟨⟨by decide +kernel, by decide +kernel⟩, List.mem_of_getElem? (i := 14) (by decide +kernel), List.mem_of_getElem? (i := 417) (by decide +kernel), List.mem_of_getElem? (i := 418) (by decide +kernel)⟩
theorem lw_p4 : lw_okq (⟨"BreakerRows", "openersAt", "(IIII)I"⟩, 11) := ⟨⟨by decide +kernel, by decide +kernel⟩, List.mem_of_getElem? (i := 14) (by decide +kernel), List.mem_of_getElem? (i := 421) (by decide +kernel), List.mem_of_getElem? (i := 422) (by decide +kernel)⟩
theorem lw_p5 : lw_okq (⟨"BreakerRows$Judge", "note", "(IIII)V"⟩, 7) := ⟨⟨by decide +kernel, by decide +kernel⟩, List.mem_of_getElem? (i := 145) (by decide +kernel), List.mem_of_getElem? (i := 437) (by decide +kernel), List.mem_of_getElem? (i := 438) (by decide +kernel)⟩
theorem lw_p6 : lw_okq (⟨"BreakerRows$Judge", "lookAtLine", "(I)V"⟩, 7) := ⟨⟨by decide +kernel, by decide +kernel⟩, List.mem_of_getElem? (i := 145) (by decide +kernel), List.mem_of_getElem? (i := 441) (by decide +kernel), List.mem_of_getElem? (i := 442) (by decide +kernel)⟩
theorem lw_p7 : lw_okq (⟨"BreakerRows$Judge", "lookAtFaults", "(II)V"⟩, 7) := ⟨⟨by decide +kernel, by decide +kernel⟩, List.mem_of_getElem? (i := 145) (by decide +kernel), List.mem_of_getElem? (i := 446) (by decide +kernel), List.mem_of_getElem? (i := 447) (by decide +kernel)⟩
theorem lw_p8 : lw_okq (⟨"BreakerRows$Judge", "isUnseen", "(IJ)Z"⟩, 7) := ⟨⟨by decide +kernel, by decide +kernel⟩, List.mem_of_getElem? (i := 145) (by decide +kernel), List.mem_of_getElem? (i := 459) (by decide +kernel), List.mem_of_getElem? (i := 460) (by decide +kernel)⟩
theorem lw_p9 : lw_okq (⟨"BreakerRows$Judge", "isOutOfOrder", "(IJ)Z"⟩, 7) := ⟨⟨by decide +kernel, by decide +kernel⟩, List.mem_of_getElem? (i := 145) (by decide +kernel), List.mem_of_getElem? (i := 468) (by decide +kernel), List.mem_of_getElem? (i := 469) (by decide +kernel)⟩
theorem lw_p10 : lw_okq (⟨"BreakerRows", "findLeastDials", "()Z"⟩, 11) := ⟨⟨by decide +kernel, by decide +kernel⟩, List.mem_of_getElem? (i := 14) (by decide +kernel), List.mem_of_getElem? (i := 479) (by decide +kernel), List.mem_of_getElem? (i := 480) (by decide +kernel)⟩
theorem lw_p11 : lw_okq (⟨"BreakerRows$Demands", "gatherOf", "(IJ)V"⟩, 5) := ⟨⟨by decide +kernel, by decide +kernel⟩, List.mem_of_getElem? (i := 177) (by decide +kernel), List.mem_of_getElem? (i := 490) (by decide +kernel), List.mem_of_getElem? (i := 491) (by decide +kernel)⟩
theorem lw_p12 : lw_okq (⟨"BreakerRows", "arcOf", "(III)J"⟩, 11) := ⟨⟨by decide +kernel, by decide +kernel⟩, List.mem_of_getElem? (i := 14) (by decide +kernel), List.mem_of_getElem? (i := 527) (by decide +kernel), List.mem_of_getElem? (i := 528) (by decide +kernel)⟩
theorem lw_p13 : lw_okq (⟨"BreakerRows", "worstOf", "(I)J"⟩, 11) := ⟨⟨by decide +kernel, by decide +kernel⟩, List.mem_of_getElem? (i := 14) (by decide +kernel), List.mem_of_getElem? (i := 535) (by decide +kernel), List.mem_of_getElem? (i := 536) (by decide +kernel)⟩
theorem lw_p14 : lw_okq (⟨"BreakerRows", "growthOf", "(I)J"⟩, 11) := ⟨⟨by decide +kernel, by decide +kernel⟩, List.mem_of_getElem? (i := 14) (by decide +kernel), List.mem_of_getElem? (i := 547) (by decide +kernel), List.mem_of_getElem? (i := 548) (by decide +kernel)⟩
theorem lw_p15 : lw_okq (⟨"BreakerRows$Order", "lowestThatCanGo", "(I)I"⟩, 8) := ⟨⟨by decide +kernel, by decide +kernel⟩, List.mem_of_getElem? (i := 199) (by decide +kernel), List.mem_of_getElem? (i := 581) (by decide +kernel), List.mem_of_getElem? (i := 582) (by decide +kernel)⟩
def lw_privs_1 : List (MethodName × Nat) := [(⟨"BreakerRows", "nextOf", "(I)I"⟩, 11), (⟨"BreakerRows", "breakerOf", "(II)I"⟩, 11), (⟨"BreakerRows", "clearTick", "(III)I"⟩, 11), (⟨"BreakerRows", "ableOn", "(I)I"⟩, 11), (⟨"BreakerRows", "openersAt", "(IIII)I"⟩, 11), (⟨"BreakerRows$Judge", "note", "(IIII)V"⟩, 7), (⟨"BreakerRows$Judge", "lookAtLine", "(I)V"⟩, 7), (⟨"BreakerRows$Judge", "lookAtFaults", "(II)V"⟩, 7), (⟨"BreakerRows$Judge", "isUnseen", "(IJ)Z"⟩, 7), (⟨"BreakerRows$Judge", "isOutOfOrder", "(IJ)Z"⟩, 7), (⟨"BreakerRows", "findLeastDials", "()Z"⟩, 11), (⟨"BreakerRows$Demands", "gatherOf", "(IJ)V"⟩, 5), (⟨"BreakerRows", "arcOf", "(III)J"⟩, 11), (⟨"BreakerRows", "worstOf", "(I)J"⟩, 11), (⟨"BreakerRows", "growthOf", "(I)J"⟩, 11), (⟨"BreakerRows$Order", "lowestThatCanGo", "(I)I"⟩, 8)]
theorem lw_r1 : ∀ q ∈ lw_privs_1, lw_okq q := List.forall_mem_cons.mpr ⟨lw_p0, List.forall_mem_cons.mpr ⟨lw_p1, List.forall_mem_cons.mpr ⟨lw_p2, List.forall_mem_cons.mpr ⟨lw_p3, List.forall_mem_cons.mpr ⟨lw_p4, List.forall_mem_cons.mpr ⟨lw_p5, List.forall_mem_cons.mpr ⟨lw_p6, List.forall_mem_cons.mpr ⟨lw_p7, List.forall_mem_cons.mpr ⟨lw_p8, List.forall_mem_cons.mpr ⟨lw_p9, List.forall_mem_cons.mpr ⟨lw_p10, List.forall_mem_cons.mpr ⟨lw_p11, List.forall_mem_cons.mpr ⟨lw_p12, List.forall_mem_cons.mpr ⟨lw_p13, List.forall_mem_cons.mpr ⟨lw_p14, List.forall_mem_cons.mpr ⟨lw_p15, fun _ h => absurd h List.not_mem_nil⟩⟩⟩⟩⟩⟩⟩⟩⟩⟩⟩⟩⟩⟩⟩⟩
theorem lw_p16 : lw_okq (⟨"BreakerRows$Demands", "isMet", "(II[I)Z"⟩, 5) := ⟨⟨by decide +kernel, by decide +kernel⟩, List.mem_of_getElem? (i := 177) (by decide +kernel), List.mem_of_getElem? (i := 590) (by decide +kernel), List.mem_of_getElem? (i := 591) (by decide +kernel)⟩
theorem lw_p17 : lw_okq (⟨"BreakerRowsModel", "isLine", "(I)Z"⟩, 32) := ⟨⟨by decide +kernel, by decide +kernel⟩, List.mem_of_getElem? (i := 608) (by decide +kernel), List.mem_of_getElem? (i := 737) (by decide +kernel), List.mem_of_getElem? (i := 738) (by decide +kernel)⟩
theorem lw_p18 : lw_okq (⟨"BreakerRowsModel", "isBreaker", "(I)Z"⟩, 32) := ⟨⟨by decide +kernel, by decide +kernel⟩, List.mem_of_getElem? (i := 608) (by decide +kernel), List.mem_of_getElem? (i := 745) (by decide +kernel), List.mem_of_getElem? (i := 746) (by decide +kernel)⟩
theorem lw_p19 : lw_okq (⟨"BreakerRowsModel", "isFault", "(III)Z"⟩, 32) := ⟨⟨by decide +kernel, by decide +kernel⟩, List.mem_of_getElem? (i := 608) (by decide +kernel), List.mem_of_getElem? (i := 765) (by decide +kernel), List.mem_of_getElem? (i := 766) (by decide +kernel)⟩
theorem lw_p20 : lw_okq (⟨"BreakerRowsModel", "sum", "(III)J"⟩, 32) := ⟨⟨by decide +kernel, by decide +kernel⟩, List.mem_of_getElem? (i := 608) (by decide +kernel), List.mem_of_getElem? (i := 770) (by decide +kernel), List.mem_of_getElem? (i := 771) (by decide +kernel)⟩
theorem lw_p21 : lw_okq (⟨"BreakerRowsModel", "waitAt", "(IIII)I"⟩, 32) := ⟨⟨by decide +kernel, by decide +kernel⟩, List.mem_of_getElem? (i := 608) (by decide +kernel), List.mem_of_getElem? (i := 780) (by decide +kernel), List.mem_of_getElem? (i := 781) (by decide +kernel)⟩
theorem lw_p22 : lw_okq (⟨"BreakerRowsModel", "isOnWay", "(II)Z"⟩, 32) := ⟨⟨by decide +kernel, by decide +kernel⟩, List.mem_of_getElem? (i := 608) (by decide +kernel), List.mem_of_getElem? (i := 784) (by decide +kernel), List.mem_of_getElem? (i := 785) (by decide +kernel)⟩
theorem lw_p23 : lw_okq (⟨"BreakerRowsModel", "waitBy", "(IJJ)I"⟩, 32) := ⟨⟨by decide +kernel, by decide +kernel⟩, List.mem_of_getElem? (i := 608) (by decide +kernel), List.mem_of_getElem? (i := 788) (by decide +kernel), List.mem_of_getElem? (i := 789) (by decide +kernel)⟩
theorem lw_p24 : lw_okq (⟨"BreakerRowsModel", "cleared", "(III)I"⟩, 32) := ⟨⟨by decide +kernel, by decide +kernel⟩, List.mem_of_getElem? (i := 608) (by decide +kernel), List.mem_of_getElem? (i := 797) (by decide +kernel), List.mem_of_getElem? (i := 798) (by decide +kernel)⟩
theorem lw_p25 : lw_okq (⟨"BreakerRowsModel", "keeper", "(I)I"⟩, 32) := ⟨⟨by decide +kernel, by decide +kernel⟩, List.mem_of_getElem? (i := 608) (by decide +kernel), List.mem_of_getElem? (i := 819) (by decide +kernel), List.mem_of_getElem? (i := 820) (by decide +kernel)⟩
theorem lw_p26 : lw_okq (⟨"BreakerRowsModel", "next", "(I)I"⟩, 32) := ⟨⟨by decide +kernel, by decide +kernel⟩, List.mem_of_getElem? (i := 608) (by decide +kernel), List.mem_of_getElem? (i := 823) (by decide +kernel), List.mem_of_getElem? (i := 824) (by decide +kernel)⟩
theorem lw_p27 : lw_okq (⟨"BreakerRowsModel", "loadOf", "(I)I"⟩, 32) := ⟨⟨by decide +kernel, by decide +kernel⟩, List.mem_of_getElem? (i := 608) (by decide +kernel), List.mem_of_getElem? (i := 827) (by decide +kernel), List.mem_of_getElem? (i := 828) (by decide +kernel)⟩
theorem lw_p28 : lw_okq (⟨"BreakerRowsModel", "isRight", "()Z"⟩, 32) := ⟨⟨by decide +kernel, by decide +kernel⟩, List.mem_of_getElem? (i := 608) (by decide +kernel), List.mem_of_getElem? (i := 835) (by decide +kernel), List.mem_of_getElem? (i := 836) (by decide +kernel)⟩
theorem lw_p29 : lw_okq (⟨"BreakerRowsModel", "isLineRight", "(I)Z"⟩, 32) := ⟨⟨by decide +kernel, by decide +kernel⟩, List.mem_of_getElem? (i := 608) (by decide +kernel), List.mem_of_getElem? (i := 839) (by decide +kernel), List.mem_of_getElem? (i := 840) (by decide +kernel)⟩
theorem lw_p30 : lw_okq (⟨"BreakerRowsModel", "tells", "(IIII)Z"⟩, 32) := ⟨⟨by decide +kernel, by decide +kernel⟩, List.mem_of_getElem? (i := 608) (by decide +kernel), List.mem_of_getElem? (i := 843) (by decide +kernel), List.mem_of_getElem? (i := 844) (by decide +kernel)⟩
theorem lw_p31 : lw_okq (⟨"BreakerRowsModel", "tooShort", "(III)I"⟩, 32) := ⟨⟨by decide +kernel, by decide +kernel⟩, List.mem_of_getElem? (i := 608) (by decide +kernel), List.mem_of_getElem? (i := 847) (by decide +kernel), List.mem_of_getElem? (i := 848) (by decide +kernel)⟩
def lw_privs_2 : List (MethodName × Nat) := [(⟨"BreakerRows$Demands", "isMet", "(II[I)Z"⟩, 5), (⟨"BreakerRowsModel", "isLine", "(I)Z"⟩, 32), (⟨"BreakerRowsModel", "isBreaker", "(I)Z"⟩, 32), (⟨"BreakerRowsModel", "isFault", "(III)Z"⟩, 32), (⟨"BreakerRowsModel", "sum", "(III)J"⟩, 32), (⟨"BreakerRowsModel", "waitAt", "(IIII)I"⟩, 32), (⟨"BreakerRowsModel", "isOnWay", "(II)Z"⟩, 32), (⟨"BreakerRowsModel", "waitBy", "(IJJ)I"⟩, 32), (⟨"BreakerRowsModel", "cleared", "(III)I"⟩, 32), (⟨"BreakerRowsModel", "keeper", "(I)I"⟩, 32), (⟨"BreakerRowsModel", "next", "(I)I"⟩, 32), (⟨"BreakerRowsModel", "loadOf", "(I)I"⟩, 32), (⟨"BreakerRowsModel", "isRight", "()Z"⟩, 32), (⟨"BreakerRowsModel", "isLineRight", "(I)Z"⟩, 32), (⟨"BreakerRowsModel", "tells", "(IIII)Z"⟩, 32), (⟨"BreakerRowsModel", "tooShort", "(III)I"⟩, 32)]
theorem lw_r2 : ∀ q ∈ lw_privs_2, lw_okq q := List.forall_mem_cons.mpr ⟨lw_p16, List.forall_mem_cons.mpr ⟨lw_p17, List.forall_mem_cons.mpr ⟨lw_p18, List.forall_mem_cons.mpr ⟨lw_p19, List.forall_mem_cons.mpr ⟨lw_p20, List.forall_mem_cons.mpr ⟨lw_p21, List.forall_mem_cons.mpr ⟨lw_p22, List.forall_mem_cons.mpr ⟨lw_p23, List.forall_mem_cons.mpr ⟨lw_p24, List.forall_mem_cons.mpr ⟨lw_p25, List.forall_mem_cons.mpr ⟨lw_p26, List.forall_mem_cons.mpr ⟨lw_p27, List.forall_mem_cons.mpr ⟨lw_p28, List.forall_mem_cons.mpr ⟨lw_p29, List.forall_mem_cons.mpr ⟨lw_p30, List.forall_mem_cons.mpr ⟨lw_p31, fun _ h => absurd h List.not_mem_nil⟩⟩⟩⟩⟩⟩⟩⟩⟩⟩⟩⟩⟩⟩⟩⟩
theorem lw_p32 : lw_okq (⟨"BreakerRowsModel", "raises", "()I"⟩, 32) := ⟨⟨by decide +kernel, by decide +kernel⟩, List.mem_of_getElem? (i := 608) (by decide +kernel), List.mem_of_getElem? (i := 855) (by decide +kernel), List.mem_of_getElem? (i := 856) (by decide +kernel)⟩
theorem lw_p33 : lw_okq (⟨"BreakerRowsModel", "take", "(I)V"⟩, 32) := ⟨⟨by decide +kernel, by decide +kernel⟩, List.mem_of_getElem? (i := 608) (by decide +kernel), List.mem_of_getElem? (i := 872) (by decide +kernel), List.mem_of_getElem? (i := 873) (by decide +kernel)⟩
def lw_privs_3 : List (MethodName × Nat) := [(⟨"BreakerRowsModel", "raises", "()I"⟩, 32), (⟨"BreakerRowsModel", "take", "(I)V"⟩, 32)]
theorem lw_r3 : ∀ q ∈ lw_privs_3, lw_okq q := List.forall_mem_cons.mpr ⟨lw_p32, List.forall_mem_cons.mpr ⟨lw_p33, fun _ h => absurd h List.not_mem_nil⟩⟩
def lw_privs : List (MethodName × Nat) := lw_privs_1 ++ (lw_privs_2 ++ (lw_privs_3))
def lw_tbl : List Cond := k2_sels lw_privs ++ tables_1
theorem lw_privs_ok : ∀ q ∈ lw_privs, lw_okq q := by
  show ∀ q ∈ lw_privs_1 ++ (lw_privs_2 ++ (lw_privs_3)), lw_okq q
  exact List.forall_mem_append.mpr ⟨lw_r1, List.forall_mem_append.mpr ⟨lw_r2, lw_r3⟩⟩

/-! ===== BEGIN words of one list among another's, by their places ===== -/
theorem goodIn_r {big : List Cond} (ws : List Cond) (ps : List Nat) (hp : ws = ps.filterMap (fun i => big[i]?)) (h : ws.all goodWord = true) : GoodIn big ws := by
  intro w hw
  have h1 := List.all_eq_true.mp h w hw
  rw [hp] at hw
  obtain ⟨i, -, hi⟩ := List.mem_filterMap.mp hw
  have hm : w ∈ big := by first | exact List.mem_of_getElem? hi | exact List.getElem?_mem hi
  exact ⟨hm, good_of_word h1⟩
theorem goodIn_app {big a b : List Cond} (ha : GoodIn big a) (hb : GoodIn big b) : GoodIn big (a ++ b) := fun w h => (List.mem_append.mp h).elim (ha w) (hb w)
theorem goodIn_ca {big a b : List Cond} {c : Cond} (ha : GoodIn big (c :: a)) (hb : GoodIn big b) : GoodIn big (c :: (a ++ b)) := fun w h => (List.mem_cons.mp h).elim (fun e => ha w (List.mem_cons.mpr (Or.inl e))) (fun h => (List.mem_append.mp h).elim (fun h => ha w (List.mem_cons.mpr (Or.inr h))) (hb w))
theorem goodIn_sub {big ws : List Cond} (hm : ∀ w ∈ ws, w ∈ big) (h : ws.all goodWord = true) : GoodIn big ws := fun w hw => ⟨hm w hw, good_of_word (List.all_eq_true.mp h w hw)⟩
/-! ===== END ===== -/

/-! ===== BEGIN printed: names, fields, word lists, decode rows ===== -/
def RX0 : String := "BreakerRows$Curve"
def TX0 : u_T := fun k => match k with
  | 0 => ("BreakerRows$Curve", "corners", "I", false)
  | 1 => ("BreakerRows$Curve", "multiples", "[I", true)
  | _ => ("BreakerRows$Curve", "ticks", "[I", true)
def tyX0 : Nat → FieldType := fun k => match k with
  | 0 => .int
  | 1 => .array .int
  | _ => .array .int
abbrev wsX00 : List Cond := u_ws RX0 TX0 3
theorem nmX0 : ∀ a, a < 3 → ∀ b, b < 3 → a ≠ b → (TX0 a).2.1 ≠ (TX0 b).2.1 := by decide +kernel
theorem tyX0_ok : ∀ k, k < 3 → parseFieldDescriptor (TX0 k).2.2.1 = some (tyX0 k) := by decide +kernel
abbrev cX0_init : ByteArray := prog_2_method_1_code
def yX0_init : MethodName := ⟨RX0, "<init>", "()V"⟩
abbrev cX0_addCorner : ByteArray := prog_2_method_2_code
def yX0_addCorner : MethodName := ⟨RX0, "addCorner", "(II)I"⟩
abbrev cX0_cornerReached : ByteArray := prog_2_method_3_code
def yX0_cornerReached : MethodName := ⟨RX0, "cornerReached", "(IJJ)I"⟩
def RX1 : String := "BreakerRows$Demands"
def TX1 : u_T := fun k => match k with
  | 0 => ("BreakerRows$Demands", "net", "LBreakerRows$Net;", true)
  | 1 => ("BreakerRows$Demands", "rows", "LBreakerRows$Rows;", true)
  | 2 => ("BreakerRows$Demands", "rules", "LBreakerRows$Rules;", true)
  | 3 => ("BreakerRows$Demands", "lowerTicks", "[I", true)
  | _ => ("BreakerRows$Demands", "keeperTicks", "[I", true)
def tyX1 : Nat → FieldType := fun k => match k with
  | 0 => .object "BreakerRows$Net"
  | 1 => .object "BreakerRows$Rows"
  | 2 => .object "BreakerRows$Rules"
  | 3 => .array .int
  | _ => .array .int
abbrev wsX10 : List Cond := u_ws RX1 TX1 5
theorem nmX1 : ∀ a, a < 5 → ∀ b, b < 5 → a ≠ b → (TX1 a).2.1 ≠ (TX1 b).2.1 := by decide +kernel
theorem tyX1_ok : ∀ k, k < 5 → parseFieldDescriptor (TX1 k).2.2.1 = some (tyX1 k) := by decide +kernel
abbrev cX1_init : ByteArray := prog_3_method_1_code
def yX1_init : MethodName := ⟨RX1, "<init>", "(LBreakerRows$Net;LBreakerRows$Rows;LBreakerRows$Rules;)V"⟩
abbrev cX1_gather : ByteArray := prog_3_method_2_code
def yX1_gather : MethodName := ⟨RX1, "gather", "()V"⟩
abbrev cX1_gatherOf : ByteArray := prog_3_method_3_code
def yX1_gatherOf : MethodName := ⟨RX1, "gatherOf", "(IJ)V"⟩
abbrev cX1_rowOf : ByteArray := prog_3_method_4_code
def yX1_rowOf : MethodName := ⟨RX1, "rowOf", "(II)I"⟩
abbrev cX1_leastDial : ByteArray := prog_3_method_5_code
def yX1_leastDial : MethodName := ⟨RX1, "leastDial", "(I[I)J"⟩
abbrev cX1_areMetAround : ByteArray := prog_3_method_6_code
def yX1_areMetAround : MethodName := ⟨RX1, "areMetAround", "(I[I)Z"⟩
abbrev cX1_isMet : ByteArray := prog_3_method_7_code
def yX1_isMet : MethodName := ⟨RX1, "isMet", "(II[I)Z"⟩
def RX2 : String := "BreakerRows$Judge"
def TX2 : u_T := fun k => match k with
  | 0 => ("BreakerRows$Judge", "net", "LBreakerRows$Net;", true)
  | 1 => ("BreakerRows$Judge", "rows", "LBreakerRows$Rows;", true)
  | 2 => ("BreakerRows$Judge", "rules", "LBreakerRows$Rules;", true)
  | 3 => ("BreakerRows$Judge", "which", "I", false)
  | 4 => ("BreakerRows$Judge", "line", "I", false)
  | 5 => ("BreakerRows$Judge", "place", "I", false)
  | _ => ("BreakerRows$Judge", "by", "I", false)
def tyX2 : Nat → FieldType := fun k => match k with
  | 0 => .object "BreakerRows$Net"
  | 1 => .object "BreakerRows$Rows"
  | 2 => .object "BreakerRows$Rules"
  | 3 => .int
  | 4 => .int
  | 5 => .int
  | _ => .int
abbrev wsX20 : List Cond := u_ws RX2 TX2 7
theorem nmX2 : ∀ a, a < 7 → ∀ b, b < 7 → a ≠ b → (TX2 a).2.1 ≠ (TX2 b).2.1 := by decide +kernel
theorem tyX2_ok : ∀ k, k < 7 → parseFieldDescriptor (TX2 k).2.2.1 = some (tyX2 k) := by decide +kernel
abbrev cX2_init : ByteArray := prog_4_method_1_code
def yX2_init : MethodName := ⟨RX2, "<init>", "(LBreakerRows$Net;LBreakerRows$Rows;LBreakerRows$Rules;)V"⟩
abbrev cX2_look : ByteArray := prog_4_method_2_code
def yX2_look : MethodName := ⟨RX2, "look", "()V"⟩
abbrev cX2_note : ByteArray := prog_4_method_3_code
def yX2_note : MethodName := ⟨RX2, "note", "(IIII)V"⟩
abbrev cX2_lookAtLine : ByteArray := prog_4_method_4_code
def yX2_lookAtLine : MethodName := ⟨RX2, "lookAtLine", "(I)V"⟩
abbrev cX2_lookAtFaults : ByteArray := prog_4_method_5_code
def yX2_lookAtFaults : MethodName := ⟨RX2, "lookAtFaults", "(II)V"⟩
abbrev cX2_isUnseen : ByteArray := prog_4_method_6_code
def yX2_isUnseen : MethodName := ⟨RX2, "isUnseen", "(IJ)Z"⟩
abbrev cX2_isOutOfOrder : ByteArray := prog_4_method_7_code
def yX2_isOutOfOrder : MethodName := ⟨RX2, "isOutOfOrder", "(IJ)Z"⟩
def RX3 : String := "BreakerRows$Net"
def TX3 : u_T := fun k => match k with
  | 0 => ("BreakerRows$Net", "knots", "I", false)
  | 1 => ("BreakerRows$Net", "force", "I", false)
  | 2 => ("BreakerRows$Net", "sourceResistance", "I", false)
  | 3 => ("BreakerRows$Net", "from", "[I", true)
  | 4 => ("BreakerRows$Net", "resistance", "[I", true)
  | 5 => ("BreakerRows$Net", "above", "[I", true)
  | 6 => ("BreakerRows$Net", "way", "[I", true)
  | _ => ("BreakerRows$Net", "loads", "[I", true)
def tyX3 : Nat → FieldType := fun k => match k with
  | 0 => .int
  | 1 => .int
  | 2 => .int
  | 3 => .array .int
  | 4 => .array .int
  | 5 => .array .int
  | 6 => .array .int
  | _ => .array .int
abbrev wsX30 : List Cond := u_ws RX3 TX3 8
theorem nmX3 : ∀ a, a < 8 → ∀ b, b < 8 → a ≠ b → (TX3 a).2.1 ≠ (TX3 b).2.1 := by decide +kernel
theorem tyX3_ok : ∀ k, k < 8 → parseFieldDescriptor (TX3 k).2.2.1 = some (tyX3 k) := by decide +kernel
abbrev cX3_init : ByteArray := prog_5_method_1_code
def yX3_init : MethodName := ⟨RX3, "<init>", "()V"⟩
abbrev cX3_isKnot : ByteArray := prog_5_method_2_code
def yX3_isKnot : MethodName := ⟨RX3, "isKnot", "(I)Z"⟩
abbrev cX3_isLine : ByteArray := prog_5_method_3_code
def yX3_isLine : MethodName := ⟨RX3, "isLine", "(I)Z"⟩
abbrev cX3_isOnWay : ByteArray := prog_5_method_4_code
def yX3_isOnWay : MethodName := ⟨RX3, "isOnWay", "(II)Z"⟩
abbrev cX3_isFault : ByteArray := prog_5_method_5_code
def yX3_isFault : MethodName := ⟨RX3, "isFault", "(III)Z"⟩
abbrev cX3_hang : ByteArray := prog_5_method_6_code
def yX3_hang : MethodName := ⟨RX3, "hang", "(II)I"⟩
abbrev cX3_sumOf : ByteArray := prog_5_method_7_code
def yX3_sumOf : MethodName := ⟨RX3, "sumOf", "(III)J"⟩
abbrev cX3_sixteenForces : ByteArray := prog_5_method_8_code
def yX3_sixteenForces : MethodName := ⟨RX3, "sixteenForces", "()J"⟩
abbrev cX3_currentByLoads : ByteArray := prog_5_method_9_code
def yX3_currentByLoads : MethodName := ⟨RX3, "currentByLoads", "(I)I"⟩
def RX4 : String := "BreakerRows$Order"
def TX4 : u_T := fun k => match k with
  | 0 => ("BreakerRows$Order", "rows", "LBreakerRows$Rows;", true)
  | 1 => ("BreakerRows$Order", "demands", "LBreakerRows$Demands;", true)
  | 2 => ("BreakerRows$Order", "steps", "I", false)
  | 3 => ("BreakerRows$Order", "kept", "[I", true)
  | 4 => ("BreakerRows$Order", "many", "I", false)
  | 5 => ("BreakerRows$Order", "lines", "[I", true)
  | 6 => ("BreakerRows$Order", "path", "[I", true)
  | _ => ("BreakerRows$Order", "dials", "[I", true)
def tyX4 : Nat → FieldType := fun k => match k with
  | 0 => .object "BreakerRows$Rows"
  | 1 => .object "BreakerRows$Demands"
  | 2 => .int
  | 3 => .array .int
  | 4 => .int
  | 5 => .array .int
  | 6 => .array .int
  | _ => .array .int
abbrev wsX40 : List Cond := u_ws RX4 TX4 8
theorem nmX4 : ∀ a, a < 8 → ∀ b, b < 8 → a ≠ b → (TX4 a).2.1 ≠ (TX4 b).2.1 := by decide +kernel
theorem tyX4_ok : ∀ k, k < 8 → parseFieldDescriptor (TX4 k).2.2.1 = some (tyX4 k) := by decide +kernel
abbrev cX4_init : ByteArray := prog_6_method_1_code
def yX4_init : MethodName := ⟨RX4, "<init>", "(LBreakerRows$Rows;LBreakerRows$Demands;)V"⟩
abbrev cX4_gatherLines : ByteArray := prog_6_method_2_code
def yX4_gatherLines : MethodName := ⟨RX4, "gatherLines", "()Z"⟩
abbrev cX4_find : ByteArray := prog_6_method_3_code
def yX4_find : MethodName := ⟨RX4, "find", "()I"⟩
abbrev cX4_lowestThatCanGo : ByteArray := prog_6_method_4_code
def yX4_lowestThatCanGo : MethodName := ⟨RX4, "lowestThatCanGo", "(I)I"⟩
def RX5 : String := "BreakerRows$Rows"
def TX5 : u_T := fun k => match k with
  | 0 => ("BreakerRows$Rows", "curves", "[LBreakerRows$Curve;", true)
  | 1 => ("BreakerRows$Rows", "there", "I", false)
  | 2 => ("BreakerRows$Rows", "failing", "I", false)
  | 3 => ("BreakerRows$Rows", "curveAt", "[I", true)
  | 4 => ("BreakerRows$Rows", "dials", "[I", true)
  | 5 => ("BreakerRows$Rows", "picks", "[I", true)
  | _ => ("BreakerRows$Rows", "goalDials", "[I", true)
def tyX5 : Nat → FieldType := fun k => match k with
  | 0 => .array (.object "BreakerRows$Curve")
  | 1 => .int
  | 2 => .int
  | 3 => .array .int
  | 4 => .array .int
  | 5 => .array .int
  | _ => .array .int
abbrev wsX50 : List Cond := u_ws RX5 TX5 7
theorem nmX5 : ∀ a, a < 7 → ∀ b, b < 7 → a ≠ b → (TX5 a).2.1 ≠ (TX5 b).2.1 := by decide +kernel
theorem tyX5_ok : ∀ k, k < 7 → parseFieldDescriptor (TX5 k).2.2.1 = some (tyX5 k) := by decide +kernel
abbrev cX5_init : ByteArray := prog_7_method_1_code
def yX5_init : MethodName := ⟨RX5, "<init>", "()V"⟩
abbrev cX5_isThere : ByteArray := prog_7_method_2_code
def yX5_isThere : MethodName := ⟨RX5, "isThere", "(I)Z"⟩
abbrev cX5_place : ByteArray := prog_7_method_3_code
def yX5_place : MethodName := ⟨RX5, "place", "(IIII)V"⟩
abbrev cX5_takeAway : ByteArray := prog_7_method_4_code
def yX5_takeAway : MethodName := ⟨RX5, "takeAway", "(I)V"⟩
abbrev cX5_setFailing : ByteArray := prog_7_method_5_code
def yX5_setFailing : MethodName := ⟨RX5, "setFailing", "(IZ)V"⟩
abbrev cX5_lastOf : ByteArray := prog_7_method_6_code
def yX5_lastOf : MethodName := ⟨RX5, "lastOf", "(I)I"⟩
abbrev cX5_cornerReached : ByteArray := prog_7_method_7_code
def yX5_cornerReached : MethodName := ⟨RX5, "cornerReached", "(IJJ)I"⟩
abbrev cX5_ticksAt : ByteArray := prog_7_method_8_code
def yX5_ticksAt : MethodName := ⟨RX5, "ticksAt", "(II)I"⟩
abbrev cX5_waitAt : ByteArray := prog_7_method_9_code
def yX5_waitAt : MethodName := ⟨RX5, "waitAt", "(IJJ)I"⟩
abbrev cX5_leastTenthsSeen : ByteArray := prog_7_method_10_code
def yX5_leastTenthsSeen : MethodName := ⟨RX5, "leastTenthsSeen", "(I)J"⟩
abbrev cX5_sumOfDials : ByteArray := prog_7_method_11_code
def yX5_sumOfDials : MethodName := ⟨RX5, "sumOfDials", "()I"⟩
abbrev cX5_keepDialsAsGoal : ByteArray := prog_7_method_12_code
def yX5_keepDialsAsGoal : MethodName := ⟨RX5, "keepDialsAsGoal", "()I"⟩
def RX6 : String := "BreakerRows$Rules"
def TX6 : u_T := fun k => match k with
  | 0 => ("BreakerRows$Rules", "margin", "I", false)
  | 1 => ("BreakerRows$Rules", "limit", "I", false)
  | _ => ("BreakerRows$Rules", "last", "I", false)
def tyX6 : Nat → FieldType := fun k => match k with
  | 0 => .int
  | 1 => .int
  | _ => .int
abbrev wsX60 : List Cond := u_ws RX6 TX6 3
theorem nmX6 : ∀ a, a < 3 → ∀ b, b < 3 → a ≠ b → (TX6 a).2.1 ≠ (TX6 b).2.1 := by decide +kernel
theorem tyX6_ok : ∀ k, k < 3 → parseFieldDescriptor (TX6 k).2.2.1 = some (tyX6 k) := by decide +kernel
abbrev cX6_init : ByteArray := prog_8_method_1_code
def yX6_init : MethodName := ⟨RX6, "<init>", "()V"⟩
abbrev cX6_resistancesAsked : ByteArray := prog_8_method_2_code
def yX6_resistancesAsked : MethodName := ⟨RX6, "resistancesAsked", "()I"⟩
abbrev cX6_resistanceAsked : ByteArray := prog_8_method_3_code
def yX6_resistanceAsked : MethodName := ⟨RX6, "resistanceAsked", "(I)I"⟩
def RX7 : String := "BreakerRows"
def TX7 : u_T := fun k => match k with
  | 0 => ("BreakerRows", "net", "LBreakerRows$Net;", true)
  | 1 => ("BreakerRows", "rows", "LBreakerRows$Rows;", true)
  | 2 => ("BreakerRows", "rules", "LBreakerRows$Rules;", true)
  | 3 => ("BreakerRows", "judge", "LBreakerRows$Judge;", true)
  | 4 => ("BreakerRows", "demands", "LBreakerRows$Demands;", true)
  | 5 => ("BreakerRows", "order", "LBreakerRows$Order;", true)
  | 6 => ("BreakerRows", "trial", "[I", true)
  | 7 => ("BreakerRows", "spare", "[I", true)
  | 8 => ("BreakerRows", "hasGoal", "Z", false)
  | 9 => ("BreakerRows", "hasRun", "Z", false)
  | _ => ("BreakerRows", "opened", "I", false)
def tyX7 : Nat → FieldType := fun k => match k with
  | 0 => .object "BreakerRows$Net"
  | 1 => .object "BreakerRows$Rows"
  | 2 => .object "BreakerRows$Rules"
  | 3 => .object "BreakerRows$Judge"
  | 4 => .object "BreakerRows$Demands"
  | 5 => .object "BreakerRows$Order"
  | 6 => .array .int
  | 7 => .array .int
  | 8 => .boolean
  | 9 => .boolean
  | _ => .int
abbrev wsX70 : List Cond := u_ws RX7 TX7 11
theorem nmX7 : ∀ a, a < 11 → ∀ b, b < 11 → a ≠ b → (TX7 a).2.1 ≠ (TX7 b).2.1 := by decide +kernel
theorem tyX7_ok : ∀ k, k < 11 → parseFieldDescriptor (TX7 k).2.2.1 = some (tyX7 k) := by decide +kernel
abbrev cX7_init : ByteArray := prog_1_method_1_code
def yX7_init : MethodName := ⟨RX7, "<init>", "()V"⟩
abbrev cX7_source : ByteArray := prog_1_method_2_code
def yX7_source : MethodName := ⟨RX7, "source", "(II)Z"⟩
abbrev cX7_line : ByteArray := prog_1_method_3_code
def yX7_line : MethodName := ⟨RX7, "line", "(II)I"⟩
abbrev cX7_load : ByteArray := prog_1_method_4_code
def yX7_load : MethodName := ⟨RX7, "load", "(II)Z"⟩
abbrev cX7_corner : ByteArray := prog_1_method_5_code
def yX7_corner : MethodName := ⟨RX7, "corner", "(III)I"⟩
abbrev cX7_breaker : ByteArray := prog_1_method_6_code
def yX7_breaker : MethodName := ⟨RX7, "breaker", "(IIII)Z"⟩
abbrev cX7_remove : ByteArray := prog_1_method_7_code
def yX7_remove : MethodName := ⟨RX7, "remove", "(I)Z"⟩
abbrev cX7_dial : ByteArray := prog_1_method_8_code
def yX7_dial : MethodName := ⟨RX7, "dial", "(II)Z"⟩
abbrev cX7_fails : ByteArray := prog_1_method_9_code
def yX7_fails : MethodName := ⟨RX7, "fails", "(IZ)Z"⟩
abbrev cX7_told : ByteArray := prog_1_method_10_code
def yX7_told : MethodName := ⟨RX7, "told", "(III)Z"⟩
abbrev cX7_lineOf : ByteArray := prog_1_method_11_code
def yX7_lineOf : MethodName := ⟨RX7, "lineOf", "(II)I"⟩
abbrev cX7_fault : ByteArray := prog_1_method_12_code
def yX7_fault : MethodName := ⟨RX7, "fault", "(IIII)J"⟩
abbrev cX7_waits : ByteArray := prog_1_method_13_code
def yX7_waits : MethodName := ⟨RX7, "waits", "(IIII)I"⟩
abbrev cX7_run : ByteArray := prog_1_method_14_code
def yX7_run : MethodName := ⟨RX7, "run", "(III)I"⟩
abbrev cX7_ran : ByteArray := prog_1_method_15_code
def yX7_ran : MethodName := ⟨RX7, "ran", "(II)I"⟩
abbrev cX7_right : ByteArray := prog_1_method_16_code
def yX7_right : MethodName := ⟨RX7, "right", "(I)I"⟩
abbrev cX7_fit : ByteArray := prog_1_method_17_code
def yX7_fit : MethodName := ⟨RX7, "fit", "()I"⟩
abbrev cX7_arc : ByteArray := prog_1_method_18_code
def yX7_arc : MethodName := ⟨RX7, "arc", "(III)J"⟩
abbrev cX7_worst : ByteArray := prog_1_method_19_code
def yX7_worst : MethodName := ⟨RX7, "worst", "()J"⟩
abbrev cX7_growth : ByteArray := prog_1_method_20_code
def yX7_growth : MethodName := ⟨RX7, "growth", "()I"⟩
abbrev cX7_goal : ByteArray := prog_1_method_21_code
def yX7_goal : MethodName := ⟨RX7, "goal", "()I"⟩
abbrev cX7_change : ByteArray := prog_1_method_22_code
def yX7_change : MethodName := ⟨RX7, "change", "()I"⟩
abbrev cX7_step : ByteArray := prog_1_method_23_code
def yX7_step : MethodName := ⟨RX7, "step", "(I)I"⟩
abbrev cX7_about : ByteArray := prog_1_method_24_code
def yX7_about : MethodName := ⟨RX7, "about", "(I)I"⟩
abbrev cX7_isWithin : ByteArray := prog_1_method_25_code
def yX7_isWithin : MethodName := ⟨RX7, "isWithin", "(III)Z"⟩
abbrev cX7_lineOrNone : ByteArray := prog_1_method_26_code
def yX7_lineOrNone : MethodName := ⟨RX7, "lineOrNone", "(I)I"⟩
abbrev cX7_holds : ByteArray := prog_1_method_27_code
def yX7_holds : MethodName := ⟨RX7, "holds", "(II)Z"⟩
abbrev cX7_nextOf : ByteArray := prog_1_method_28_code
def yX7_nextOf : MethodName := ⟨RX7, "nextOf", "(I)I"⟩
abbrev cX7_breakerOf : ByteArray := prog_1_method_29_code
def yX7_breakerOf : MethodName := ⟨RX7, "breakerOf", "(II)I"⟩
abbrev cX7_ableOn : ByteArray := prog_1_method_30_code
def yX7_ableOn : MethodName := ⟨RX7, "ableOn", "(I)I"⟩
abbrev cX7_clearTick : ByteArray := prog_1_method_31_code
def yX7_clearTick : MethodName := ⟨RX7, "clearTick", "(III)I"⟩
abbrev cX7_openersAt : ByteArray := prog_1_method_32_code
def yX7_openersAt : MethodName := ⟨RX7, "openersAt", "(IIII)I"⟩
abbrev cX7_arcOf : ByteArray := prog_1_method_33_code
def yX7_arcOf : MethodName := ⟨RX7, "arcOf", "(III)J"⟩
abbrev cX7_worstOf : ByteArray := prog_1_method_34_code
def yX7_worstOf : MethodName := ⟨RX7, "worstOf", "(I)J"⟩
abbrev cX7_growthOf : ByteArray := prog_1_method_35_code
def yX7_growthOf : MethodName := ⟨RX7, "growthOf", "(I)J"⟩
abbrev cX7_findLeastDials : ByteArray := prog_1_method_36_code
def yX7_findLeastDials : MethodName := ⟨RX7, "findLeastDials", "()Z"⟩
def RX8 : String := "BreakerRowsModel"
def TX8 : u_T := fun k => match k with
  | 0 => ("BreakerRowsModel", "knots", "I", false)
  | 1 => ("BreakerRowsModel", "force", "I", false)
  | 2 => ("BreakerRowsModel", "resistance", "I", false)
  | 3 => ("BreakerRowsModel", "margin", "I", false)
  | 4 => ("BreakerRowsModel", "limit", "I", false)
  | 5 => ("BreakerRowsModel", "last", "I", false)
  | 6 => ("BreakerRowsModel", "from", "[I", true)
  | 7 => ("BreakerRowsModel", "by", "[I", true)
  | 8 => ("BreakerRowsModel", "load", "[I", true)
  | 9 => ("BreakerRowsModel", "corners", "[I", true)
  | 10 => ("BreakerRowsModel", "multiple", "[I", true)
  | 11 => ("BreakerRowsModel", "ticks", "[I", true)
  | 12 => ("BreakerRowsModel", "has", "[Z", true)
  | 13 => ("BreakerRowsModel", "curve", "[I", true)
  | 14 => ("BreakerRowsModel", "dial", "[I", true)
  | 15 => ("BreakerRowsModel", "pick", "[I", true)
  | 16 => ("BreakerRowsModel", "fails", "[Z", true)
  | 17 => ("BreakerRowsModel", "hasGoal", "Z", false)
  | 18 => ("BreakerRowsModel", "goal", "[I", true)
  | 19 => ("BreakerRowsModel", "hasRun", "Z", false)
  | 20 => ("BreakerRowsModel", "opened", "[Z", true)
  | 21 => ("BreakerRowsModel", "dark", "[Z", true)
  | 22 => ("BreakerRowsModel", "steps", "[I", true)
  | 23 => ("BreakerRowsModel", "stepMany", "I", false)
  | 24 => ("BreakerRowsModel", "wrong", "I", false)
  | 25 => ("BreakerRowsModel", "wrongLine", "I", false)
  | 26 => ("BreakerRowsModel", "wrongPlace", "I", false)
  | 27 => ("BreakerRowsModel", "wrongBy", "I", false)
  | 28 => ("BreakerRowsModel", "kept", "[I", true)
  | 29 => ("BreakerRowsModel", "other", "[I", true)
  | 30 => ("BreakerRowsModel", "others", "I", false)
  | _ => ("BreakerRowsModel", "can", "[B", true)
def tyX8 : Nat → FieldType := fun k => match k with
  | 0 => .int
  | 1 => .int
  | 2 => .int
  | 3 => .int
  | 4 => .int
  | 5 => .int
  | 6 => .array .int
  | 7 => .array .int
  | 8 => .array .int
  | 9 => .array .int
  | 10 => .array .int
  | 11 => .array .int
  | 12 => .array .boolean
  | 13 => .array .int
  | 14 => .array .int
  | 15 => .array .int
  | 16 => .array .boolean
  | 17 => .boolean
  | 18 => .array .int
  | 19 => .boolean
  | 20 => .array .boolean
  | 21 => .array .boolean
  | 22 => .array .int
  | 23 => .int
  | 24 => .int
  | 25 => .int
  | 26 => .int
  | 27 => .int
  | 28 => .array .int
  | 29 => .array .int
  | 30 => .int
  | _ => .array .byte
abbrev wsX80 : List Cond := u_ws RX8 TX8 32
theorem nmX8 : ∀ a, a < 32 → ∀ b, b < 32 → a ≠ b → (TX8 a).2.1 ≠ (TX8 b).2.1 := by decide +kernel
theorem tyX8_ok : ∀ k, k < 32 → parseFieldDescriptor (TX8 k).2.2.1 = some (tyX8 k) := by decide +kernel
abbrev cX8_init : ByteArray := prog_10_method_1_code
def yX8_init : MethodName := ⟨RX8, "<init>", "()V"⟩
abbrev cX8_isIn : ByteArray := prog_10_method_2_code
def yX8_isIn : MethodName := ⟨RX8, "isIn", "(III)Z"⟩
abbrev cX8_isLine : ByteArray := prog_10_method_3_code
def yX8_isLine : MethodName := ⟨RX8, "isLine", "(I)Z"⟩
abbrev cX8_isBreaker : ByteArray := prog_10_method_4_code
def yX8_isBreaker : MethodName := ⟨RX8, "isBreaker", "(I)Z"⟩
abbrev cX8_isFault : ByteArray := prog_10_method_5_code
def yX8_isFault : MethodName := ⟨RX8, "isFault", "(III)Z"⟩
abbrev cX8_source : ByteArray := prog_10_method_6_code
def yX8_source : MethodName := ⟨RX8, "source", "(II)Z"⟩
abbrev cX8_line : ByteArray := prog_10_method_7_code
def yX8_line : MethodName := ⟨RX8, "line", "(II)I"⟩
abbrev cX8_load : ByteArray := prog_10_method_8_code
def yX8_load : MethodName := ⟨RX8, "load", "(II)Z"⟩
abbrev cX8_corner : ByteArray := prog_10_method_9_code
def yX8_corner : MethodName := ⟨RX8, "corner", "(III)I"⟩
abbrev cX8_breaker : ByteArray := prog_10_method_10_code
def yX8_breaker : MethodName := ⟨RX8, "breaker", "(IIII)Z"⟩
abbrev cX8_remove : ByteArray := prog_10_method_11_code
def yX8_remove : MethodName := ⟨RX8, "remove", "(I)Z"⟩
abbrev cX8_dial : ByteArray := prog_10_method_12_code
def yX8_dial : MethodName := ⟨RX8, "dial", "(II)Z"⟩
abbrev cX8_fails : ByteArray := prog_10_method_13_code
def yX8_fails : MethodName := ⟨RX8, "fails", "(IZ)Z"⟩
abbrev cX8_told : ByteArray := prog_10_method_14_code
def yX8_told : MethodName := ⟨RX8, "told", "(III)Z"⟩
abbrev cX8_isOnWay : ByteArray := prog_10_method_15_code
def yX8_isOnWay : MethodName := ⟨RX8, "isOnWay", "(II)Z"⟩
abbrev cX8_sum : ByteArray := prog_10_method_16_code
def yX8_sum : MethodName := ⟨RX8, "sum", "(III)J"⟩
abbrev cX8_waitBy : ByteArray := prog_10_method_17_code
def yX8_waitBy : MethodName := ⟨RX8, "waitBy", "(IJJ)I"⟩
abbrev cX8_waitAt : ByteArray := prog_10_method_18_code
def yX8_waitAt : MethodName := ⟨RX8, "waitAt", "(IIII)I"⟩
abbrev cX8_fault : ByteArray := prog_10_method_19_code
def yX8_fault : MethodName := ⟨RX8, "fault", "(IIII)J"⟩
abbrev cX8_waits : ByteArray := prog_10_method_20_code
def yX8_waits : MethodName := ⟨RX8, "waits", "(IIII)I"⟩
abbrev cX8_cleared : ByteArray := prog_10_method_21_code
def yX8_cleared : MethodName := ⟨RX8, "cleared", "(III)I"⟩
abbrev cX8_run : ByteArray := prog_10_method_22_code
def yX8_run : MethodName := ⟨RX8, "run", "(III)I"⟩
abbrev cX8_ran : ByteArray := prog_10_method_23_code
def yX8_ran : MethodName := ⟨RX8, "ran", "(II)I"⟩
abbrev cX8_arc : ByteArray := prog_10_method_24_code
def yX8_arc : MethodName := ⟨RX8, "arc", "(III)J"⟩
abbrev cX8_worst : ByteArray := prog_10_method_25_code
def yX8_worst : MethodName := ⟨RX8, "worst", "()J"⟩
abbrev cX8_keeper : ByteArray := prog_10_method_26_code
def yX8_keeper : MethodName := ⟨RX8, "keeper", "(I)I"⟩
abbrev cX8_next : ByteArray := prog_10_method_27_code
def yX8_next : MethodName := ⟨RX8, "next", "(I)I"⟩
abbrev cX8_loadOf : ByteArray := prog_10_method_28_code
def yX8_loadOf : MethodName := ⟨RX8, "loadOf", "(I)I"⟩
abbrev cX8_lineOf : ByteArray := prog_10_method_29_code
def yX8_lineOf : MethodName := ⟨RX8, "lineOf", "(II)I"⟩
abbrev cX8_tells : ByteArray := prog_10_method_30_code
def yX8_tells : MethodName := ⟨RX8, "tells", "(IIII)Z"⟩
abbrev cX8_tooShort : ByteArray := prog_10_method_31_code
def yX8_tooShort : MethodName := ⟨RX8, "tooShort", "(III)I"⟩
abbrev cX8_isLineRight : ByteArray := prog_10_method_32_code
def yX8_isLineRight : MethodName := ⟨RX8, "isLineRight", "(I)Z"⟩
abbrev cX8_isRight : ByteArray := prog_10_method_33_code
def yX8_isRight : MethodName := ⟨RX8, "isRight", "()Z"⟩
abbrev cX8_right : ByteArray := prog_10_method_34_code
def yX8_right : MethodName := ⟨RX8, "right", "(I)I"⟩
abbrev cX8_raises : ByteArray := prog_10_method_35_code
def yX8_raises : MethodName := ⟨RX8, "raises", "()I"⟩
abbrev cX8_fit : ByteArray := prog_10_method_36_code
def yX8_fit : MethodName := ⟨RX8, "fit", "()I"⟩
abbrev cX8_growth : ByteArray := prog_10_method_37_code
def yX8_growth : MethodName := ⟨RX8, "growth", "()I"⟩
abbrev cX8_goal : ByteArray := prog_10_method_38_code
def yX8_goal : MethodName := ⟨RX8, "goal", "()I"⟩
abbrev cX8_take : ByteArray := prog_10_method_39_code
def yX8_take : MethodName := ⟨RX8, "take", "(I)V"⟩
abbrev cX8_change : ByteArray := prog_10_method_40_code
def yX8_change : MethodName := ⟨RX8, "change", "()I"⟩
abbrev cX8_step : ByteArray := prog_10_method_41_code
def yX8_step : MethodName := ⟨RX8, "step", "(I)I"⟩
abbrev cX8_about : ByteArray := prog_10_method_42_code
def yX8_about : MethodName := ⟨RX8, "about", "(I)I"⟩
def RJ6 : String := "java/lang/Integer"
def TJ6 : u_T := fun k => match k with
  | _ => ("", "", "", false)
def tyJ6 : Nat → FieldType := fun k => match k with
  | _ => .int
abbrev wsJ60 : List Cond := u_ws RJ6 TJ6 0
theorem nmJ6 : ∀ a, a < 0 → ∀ b, b < 0 → a ≠ b → (TJ6 a).2.1 ≠ (TJ6 b).2.1 := by decide +kernel
theorem tyJ6_ok : ∀ k, k < 0 → parseFieldDescriptor (TJ6 k).2.2.1 = some (tyJ6 k) := by decide +kernel
abbrev cJ6_numberOfLeadingZeros_0f7a4 : ByteArray := prog_11_method_47_code
def yJ6_numberOfLeadingZeros_0f7a4 : MethodName := ⟨RJ6, "numberOfLeadingZeros", "(I)I"⟩
abbrev cJ6_bitCount_0f7a4 : ByteArray := prog_11_method_49_code
def yJ6_bitCount_0f7a4 : MethodName := ⟨RJ6, "bitCount", "(I)I"⟩
def RJ9 : String := "java/lang/Math"
def TJ9 : u_T := fun k => match k with
  | _ => ("", "", "", false)
def tyJ9 : Nat → FieldType := fun k => match k with
  | _ => .int
abbrev wsJ90 : List Cond := u_ws RJ9 TJ9 0
theorem nmJ9 : ∀ a, a < 0 → ∀ b, b < 0 → a ≠ b → (TJ9 a).2.1 ≠ (TJ9 b).2.1 := by decide +kernel
theorem tyJ9_ok : ∀ k, k < 0 → parseFieldDescriptor (TJ9 k).2.2.1 = some (tyJ9 k) := by decide +kernel
abbrev cJ9_max_7cf53 : ByteArray := prog_12_method_65_code
def yJ9_max_7cf53 : MethodName := ⟨RJ9, "max", "(II)I"⟩
abbrev cJ9_max_f86c9 : ByteArray := prog_12_method_66_code
def yJ9_max_f86c9 : MethodName := ⟨RJ9, "max", "(JJ)J"⟩
abbrev cJ9_min_f86c9 : ByteArray := prog_12_method_70_code
def yJ9_min_f86c9 : MethodName := ⟨RJ9, "min", "(JJ)J"⟩
def RJ10 : String := "java/lang/System"
def TJ10 : u_T := fun k => match k with
  | _ => ("", "", "", false)
def tyJ10 : Nat → FieldType := fun k => match k with
  | _ => .int
abbrev wsJ100 : List Cond := u_ws RJ10 TJ10 0
theorem nmJ10 : ∀ a, a < 0 → ∀ b, b < 0 → a ≠ b → (TJ10 a).2.1 ≠ (TJ10 b).2.1 := by decide +kernel
theorem tyJ10_ok : ∀ k, k < 0 → parseFieldDescriptor (TJ10 k).2.2.1 = some (tyJ10 k) := by decide +kernel
def RL : String := "BreakerRowsLaw"
abbrev cL_law : ByteArray := code
def yL_law : MethodName := ⟨RL, "law", "([I)Z"⟩
abbrev vwCl : List vw_C := [(RX0, TX0, 3), (RX1, TX1, 5), (RX2, TX2, 7), (RX3, TX3, 8), (RX4, TX4, 8), (RX5, TX5, 7), (RX6, TX6, 3), (RX7, TX7, 11), (RX8, TX8, 32)]
