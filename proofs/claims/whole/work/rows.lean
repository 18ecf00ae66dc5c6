section
-- ===== PART A: goes FIRST, ahead of the names: the tables' words, and 'selects' of the private methods out of them =====
/-- a private method of a class that the tables say can be made, by its rows of tables_1 -/
def lw_okq (q : MethodName × Nat) : Prop := (q.1.cls ≠ "java/lang/invoke/MethodHandle" ∧ q.1.cls ≠ "java/lang/invoke/VarHandle") ∧ Cond.instantiable q.1.cls q.2 ∈ tables_1 ∧ Cond.privateMethod q.1 ∈ tables_1 ∧ Cond.instanceMethod q.1 ∈ tables_1
theorem lw_p0 : lw_okq (⟨"BreakerRows", "nextOf", "(I)I"⟩, 11) := ⟨⟨by decide +kernel, by decide +kernel⟩, List.mem_of_getElem? (i := 14) (by decide +kernel), List.mem_of_getElem? (i := 357) (by decide +kernel), List.mem_of_getElem? (i := 358) (by decide +kernel)⟩
theorem lw_p1 : lw_okq (⟨"BreakerRows", "breakerOf", "(II)I"⟩, 11) := ⟨⟨by decide +kernel, by decide +kernel⟩, List.mem_of_getElem? (i := 14) (by decide +kernel), List.mem_of_getElem? (i := 366) (by decide +kernel), List.mem_of_getElem? (i := 367) (by decide +kernel)⟩
theorem lw_p2 : lw_okq (⟨"BreakerRows", "clearTick", "(III)I"⟩, 11) := ⟨⟨by decide +kernel, by decide +kernel⟩, List.mem_of_getElem? (i := 14) (by decide +kernel), List.mem_of_getElem? (i := 413) (by decide +kernel), List.mem_of_getElem? (i := 414) (by decide +kernel)⟩
theorem lw_p3 : lw_okq (⟨"BreakerRows", "ableOn", "(I)I"⟩, 11) := ⟨⟨by decide +kernel, by decide +kernel⟩, List.mem_of_getElem? (i := 14) (by decide +kernel), List.mem_of_getElem? (i := 417) (by decide +kernel), List.mem_of_getElem? (i := 418) (by decide +kernel)⟩
theorem lw_p4 : lw_okq (⟨"BreakerRows", "openersAt", "(IIII)I"⟩, 11) := ⟨⟨by decide +kernel, by decide +kernel⟩, List.mem_of_getElem? (i := 14) (by decide +kernel), List.mem_of_getElem? (i := 421) (by decide +kernel), List.mem_of_getElem? (i := 422) (by decide +kernel)⟩
theorem lw_p5 : lw_okq (⟨"BreakerRows$Judge", "note", "(IIII)V"⟩, 7) := ⟨⟨by decide +kernel, by decide +kernel⟩, List.mem_of_getElem? (i := 145) (by decide +kernel), List.mem_of_getElem? (i := 437) (by decide +kernel), List.mem_of_getElem? (i := 438) (by decide +kernel)⟩
theorem lw_p6 : lw_okq (⟨"BreakerRows$Judge", "lookAtLine", "(I)V"⟩, 7) := ⟨⟨by decide +kernel, by decide +kernel⟩, List.mem_of_getElem? (i := 145) (by decide +kernel), List.mem_of_getElem? (i := 441) (by decide +kernel), List.mem_of_getElem? (i := 442) (by decide +kernel)⟩
theorem lw_p7 : lw_okq (⟨"BreakerRows$Judge", "lookAtFaults", "(II)V"⟩, 7) := ⟨⟨by decide +kernel, by decide +kernel⟩, List.mem_of_getElem? (i := 145) (by decide +kernel), List.mem_of_getElem? (i := 446) (by decide +kernel), List.mem_of_getElem? (i := 447) (by decide +kernel)⟩
theorem lw_p8 : lw_okq (⟨"BreakerRows$Judge", "isUnseen", "(IJ)Z"⟩, 7) := ⟨⟨by decide +kernel, by decide +kernel⟩, List.mem_of_getElem? (i := 145) (by decide +kernel), List.mem_of_getElem? (i := 459) (by decide +kernel), List.mem_of_getElem? (i := 460) (by decide +kernel)⟩
theorem lw_p9 : lw_okq (⟨"BreakerRows$Judge", "isOutOfOrder", "(IJ)Z"⟩, 7) := ⟨⟨by decide +kernel, by decide +kernel⟩, List.mem_of_getElem? (i := 145) (by decide +kernel), List.mem_of_getElem? (i := 468) (by decide +kernel), List.mem_of_getElem? (i := 469) (by decide +kernel)⟩
theorem lw_p10 : lw_okq (⟨"BreakerRows", "findLeastDials", "()Z"⟩, 11) := ⟨⟨by decide +kernel, by decide +kernel⟩, List.mem_of_getElem? (i := 14) (by decide +kernel), List.mem_of_getElem? (i := 479) (by decide +kernel), List.mem_of_getElem? (i := 480) (by decide +kernel)⟩
theorem lw_p11 : lw_okq (⟨"BreakerRows$Demands", "gatherOf", "(IJ)V"⟩, 5) := ⟨⟨by decide +kernel, by decide +kernel⟩, List.mem_of_getElem? (i := 177) (by decide +kernel), List.mem_of_getElem? (i := 490) (by decide +kernel), List.mem_of_getElem? (i := 491) (by decide +kernel)⟩
theorem lw_p12 : lw_okq (⟨"BreakerRows", "arcOf", "(III)J"⟩, 11) := ⟨⟨by decide +kernel, by decide +kernel⟩, List.mem_of_getElem? (i := 14) (by decide +kernel), List.mem_of_getElem? (i := 527) (by decide +kernel), List.mem_of_getElem? (i := 528) (by decide +kernel)⟩
theorem lw_p13 : lw_okq (⟨"BreakerRows", "worstOf", "(I)J"⟩, 11) := ⟨⟨by decide +kernel, by decide +kernel⟩, List.mem_of_getElem? (i := 14) (by decide +kernel), List.mem_of_getElem? (i := 535) (by decide +kernel), List.mem_of_getElem? (i := 536) (by decide +kernel)⟩
theorem lw_p14 : lw_okq (⟨"BreakerRows", "growthOf", "(I)J"⟩, 11) := ⟨⟨by decide +kernel, by decide +kernel⟩, List.mem_of_getElem? (i := 14) (by decide +kernel), List.mem_of_getElem? (i := 547) (by decide +kernel), List.mem_of_getElem? (i := 548) (by decide +kernel)⟩
theorem lw_p15 : lw_okq (⟨"BreakerRows$Order", "lowestThatCanGo", "(I)I"⟩, 8) := ⟨⟨by decide +kernel, by decide +kernel⟩, List.mem_of_getElem? (i := 199) (by decide +kernel), List.mem_of_getElem? (i := 581) (by decide +kernel), List.mem_of_getElem? (i := 582) (by decide +kernel)⟩
def lw_privs_1 : List (MethodName × Nat) := [(⟨"BreakerRows", "nextOf", "(I)I"⟩, 11), (⟨"BreakerRows", "breakerOf", "(II)I"⟩, 11), (⟨"BreakerRows", "clearTick", "(III)I"⟩, 11), (⟨"BreakerRows", "ableOn", "(I)I"⟩, 11), (⟨"BreakerRows", "openersAt", "(IIII)I"⟩, 11), (⟨"BreakerRows$Judge", "note", "(IIII)V"⟩, 7), (⟨"BreakerRows$Judge", "lookAtLine", "(I)V"⟩, 7), (⟨"BreakerRows$Judge", "lookAtFaults", "(II)V"⟩, 7), (⟨"BreakerRows$Judge", "isUnseen", "(IJ)Z"⟩, 7), (⟨"BreakerRows$Judge", "isOutOfOrder", "(IJ)Z"⟩, 7), (⟨"BreakerRows", "findLeastDials", "()Z"⟩, 11), (⟨"BreakerRows$Demands", "gatherOf", "(IJ)V"⟩, 5), (⟨"BreakerRows", "arcOf", "(III)J"⟩, 11), (⟨"BreakerRows", "worstOf", "(I)J"⟩, 11), (⟨"BreakerRows", "growthOf", "(I)J"⟩, 11), (⟨"BreakerRows$Order", "lowestThatCanGo", "(I)I"⟩, 8)]
theorem lw_r1 : ∀ q ∈ lw_privs_1, lw_okq q := List.forall_mem_cons.mpr ⟨lw_p0, List.forall_mem_cons.mpr ⟨lw_p1, List.forall_mem_cons.mpr ⟨lw_p2, List.forall_mem_cons.mpr ⟨lw_p3, List.forall_mem_cons.mpr ⟨lw_p4, List.forall_mem_cons.mpr ⟨lw_p5, List.forall_mem_cons.mpr ⟨lw_p6, List.forall_mem_cons.mpr ⟨lw_p7, List.forall_mem_cons.mpr ⟨lw_p8, List.forall_mem_cons.mpr ⟨lw_p9, List.forall_mem_cons.mpr ⟨lw_p10, List.forall_mem_cons.mpr ⟨lw_p11, List.forall_mem_cons.mpr ⟨lw_p12, List.forall_mem_cons.mpr ⟨lw_p13, List.forall_mem_cons.mpr ⟨lw_p14, List.forall_mem_cons.mpr ⟨lw_p15, fun _ h => absurd h List.not_mem_nil⟩⟩⟩⟩⟩⟩⟩⟩⟩⟩⟩⟩⟩⟩⟩⟩
theorem lw_p16 : lw_okq (⟨"BreakerRows$Demands", "isMet", "(II[I)Z"⟩, 5) := ⟨⟨by decide +kernel, by decide +kernel⟩, List.mem_of_getElem? (i := 177) (by decide +kernel), List.mem_of_getElem? (i := 590) (by decide +kernel), List.mem_of_getElem? (i := 591) (by decide +kernel)⟩
theorem lw_p17 : lw_okq (⟨"BreakerRowsModel", "isLine", "(I)Z"⟩, 32) := ⟨⟨by decide +kernel, by decide +kernel⟩, List.mem_of_getElem? (i := 608) (by decide +kernel), List.mem_of_getElem? (i := 737) (by decide +kernel), List.mem_of_getElem? (i := 738) (by decide +kernel)⟩
theorem lw_p18 : lw_okq (⟨"BreakerRowsModel", "isBreaker", "(I)Z"⟩, 32) := ⟨⟨by decide +kernel, by decide +kernel⟩, List.mem_of_getElem? (i := 608) (by decide +kernel), List.mem_of_getElem? (i := 745) (by decide +kernel), List.mem_of_getElem? (i := 746) (by decide +kernel)⟩
theorem lw_p19 : lw_okq (⟨"BreakerRowsModel", "isFault", "(III)Z"⟩, 32) := ⟨⟨by decide +kernel, by decide +kernel⟩, List.mem_of_getElem? (i := 608) (by decide +kernel), List.mem_of_getElem? (i := 765) (by decide +kernel), List.mem_of_getElem? (i := 766) (by decide +kernel)⟩
theorem lw_p20 : lw_okq (⟨"BreakerRowsModel", "sum", "(III)J"⟩, 32) := ⟨⟨by decide +kernel, by decide +kernel⟩, List.mem_of_getElem? (i := 608) (by decide +kernel), List.mem_of_getElem? (i := 770) (by decide +kernel), List.mem_of_getElem? (i := 771) (by decide +kernel)⟩
theorem lw_p21 : lw_okq (⟨"BreakerRowsModel", "waitAt", "(IIII)I"⟩, 32) := ⟨⟨by decide +kernel, by decide +kernel⟩, List.mem_of_getElem? (i := 608) (by decide +kernel), List.mem_of_getElem? (i := 780) (by decide +kernel), List.mem_of_getElem? (i := 781) (by decide +kernel)⟩
theorem lw_p22 : lw_okq (⟨"BreakerRowsModel", "isOnWay", "(II)Z"⟩, 32) := ⟨⟨by decide +kernel, by decide +kernel⟩, List.mem_of_getElem? (i := 608) (by decide +kernel), List.mem_of_getElem? (i := 784) (by decide +kernel), List.mem_of_getElem? (i := 785) (by decide +kernel)⟩
theorem lw_p23 : lw_okq (⟨"BreakerRowsModel", "waitBy", "(IJJ)I"⟩, 32) := ⟨⟨by decide +kernel, by decide +kernel⟩, List.mem_of_getElem? (i := 608) (by decide +kernel), List.mem_of_getElem? (i := 788) (by decide +kernel), List.mem_of_getElem? (i := 789) (by decide +kernel)⟩
theorem lw_p24 : lw_okq (⟨"BreakerRowsModel", "cleared", "(III)I"⟩, 32) := ⟨⟨by decide +kernel, by decide +kernel⟩, List.mem_of_getElem? (i := 608) (by decide +kernel), List.mem_of_getElem? (i := 797) (by decide +kernel), List.mem_of_getElem? (i := 798) (by decide +kernel)⟩
theorem lw_p25 : lw_okq (⟨"BreakerRowsModel", "keeper", "(I)I"⟩, 32) := ⟨⟨by decide +kernel, by decide +kernel⟩, List.mem_of_getElem? (i := 608) (by decide +kernel), List.mem_of_getElem? (i := 819) (by decide +kernel), List.mem_of_getElem? (i := 820) (by decide +kernel)⟩
theorem lw_p26 : lw_okq (⟨"BreakerRowsModel", "next", "(I)I"⟩, 32) := ⟨⟨by decide +kernel, by decide +kernel⟩, List.mem_of_getElem? (i := 608) (by decide +kernel), List.mem_of_getElem? (i := 823) (by decide +kernel), List.mem_of_getElem? (i := 824) (by decide +kernel)⟩
theorem lw_p27 : lw_okq (⟨"BreakerRowsModel", "loadOf", "(I)I"⟩, 32) := ⟨⟨by decide +kernel, by decide +kernel⟩, List.mem_of_getElem? (i := 608) (by decide +kernel), List.mem_of_getElem? (i := 827) (by decide +kernel), List.mem_of_getElem? (i := 828) (by decide +kernel)⟩
theorem lw_p28 : lw_okq (⟨"BreakerRowsModel", "isRight", "()Z"⟩, 32) := ⟨⟨by decide +kernel, by decide +kernel⟩, List.mem_of_getElem? (i := 608) (by decide +kernel), List.mem_of_getElem? (i := 835) (by decide +kernel), List.mem_of_getElem? (i := 836) (by decide +kernel)⟩
theorem lw_p29 : lw_okq (⟨"BreakerRowsModel", "isLineRight", "(I)Z"⟩, 32) := ⟨⟨by decide +kernel, by decide +kernel⟩, List.mem_of_getElem? (i := 608) (by decide +kernel), List.mem_of_getElem? (i := 839) (by decide +kernel), List.mem_of_getElem? (i := 840) (by decide +kernel)⟩
theorem lw_p30 : lw_okq (⟨"BreakerRowsModel", "tells", "(IIII)Z"⟩, 32) := ⟨⟨by decide +kernel, by decide +kernel⟩, List.mem_of_getElem? (i := 608) (by decide +kernel), List.mem_of_getElem? (i := 843) (by decide +kernel), List.mem_of_getElem? (i := 844) (by decide +kernel)⟩
theorem lw_p31 : lw_okq (⟨"BreakerRowsModel", "tooShort", "(III)I"⟩, 32) := ⟨⟨by decide +kernel, by decide +kernel⟩, List.mem_of_getElem? (i := 608) (by decide +kernel), List.mem_of_getElem? (i := 847) (by decide +kernel), List.mem_of_getElem? (i := 848) (by decide +kernel)⟩
def lw_privs_2 : List (MethodName × Nat) := [(⟨"BreakerRows$Demands", "isMet", "(II[I)Z"⟩, 5), (⟨"BreakerRowsModel", "isLine", "(I)Z"⟩, 32), (⟨"BreakerRowsModel", "isBreaker", "(I)Z"⟩, 32), (⟨"BreakerRowsModel", "isFault", "(III)Z"⟩, 32), (⟨"BreakerRowsModel", "sum", "(III)J"⟩, 32), (⟨"BreakerRowsModel", "waitAt", "(IIII)I"⟩, 32), (⟨"BreakerRowsModel", "isOnWay", "(II)Z"⟩, 32), (⟨"BreakerRowsModel", "waitBy", "(IJJ)I"⟩, 32), (⟨"BreakerRowsModel", "cleared", "(III)I"⟩, 32), (⟨"BreakerRowsModel", "keeper", "(I)I"⟩, 32), (⟨"BreakerRowsModel", "next", "(I)I"⟩, 32), (⟨"BreakerRowsModel", "loadOf", "(I)I"⟩, 32), (⟨"BreakerRowsModel", "isRight", "()Z"⟩, 32), (⟨"BreakerRowsModel", "isLineRight", "(I)Z"⟩, 32), (⟨"BreakerRowsModel", "tells", "(IIII)Z"⟩, 32), (⟨"BreakerRowsModel", "tooShort", "(III)I"⟩, 32)]
theorem lw_r2 : ∀ q ∈ lw_privs_2, lw_okq q := List.forall_mem_cons.mpr ⟨lw_p16, List.forall_mem_cons.mpr ⟨lw_p17, List.forall_mem_cons.mpr ⟨lw_p18, List.forall_mem_cons.mpr ⟨lw_p19, List.forall_mem_cons.mpr ⟨lw_p20, List.forall_mem_cons.mpr ⟨lw_p21, List.forall_mem_cons.mpr ⟨lw_p22, List.forall_mem_cons.mpr ⟨lw_p23, List.forall_mem_cons.mpr ⟨lw_p24, List.forall_mem_cons.mpr ⟨lw_p25, List.forall_mem_cons.mpr ⟨lw_p26, List.forall_mem_cons.mpr ⟨lw_p27, List.forall_mem_cons.mpr ⟨lw_p28, List.forall_mem_cons.mpr ⟨lw_p29, List.forall_mem_cons.mpr ⟨lw_p30, List.forall_mem_cons.mpr ⟨lw_p31, fun _ h => absurd h List.not_mem_nil⟩⟩⟩⟩⟩⟩⟩⟩⟩⟩⟩⟩⟩⟩⟩⟩
theorem lw_p32 : lw_okq (⟨"BreakerRowsModel", "raises", "()I"⟩, 32) := ⟨⟨by decide +kernel, by decide +kernel⟩, List.mem_of_getElem? (i := 608) (by decide +kernel), List.mem_of_getElem? (i := 855) (by decide +kernel), List.mem_of_getElem? (i := 856) (by decide +kernel)⟩
theorem lw_p33 : lw_okq (⟨"BreakerRowsModel", "take", "(I)V"⟩, 32) := ⟨⟨by decide +kernel, by decide +kernel⟩, List.mem_of_getElem? (i := 608) (by decide +kernel), List.mem_of_getElem? (i := 872) (by decide +kernel), List.mem_of_getElem? (i := 873) (by decide +kernel)⟩
def lw_privs_3 : List (MethodName × Nat) := [(⟨"BreakerRowsModel", "raises", "()I"⟩, 32), (⟨"BreakerRowsModel", "take", "(I)V"⟩, 32)]
theorem lw_r3 : ∀ q ∈ lw_privs_3, lw_okq q := List.forall_mem_cons.mpr ⟨lw_p32, List.forall_mem_cons.mpr ⟨lw_p33, fun _ h => absurd h List.not_mem_nil⟩⟩
def lw_privs : List (MethodName × Nat) := lw_privs_1 ++ (lw_privs_2 ++ (lw_privs_3))
def lw_tbl : List Cond := k2_sels lw_privs ++ tables_1
theorem lw_privs_ok : ∀ q ∈ lw_privs, lw_okq q := by
  show ∀ q ∈ lw_privs_1 ++ (lw_privs_2 ++ (lw_privs_3)), lw_okq q
  exact List.forall_mem_append.mpr ⟨lw_r1, List.forall_mem_append.mpr ⟨lw_r2, lw_r3⟩⟩

/-! ===== BEGIN words of one list among another's, by their places ===== -/
theorem goodIn_r {big : List Cond} (ws : List Cond) (ps : List Nat) (hp : ws = ps.filterMap (fun i => big[i]?)) (h : ws.all goodWord = true) : GoodIn big ws := by
  intro w hw
  have h1 := List.all_eq_true.mp h w hw
  rw [hp] at hw
  obtain ⟨i, -, hi⟩ := List.mem_filterMap.mp hw
  have hm : w ∈ big := by first | exact List.mem_of_getElem? hi | exact List.getElem?_mem hi
  exact ⟨hm, good_of_word h1⟩
theorem goodIn_app {big a b : List Cond} (ha : GoodIn big a) (hb : GoodIn big b) : GoodIn big (a ++ b) := fun w h => (List.mem_append.mp h).elim (ha w) (hb w)
theorem goodIn_ca {big a b : List Cond} {c : Cond} (ha : GoodIn big (c :: a)) (hb : GoodIn big b) : GoodIn big (c :: (a ++ b)) := fun w h => (List.mem_cons.mp h).elim (fun e => ha w (List.mem_cons.mpr (Or.inl e))) (fun h => (List.mem_append.mp h).elim (fun h => ha w (List.mem_cons.mpr (Or.inr h))) (hb w))
theorem goodIn_sub {big ws : List Cond} (hm : ∀ w ∈ ws, w ∈ big) (h : ws.all goodWord = true) : GoodIn big ws := fun w hw => ⟨hm w hw, good_of_word (List.all_eq_true.mp h w hw)⟩
/-! ===== END ===== -/

/-! ===== BEGIN printed: names, fields, word lists, decode rows ===== -/
def RX0 : String := "BreakerRows$Curve"
def TX0 : u_T := fun k => match k with
  | 0 => ("BreakerRows$Curve", "corners", "I", false)
  | 1 => ("BreakerRows$Curve", "multiples", "[I", true)
  | _ => ("BreakerRows$Curve", "ticks", "[I", true)
def tyX0 : Nat → FieldType := fun k => match k with
  | 0 => .int
  | 1 => .array .int
  | _ => .array .int
abbrev wsX00 : List Cond := u_ws RX0 TX0 3
theorem nmX0 : ∀ a, a < 3 → ∀ b, b < 3 → a ≠ b → (TX0 a).2.1 ≠ (TX0 b).2.1 := by decide +kernel
theorem tyX0_ok : ∀ k, k < 3 → parseFieldDescriptor (TX0 k).2.2.1 = some (tyX0 k) := by decide +kernel
abbrev cX0_init : ByteArray := prog_2_method_1_code
def yX0_init : MethodName := ⟨RX0, "<init>", "()V"⟩
abbrev cX0_addCorner : ByteArray := prog_2_method_2_code
def yX0_addCorner : MethodName := ⟨RX0, "addCorner", "(II)I"⟩
abbrev cX0_cornerReached : ByteArray := prog_2_method_3_code
def yX0_cornerReached : MethodName := ⟨RX0, "cornerReached", "(IJJ)I"⟩
def RX1 : String := "BreakerRows$Demands"
def TX1 : u_T := fun k => match k with
  | 0 => ("BreakerRows$Demands", "net", "LBreakerRows$Net;", true)
  | 1 => ("BreakerRows$Demands", "rows", "LBreakerRows$Rows;", true)
  | 2 => ("BreakerRows$Demands", "rules", "LBreakerRows$Rules;", true)
  | 3 => ("BreakerRows$Demands", "lowerTicks", "[I", true)
  | _ => ("BreakerRows$Demands", "keeperTicks", "[I", true)
def tyX1 : Nat → FieldType := fun k => match k with
  | 0 => .object "BreakerRows$Net"
  | 1 => .object "BreakerRows$Rows"
  | 2 => .object "BreakerRows$Rules"
  | 3 => .array .int
  | _ => .array .int
abbrev wsX10 : List Cond := u_ws RX1 TX1 5
theorem nmX1 : ∀ a, a < 5 → ∀ b, b < 5 → a ≠ b → (TX1 a).2.1 ≠ (TX1 b).2.1 := by decide +kernel
theorem tyX1_ok : ∀ k, k < 5 → parseFieldDescriptor (TX1 k).2.2.1 = some (tyX1 k) := by decide +kernel
abbrev cX1_init : ByteArray := prog_3_method_1_code
def yX1_init : MethodName := ⟨RX1, "<init>", "(LBreakerRows$Net;LBreakerRows$Rows;LBreakerRows$Rules;)V"⟩
abbrev cX1_gather : ByteArray := prog_3_method_2_code
def yX1_gather : MethodName := ⟨RX1, "gather", "()V"⟩
abbrev cX1_gatherOf : ByteArray := prog_3_method_3_code
def yX1_gatherOf : MethodName := ⟨RX1, "gatherOf", "(IJ)V"⟩
abbrev cX1_rowOf : ByteArray := prog_3_method_4_code
def yX1_rowOf : MethodName := ⟨RX1, "rowOf", "(II)I"⟩
abbrev cX1_leastDial : ByteArray := prog_3_method_5_code
def yX1_leastDial : MethodName := ⟨RX1, "leastDial", "(I[I)J"⟩
abbrev cX1_areMetAround : ByteArray := prog_3_method_6_code
def yX1_areMetAround : MethodName := ⟨RX1, "areMetAround", "(I[I)Z"⟩
abbrev cX1_isMet : ByteArray := prog_3_method_7_code
def yX1_isMet : MethodName := ⟨RX1, "isMet", "(II[I)Z"⟩
def RX2 : String := "BreakerRows$Judge"
def TX2 : u_T := fun k => match k with
  | 0 => ("BreakerRows$Judge", "net", "LBreakerRows$Net;", true)
  | 1 => ("BreakerRows$Judge", "rows", "LBreakerRows$Rows;", true)
  | 2 => ("BreakerRows$Judge", "rules", "LBreakerRows$Rules;", true)
  | 3 => ("BreakerRows$Judge", "which", "I", false)
  | 4 => ("BreakerRows$Judge", "line", "I", false)
  | 5 => ("BreakerRows$Judge", "place", "I", false)
  | _ => ("BreakerRows$Judge", "by", "I", false)
def tyX2 : Nat → FieldType := fun k => match k with
  | 0 => .object "BreakerRows$Net"
  | 1 => .object "BreakerRows$Rows"
  | 2 => .object "BreakerRows$Rules"
  | 3 => .int
  | 4 => .int
  | 5 => .int
  | _ => .int
abbrev wsX20 : List Cond := u_ws RX2 TX2 7
theorem nmX2 : ∀ a, a < 7 → ∀ b, b < 7 → a ≠ b → (TX2 a).2.1 ≠ (TX2 b).2.1 := by decide +kernel
theorem tyX2_ok : ∀ k, k < 7 → parseFieldDescriptor (TX2 k).2.2.1 = some (tyX2 k) := by decide +kernel
abbrev cX2_init : ByteArray := prog_4_method_1_code
def yX2_init : MethodName := ⟨RX2, "<init>", "(LBreakerRows$Net;LBreakerRows$Rows;LBreakerRows$Rules;)V"⟩
abbrev cX2_look : ByteArray := prog_4_method_2_code
def yX2_look : MethodName := ⟨RX2, "look", "()V"⟩
abbrev cX2_note : ByteArray := prog_4_method_3_code
def yX2_note : MethodName := ⟨RX2, "note", "(IIII)V"⟩
abbrev cX2_lookAtLine : ByteArray := prog_4_method_4_code
def yX2_lookAtLine : MethodName := ⟨RX2, "lookAtLine", "(I)V"⟩
abbrev cX2_lookAtFaults : ByteArray := prog_4_method_5_code
def yX2_lookAtFaults : MethodName := ⟨RX2, "lookAtFaults", "(II)V"⟩
abbrev cX2_isUnseen : ByteArray := prog_4_method_6_code
def yX2_isUnseen : MethodName := ⟨RX2, "isUnseen", "(IJ)Z"⟩
abbrev cX2_isOutOfOrder : ByteArray := prog_4_method_7_code
def yX2_isOutOfOrder : MethodName := ⟨RX2, "isOutOfOrder", "(IJ)Z"⟩
def RX3 : String := "BreakerRows$Net"
def TX3 : u_T := fun k => match k with
  | 0 => ("BreakerRows$Net", "knots", "I", false)
  | 1 => ("BreakerRows$Net", "force", "I", false)
  | 2 => ("BreakerRows$Net", "sourceResistance", "I", false)
  | 3 => ("BreakerRows$Net", "from", "[I", true)
  | 4 => ("BreakerRows$Net", "resistance", "[I", true)
  | 5 => ("BreakerRows$Net", "above", "[I", true)
  | 6 => ("BreakerRows$Net", "way", "[I", true)
  | _ => ("BreakerRows$Net", "loads", "[I", true)
def tyX3 : Nat → FieldType := fun k => match k with
  | 0 => .int
  | 1 => .int
  | 2 => .int
  | 3 => .array .int
  | 4 => .array .int
  | 5 => .array .int
  | 6 => .array .int
  | _ => .array .int
abbrev wsX30 : List Cond := u_ws RX3 TX3 8
theorem nmX3 : ∀ a, a < 8 → ∀ b, b < 8 → a ≠ b → (TX3 a).2.1 ≠ (TX3 b).2.1 := by decide +kernel
theorem tyX3_ok : ∀ k, k < 8 → parseFieldDescriptor (TX3 k).2.2.1 = some (tyX3 k) := by decide +kernel
abbrev cX3_init : ByteArray := prog_5_method_1_code
def yX3_init : MethodName := ⟨RX3, "<init>", "()V"⟩
abbrev cX3_isKnot : ByteArray := prog_5_method_2_code
def yX3_isKnot : MethodName := ⟨RX3, "isKnot", "(I)Z"⟩
abbrev cX3_isLine : ByteArray := prog_5_method_3_code
def yX3_isLine : MethodName := ⟨RX3, "isLine", "(I)Z"⟩
abbrev cX3_isOnWay : ByteArray := prog_5_method_4_code
def yX3_isOnWay : MethodName := ⟨RX3, "isOnWay", "(II)Z"⟩
abbrev cX3_isFault : ByteArray := prog_5_method_5_code
def yX3_isFault : MethodName := ⟨RX3, "isFault", "(III)Z"⟩
abbrev cX3_hang : ByteArray := prog_5_method_6_code
def yX3_hang : MethodName := ⟨RX3, "hang", "(II)I"⟩
abbrev cX3_sumOf : ByteArray := prog_5_method_7_code
def yX3_sumOf : MethodName := ⟨RX3, "sumOf", "(III)J"⟩
abbrev cX3_sixteenForces : ByteArray := prog_5_method_8_code
def yX3_sixteenForces : MethodName := ⟨RX3, "sixteenForces", "()J"⟩
abbrev cX3_currentByLoads : ByteArray := prog_5_method_9_code
def yX3_currentByLoads : MethodName := ⟨RX3, "currentByLoads", "(I)I"⟩
def RX4 : String := "BreakerRows$Order"
def TX4 : u_T := fun k => match k with
  | 0 => ("BreakerRows$Order", "rows", "LBreakerRows$Rows;", true)
  | 1 => ("BreakerRows$Order", "demands", "LBreakerRows$Demands;", true)
  | 2 => ("BreakerRows$Order", "steps", "I", false)
  | 3 => ("BreakerRows$Order", "kept", "[I", true)
  | 4 => ("BreakerRows$Order", "many", "I", false)
  | 5 => ("BreakerRows$Order", "lines", "[I", true)
  | 6 => ("BreakerRows$Order", "path", "[I", true)
  | _ => ("BreakerRows$Order", "dials", "[I", true)
def tyX4 : Nat → FieldType := fun k => match k with
  | 0 => .object "BreakerRows$Rows"
  | 1 => .object "BreakerRows$Demands"
  | 2 => .int
  | 3 => .array .int
  | 4 => .int
  | 5 => .array .int
  | 6 => .array .int
  | _ => .array .int
abbrev wsX40 : List Cond := u_ws RX4 TX4 8
theorem nmX4 : ∀ a, a < 8 → ∀ b, b < 8 → a ≠ b → (TX4 a).2.1 ≠ (TX4 b).2.1 := by decide +kernel
theorem tyX4_ok : ∀ k, k < 8 → parseFieldDescriptor (TX4 k).2.2.1 = some (tyX4 k) := by decide +kernel
abbrev cX4_init : ByteArray := prog_6_method_1_code
def yX4_init : MethodName := ⟨RX4, "<init>", "(LBreakerRows$Rows;LBreakerRows$Demands;)V"⟩
abbrev cX4_gatherLines : ByteArray := prog_6_method_2_code
def yX4_gatherLines : MethodName := ⟨RX4, "gatherLines", "()Z"⟩
abbrev cX4_find : ByteArray := prog_6_method_3_code
def yX4_find : MethodName := ⟨RX4, "find", "()I"⟩
abbrev cX4_lowestThatCanGo : ByteArray := prog_6_method_4_code
def yX4_lowestThatCanGo : MethodName := ⟨RX4, "lowestThatCanGo", "(I)I"⟩
def RX5 : String := "BreakerRows$Rows"
def TX5 : u_T := fun k => match k with
  | 0 => ("BreakerRows$Rows", "curves", "[LBreakerRows$Curve;", true)
  | 1 => ("BreakerRows$Rows", "there", "I", false)
  | 2 => ("BreakerRows$Rows", "failing", "I", false)
  | 3 => ("BreakerRows$Rows", "curveAt", "[I", true)
  | 4 => ("BreakerRows$Rows", "dials", "[I", true)
  | 5 => ("BreakerRows$Rows", "picks", "[I", true)
  | _ => ("BreakerRows$Rows", "goalDials", "[I", true)
def tyX5 : Nat → FieldType := fun k => match k with
  | 0 => .array (.object "BreakerRows$Curve")
  | 1 => .int
  | 2 => .int
  | 3 => .array .int
  | 4 => .array .int
  | 5 => .array .int
  | _ => .array .int
abbrev wsX50 : List Cond := u_ws RX5 TX5 7
theorem nmX5 : ∀ a, a < 7 → ∀ b, b < 7 → a ≠ b → (TX5 a).2.1 ≠ (TX5 b).2.1 := by decide +kernel
theorem tyX5_ok : ∀ k, k < 7 → parseFieldDescriptor (TX5 k).2.2.1 = some (tyX5 k) := by decide +kernel
abbrev cX5_init : ByteArray := prog_7_method_1_code
def yX5_init : MethodName := ⟨RX5, "<init>", "()V"⟩
abbrev cX5_isThere : ByteArray := prog_7_method_2_code
def yX5_isThere : MethodName := ⟨RX5, "isThere", "(I)Z"⟩
abbrev cX5_place : ByteArray := prog_7_method_3_code
def yX5_place : MethodName := ⟨RX5, "place", "(IIII)V"⟩
abbrev cX5_takeAway : ByteArray := prog_7_method_4_code
def yX5_takeAway : MethodName := ⟨RX5, "takeAway", "(I)V"⟩
abbrev cX5_setFailing : ByteArray := prog_7_method_5_code
def yX5_setFailing : MethodName := ⟨RX5, "setFailing", "(IZ)V"⟩
abbrev cX5_lastOf : ByteArray := prog_7_method_6_code
def yX5_lastOf : MethodName := ⟨RX5, "lastOf", "(I)I"⟩
abbrev cX5_cornerReached : ByteArray := prog_7_method_7_code
def yX5_cornerReached : MethodName := ⟨RX5, "cornerReached", "(IJJ)I"⟩
abbrev cX5_ticksAt : ByteArray := prog_7_method_8_code
def yX5_ticksAt : MethodName := ⟨RX5, "ticksAt", "(II)I"⟩
abbrev cX5_waitAt : ByteArray := prog_7_method_9_code
def yX5_waitAt : MethodName := ⟨RX5, "waitAt", "(IJJ)I"⟩
abbrev cX5_leastTenthsSeen : ByteArray := prog_7_method_10_code
def yX5_leastTenthsSeen : MethodName := ⟨RX5, "leastTenthsSeen", "(I)J"⟩
abbrev cX5_sumOfDials : ByteArray := prog_7_method_11_code
def yX5_sumOfDials : MethodName := ⟨RX5, "sumOfDials", "()I"⟩
abbrev cX5_keepDialsAsGoal : ByteArray := prog_7_method_12_code
def yX5_keepDialsAsGoal : MethodName := ⟨RX5, "keepDialsAsGoal", "()I"⟩
def RX6 : String := "BreakerRows$Rules"
def TX6 : u_T := fun k => match k with
  | 0 => ("BreakerRows$Rules", "margin", "I", false)
  | 1 => ("BreakerRows$Rules", "limit", "I", false)
  | _ => ("BreakerRows$Rules", "last", "I", false)
def tyX6 : Nat → FieldType := fun k => match k with
  | 0 => .int
  | 1 => .int
  | _ => .int
abbrev wsX60 : List Cond := u_ws RX6 TX6 3
theorem nmX6 : ∀ a, a < 3 → ∀ b, b < 3 → a ≠ b → (TX6 a).2.1 ≠ (TX6 b).2.1 := by decide +kernel
theorem tyX6_ok : ∀ k, k < 3 → parseFieldDescriptor (TX6 k).2.2.1 = some (tyX6 k) := by decide +kernel
abbrev cX6_init : ByteArray := prog_8_method_1_code
def yX6_init : MethodName := ⟨RX6, "<init>", "()V"⟩
abbrev cX6_resistancesAsked : ByteArray := prog_8_method_2_code
def yX6_resistancesAsked : MethodName := ⟨RX6, "resistancesAsked", "()I"⟩
abbrev cX6_resistanceAsked : ByteArray := prog_8_method_3_code
def yX6_resistanceAsked : MethodName := ⟨RX6, "resistanceAsked", "(I)I"⟩
def RX7 : String := "BreakerRows"
def TX7 : u_T := fun k => match k with
  | 0 => ("BreakerRows", "net", "LBreakerRows$Net;", true)
  | 1 => ("BreakerRows", "rows", "LBreakerRows$Rows;", true)
  | 2 => ("BreakerRows", "rules", "LBreakerRows$Rules;", true)
  | 3 => ("BreakerRows", "judge", "LBreakerRows$Judge;", true)
  | 4 => ("BreakerRows", "demands", "LBreakerRows$Demands;", true)
  | 5 => ("BreakerRows", "order", "LBreakerRows$Order;", true)
  | 6 => ("BreakerRows", "trial", "[I", true)
  | 7 => ("BreakerRows", "spare", "[I", true)
  | 8 => ("BreakerRows", "hasGoal", "Z", false)
  | 9 => ("BreakerRows", "hasRun", "Z", false)
  | _ => ("BreakerRows", "opened", "I", false)
def tyX7 : Nat → FieldType := fun k => match k with
  | 0 => .object "BreakerRows$Net"
  | 1 => .object "BreakerRows$Rows"
  | 2 => .object "BreakerRows$Rules"
  | 3 => .object "BreakerRows$Judge"
  | 4 => .object "BreakerRows$Demands"
  | 5 => .object "BreakerRows$Order"
  | 6 => .array .int
  | 7 => .array .int
  | 8 => .boolean
  | 9 => .boolean
  | _ => .int
abbrev wsX70 : List Cond := u_ws RX7 TX7 11
theorem nmX7 : ∀ a, a < 11 → ∀ b, b < 11 → a ≠ b → (TX7 a).2.1 ≠ (TX7 b).2.1 := by decide +kernel
theorem tyX7_ok : ∀ k, k < 11 → parseFieldDescriptor (TX7 k).2.2.1 = some (tyX7 k) := by decide +kernel
abbrev cX7_init : ByteArray := prog_1_method_1_code
def yX7_init : MethodName := ⟨RX7, "<init>", "()V"⟩
abbrev cX7_source : ByteArray := prog_1_method_2_code
def yX7_source : MethodName := ⟨RX7, "source", "(II)Z"⟩
abbrev cX7_line : ByteArray := prog_1_method_3_code
def yX7_line : MethodName := ⟨RX7, "line", "(II)I"⟩
abbrev cX7_load : ByteArray := prog_1_method_4_code
def yX7_load : MethodName := ⟨RX7, "load", "(II)Z"⟩
abbrev cX7_corner : ByteArray := prog_1_method_5_code
def yX7_corner : MethodName := ⟨RX7, "corner", "(III)I"⟩
abbrev cX7_breaker : ByteArray := prog_1_method_6_code
def yX7_breaker : MethodName := ⟨RX7, "breaker", "(IIII)Z"⟩
abbrev cX7_remove : ByteArray := prog_1_method_7_code
def yX7_remove : MethodName := ⟨RX7, "remove", "(I)Z"⟩
abbrev cX7_dial : ByteArray := prog_1_method_8_code
def yX7_dial : MethodName := ⟨RX7, "dial", "(II)Z"⟩
abbrev cX7_fails : ByteArray := prog_1_method_9_code
def yX7_fails : MethodName := ⟨RX7, "fails", "(IZ)Z"⟩
abbrev cX7_told : ByteArray := prog_1_method_10_code
def yX7_told : MethodName := ⟨RX7, "told", "(III)Z"⟩
abbrev cX7_lineOf : ByteArray := prog_1_method_11_code
def yX7_lineOf : MethodName := ⟨RX7, "lineOf", "(II)I"⟩
abbrev cX7_fault : ByteArray := prog_1_method_12_code
def yX7_fault : MethodName := ⟨RX7, "fault", "(IIII)J"⟩
abbrev cX7_waits : ByteArray := prog_1_method_13_code
def yX7_waits : MethodName := ⟨RX7, "waits", "(IIII)I"⟩
abbrev cX7_run : ByteArray := prog_1_method_14_code
def yX7_run : MethodName := ⟨RX7, "run", "(III)I"⟩
abbrev cX7_ran : ByteArray := prog_1_method_15_code
def yX7_ran : MethodName := ⟨RX7, "ran", "(II)I"⟩
abbrev cX7_right : ByteArray := prog_1_method_16_code
def yX7_right : MethodName := ⟨RX7, "right", "(I)I"⟩
abbrev cX7_fit : ByteArray := prog_1_method_17_code
def yX7_fit : MethodName := ⟨RX7, "fit", "()I"⟩
abbrev cX7_arc : ByteArray := prog_1_method_18_code
def yX7_arc : MethodName := ⟨RX7, "arc", "(III)J"⟩
abbrev cX7_worst : ByteArray := prog_1_method_19_code
def yX7_worst : MethodName := ⟨RX7, "worst", "()J"⟩
abbrev cX7_growth : ByteArray := prog_1_method_20_code
def yX7_growth : MethodName := ⟨RX7, "growth", "()I"⟩
abbrev cX7_goal : ByteArray := prog_1_method_21_code
def yX7_goal : MethodName := ⟨RX7, "goal", "()I"⟩
abbrev cX7_change : ByteArray := prog_1_method_22_code
def yX7_change : MethodName := ⟨RX7, "change", "()I"⟩
abbrev cX7_step : ByteArray := prog_1_method_23_code
def yX7_step : MethodName := ⟨RX7, "step", "(I)I"⟩
abbrev cX7_about : ByteArray := prog_1_method_24_code
def yX7_about : MethodName := ⟨RX7, "about", "(I)I"⟩
abbrev cX7_isWithin : ByteArray := prog_1_method_25_code
def yX7_isWithin : MethodName := ⟨RX7, "isWithin", "(III)Z"⟩
abbrev cX7_lineOrNone : ByteArray := prog_1_method_26_code
def yX7_lineOrNone : MethodName := ⟨RX7, "lineOrNone", "(I)I"⟩
abbrev cX7_holds : ByteArray := prog_1_method_27_code
def yX7_holds : MethodName := ⟨RX7, "holds", "(II)Z"⟩
abbrev cX7_nextOf : ByteArray := prog_1_method_28_code
def yX7_nextOf : MethodName := ⟨RX7, "nextOf", "(I)I"⟩
abbrev cX7_breakerOf : ByteArray := prog_1_method_29_code
def yX7_breakerOf : MethodName := ⟨RX7, "breakerOf", "(II)I"⟩
abbrev cX7_ableOn : ByteArray := prog_1_method_30_code
def yX7_ableOn : MethodName := ⟨RX7, "ableOn", "(I)I"⟩
abbrev cX7_clearTick : ByteArray := prog_1_method_31_code
def yX7_clearTick : MethodName := ⟨RX7, "clearTick", "(III)I"⟩
abbrev cX7_openersAt : ByteArray := prog_1_method_32_code
def yX7_openersAt : MethodName := ⟨RX7, "openersAt", "(IIII)I"⟩
abbrev cX7_arcOf : ByteArray := prog_1_method_33_code
def yX7_arcOf : MethodName := ⟨RX7, "arcOf", "(III)J"⟩
abbrev cX7_worstOf : ByteArray := prog_1_method_34_code
def yX7_worstOf : MethodName := ⟨RX7, "worstOf", "(I)J"⟩
abbrev cX7_growthOf : ByteArray := prog_1_method_35_code
def yX7_growthOf : MethodName := ⟨RX7, "growthOf", "(I)J"⟩
abbrev cX7_findLeastDials : ByteArray := prog_1_method_36_code
def yX7_findLeastDials : MethodName := ⟨RX7, "findLeastDials", "()Z"⟩
def RX8 : String := "BreakerRowsModel"
def TX8 : u_T := fun k => match k with
  | 0 => ("BreakerRowsModel", "knots", "I", false)
  | 1 => ("BreakerRowsModel", "force", "I", false)
  | 2 => ("BreakerRowsModel", "resistance", "I", false)
  | 3 => ("BreakerRowsModel", "margin", "I", false)
  | 4 => ("BreakerRowsModel", "limit", "I", false)
  | 5 => ("BreakerRowsModel", "last", "I", false)
  | 6 => ("BreakerRowsModel", "from", "[I", true)
  | 7 => ("BreakerRowsModel", "by", "[I", true)
  | 8 => ("BreakerRowsModel", "load", "[I", true)
  | 9 => ("BreakerRowsModel", "corners", "[I", true)
  | 10 => ("BreakerRowsModel", "multiple", "[I", true)
  | 11 => ("BreakerRowsModel", "ticks", "[I", true)
  | 12 => ("BreakerRowsModel", "has", "[Z", true)
  | 13 => ("BreakerRowsModel", "curve", "[I", true)
  | 14 => ("BreakerRowsModel", "dial", "[I", true)
  | 15 => ("BreakerRowsModel", "pick", "[I", true)
  | 16 => ("BreakerRowsModel", "fails", "[Z", true)
  | 17 => ("BreakerRowsModel", "hasGoal", "Z", false)
  | 18 => ("BreakerRowsModel", "goal", "[I", true)
  | 19 => ("BreakerRowsModel", "hasRun", "Z", false)
  | 20 => ("BreakerRowsModel", "opened", "[Z", true)
  | 21 => ("BreakerRowsModel", "dark", "[Z", true)
  | 22 => ("BreakerRowsModel", "steps", "[I", true)
  | 23 => ("BreakerRowsModel", "stepMany", "I", false)
  | 24 => ("BreakerRowsModel", "wrong", "I", false)
  | 25 => ("BreakerRowsModel", "wrongLine", "I", false)
  | 26 => ("BreakerRowsModel", "wrongPlace", "I", false)
  | 27 => ("BreakerRowsModel", "wrongBy", "I", false)
  | 28 => ("BreakerRowsModel", "kept", "[I", true)
  | 29 => ("BreakerRowsModel", "other", "[I", true)
  | 30 => ("BreakerRowsModel", "others", "I", false)
  | _ => ("BreakerRowsModel", "can", "[B", true)
def tyX8 : Nat → FieldType := fun k => match k with
  | 0 => .int
  | 1 => .int
  | 2 => .int
  | 3 => .int
  | 4 => .int
  | 5 => .int
  | 6 => .array .int
  | 7 => .array .int
  | 8 => .array .int
  | 9 => .array .int
  | 10 => .array .int
  | 11 => .array .int
  | 12 => .array .boolean
  | 13 => .array .int
  | 14 => .array .int
  | 15 => .array .int
  | 16 => .array .boolean
  | 17 => .boolean
  | 18 => .array .int
  | 19 => .boolean
  | 20 => .array .boolean
  | 21 => .array .boolean
  | 22 => .array .int
  | 23 => .int
  | 24 => .int
  | 25 => .int
  | 26 => .int
  | 27 => .int
  | 28 => .array .int
  | 29 => .array .int
  | 30 => .int
  | _ => .array .byte
abbrev wsX80 : List Cond := u_ws RX8 TX8 32
theorem nmX8 : ∀ a, a < 32 → ∀ b, b < 32 → a ≠ b → (TX8 a).2.1 ≠ (TX8 b).2.1 := by decide +kernel
theorem tyX8_ok : ∀ k, k < 32 → parseFieldDescriptor (TX8 k).2.2.1 = some (tyX8 k) := by decide +kernel
abbrev cX8_init : ByteArray := prog_10_method_1_code
def yX8_init : MethodName := ⟨RX8, "<init>", "()V"⟩
abbrev cX8_isIn : ByteArray := prog_10_method_2_code
def yX8_isIn : MethodName := ⟨RX8, "isIn", "(III)Z"⟩
abbrev cX8_isLine : ByteArray := prog_10_method_3_code
def yX8_isLine : MethodName := ⟨RX8, "isLine", "(I)Z"⟩
abbrev cX8_isBreaker : ByteArray := prog_10_method_4_code
def yX8_isBreaker : MethodName := ⟨RX8, "isBreaker", "(I)Z"⟩
abbrev cX8_isFault : ByteArray := prog_10_method_5_code
def yX8_isFault : MethodName := ⟨RX8, "isFault", "(III)Z"⟩
abbrev cX8_source : ByteArray := prog_10_method_6_code
def yX8_source : MethodName := ⟨RX8, "source", "(II)Z"⟩
abbrev cX8_line : ByteArray := prog_10_method_7_code
def yX8_line : MethodName := ⟨RX8, "line", "(II)I"⟩
abbrev cX8_load : ByteArray := prog_10_method_8_code
def yX8_load : MethodName := ⟨RX8, "load", "(II)Z"⟩
abbrev cX8_corner : ByteArray := prog_10_method_9_code
def yX8_corner : MethodName := ⟨RX8, "corner", "(III)I"⟩
abbrev cX8_breaker : ByteArray := prog_10_method_10_code
def yX8_breaker : MethodName := ⟨RX8, "breaker", "(IIII)Z"⟩
abbrev cX8_remove : ByteArray := prog_10_method_11_code
def yX8_remove : MethodName := ⟨RX8, "remove", "(I)Z"⟩
abbrev cX8_dial : ByteArray := prog_10_method_12_code
def yX8_dial : MethodName := ⟨RX8, "dial", "(II)Z"⟩
abbrev cX8_fails : ByteArray := prog_10_method_13_code
def yX8_fails : MethodName := ⟨RX8, "fails", "(IZ)Z"⟩
abbrev cX8_told : ByteArray := prog_10_method_14_code
def yX8_told : MethodName := ⟨RX8, "told", "(III)Z"⟩
abbrev cX8_isOnWay : ByteArray := prog_10_method_15_code
def yX8_isOnWay : MethodName := ⟨RX8, "isOnWay", "(II)Z"⟩
abbrev cX8_sum : ByteArray := prog_10_method_16_code
def yX8_sum : MethodName := ⟨RX8, "sum", "(III)J"⟩
abbrev cX8_waitBy : ByteArray := prog_10_method_17_code
def yX8_waitBy : MethodName := ⟨RX8, "waitBy", "(IJJ)I"⟩
abbrev cX8_waitAt : ByteArray := prog_10_method_18_code
def yX8_waitAt : MethodName := ⟨RX8, "waitAt", "(IIII)I"⟩
abbrev cX8_fault : ByteArray := prog_10_method_19_code
def yX8_fault : MethodName := ⟨RX8, "fault", "(IIII)J"⟩
abbrev cX8_waits : ByteArray := prog_10_method_20_code
def yX8_waits : MethodName := ⟨RX8, "waits", "(IIII)I"⟩
abbrev cX8_cleared : ByteArray := prog_10_method_21_code
def yX8_cleared : MethodName := ⟨RX8, "cleared", "(III)I"⟩
abbrev cX8_run : ByteArray := prog_10_method_22_code
def yX8_run : MethodName := ⟨RX8, "run", "(III)I"⟩
abbrev cX8_ran : ByteArray := prog_10_method_23_code
def yX8_ran : MethodName := ⟨RX8, "ran", "(II)I"⟩
abbrev cX8_arc : ByteArray := prog_10_method_24_code
def yX8_arc : MethodName := ⟨RX8, "arc", "(III)J"⟩
abbrev cX8_worst : ByteArray := prog_10_method_25_code
def yX8_worst : MethodName := ⟨RX8, "worst", "()J"⟩
abbrev cX8_keeper : ByteArray := prog_10_method_26_code
def yX8_keeper : MethodName := ⟨RX8, "keeper", "(I)I"⟩
abbrev cX8_next : ByteArray := prog_10_method_27_code
def yX8_next : MethodName := ⟨RX8, "next", "(I)I"⟩
abbrev cX8_loadOf : ByteArray := prog_10_method_28_code
def yX8_loadOf : MethodName := ⟨RX8, "loadOf", "(I)I"⟩
abbrev cX8_lineOf : ByteArray := prog_10_method_29_code
def yX8_lineOf : MethodName := ⟨RX8, "lineOf", "(II)I"⟩
abbrev cX8_tells : ByteArray := prog_10_method_30_code
def yX8_tells : MethodName := ⟨RX8, "tells", "(IIII)Z"⟩
abbrev cX8_tooShort : ByteArray := prog_10_method_31_code
def yX8_tooShort : MethodName := ⟨RX8, "tooShort", "(III)I"⟩
abbrev cX8_isLineRight : ByteArray := prog_10_method_32_code
def yX8_isLineRight : MethodName := ⟨RX8, "isLineRight", "(I)Z"⟩
abbrev cX8_isRight : ByteArray := prog_10_method_33_code
def yX8_isRight : MethodName := ⟨RX8, "isRight", "()Z"⟩
abbrev cX8_right : ByteArray := prog_10_method_34_code
def yX8_right : MethodName := ⟨RX8, "right", "(I)I"⟩
abbrev cX8_raises : ByteArray := prog_10_method_35_code
def yX8_raises : MethodName := ⟨RX8, "raises", "()I"⟩
abbrev cX8_fit : ByteArray := prog_10_method_36_code
def yX8_fit : MethodName := ⟨RX8, "fit", "()I"⟩
abbrev cX8_growth : ByteArray := prog_10_method_37_code
def yX8_growth : MethodName := ⟨RX8, "growth", "()I"⟩
abbrev cX8_goal : ByteArray := prog_10_method_38_code
def yX8_goal : MethodName := ⟨RX8, "goal", "()I"⟩
abbrev cX8_take : ByteArray := prog_10_method_39_code
def yX8_take : MethodName := ⟨RX8, "take", "(I)V"⟩
abbrev cX8_change : ByteArray := prog_10_method_40_code
def yX8_change : MethodName := ⟨RX8, "change", "()I"⟩
abbrev cX8_step : ByteArray := prog_10_method_41_code
def yX8_step : MethodName := ⟨RX8, "step", "(I)I"⟩
abbrev cX8_about : ByteArray := prog_10_method_42_code
def yX8_about : MethodName := ⟨RX8, "about", "(I)I"⟩
def RJ6 : String := "java/lang/Integer"
def TJ6 : u_T := fun k => match k with
  | _ => ("", "", "", false)
def tyJ6 : Nat → FieldType := fun k => match k with
  | _ => .int
abbrev wsJ60 : List Cond := u_ws RJ6 TJ6 0
theorem nmJ6 : ∀ a, a < 0 → ∀ b, b < 0 → a ≠ b → (TJ6 a).2.1 ≠ (TJ6 b).2.1 := by decide +kernel
theorem tyJ6_ok : ∀ k, k < 0 → parseFieldDescriptor (TJ6 k).2.2.1 = some (tyJ6 k) := by decide +kernel
abbrev cJ6_numberOfLeadingZeros_0f7a4 : ByteArray := prog_11_method_47_code
def yJ6_numberOfLeadingZeros_0f7a4 : MethodName := ⟨RJ6, "numberOfLeadingZeros", "(I)I"⟩
abbrev cJ6_bitCount_0f7a4 : ByteArray := prog_11_method_49_code
def yJ6_bitCount_0f7a4 : MethodName := ⟨RJ6, "bitCount", "(I)I"⟩
def RJ9 : String := "java/lang/Math"
def TJ9 : u_T := fun k => match k with
  | _ => ("", "", "", false)
def tyJ9 : Nat → FieldType := fun k => match k with
  | _ => .int
abbrev wsJ90 : List Cond := u_ws RJ9 TJ9 0
theorem nmJ9 : ∀ a, a < 0 → ∀ b, b < 0 → a ≠ b → (TJ9 a).2.1 ≠ (TJ9 b).2.1 := by decide +kernel
theorem tyJ9_ok : ∀ k, k < 0 → parseFieldDescriptor (TJ9 k).2.2.1 = some (tyJ9 k) := by decide +kernel
abbrev cJ9_max_7cf53 : ByteArray := prog_12_method_65_code
def yJ9_max_7cf53 : MethodName := ⟨RJ9, "max", "(II)I"⟩
abbrev cJ9_max_f86c9 : ByteArray := prog_12_method_66_code
def yJ9_max_f86c9 : MethodName := ⟨RJ9, "max", "(JJ)J"⟩
abbrev cJ9_min_f86c9 : ByteArray := prog_12_method_70_code
def yJ9_min_f86c9 : MethodName := ⟨RJ9, "min", "(JJ)J"⟩
def RJ10 : String := "java/lang/System"
def TJ10 : u_T := fun k => match k with
  | _ => ("", "", "", false)
def tyJ10 : Nat → FieldType := fun k => match k with
  | _ => .int
abbrev wsJ100 : List Cond := u_ws RJ10 TJ10 0
theorem nmJ10 : ∀ a, a < 0 → ∀ b, b < 0 → a ≠ b → (TJ10 a).2.1 ≠ (TJ10 b).2.1 := by decide +kernel
theorem tyJ10_ok : ∀ k, k < 0 → parseFieldDescriptor (TJ10 k).2.2.1 = some (tyJ10 k) := by decide +kernel
def RL : String := "BreakerRowsLaw"
abbrev cL_law : ByteArray := code
def yL_law : MethodName := ⟨RL, "law", "([I)Z"⟩
abbrev vwCl : List vw_C := [(RX0, TX0, 3), (RX1, TX1, 5), (RX2, TX2, 7), (RX3, TX3, 8), (RX4, TX4, 8), (RX5, TX5, 7), (RX6, TX6, 3), (RX7, TX7, 11), (RX8, TX8, 32)]
end
section
theorem dX0_init_0 : decode cX0_init 0 = .ok (.aload_n 0, 1) := by decide +kernel
theorem dX0_init_1 : decode cX0_init 1 = .ok (.invokespecial 3, 3) := by decide +kernel
theorem dX0_init_4 : decode cX0_init 4 = .ok (.aload_n 0, 1) := by decide +kernel
theorem dX0_init_5 : decode cX0_init 5 = .ok (.bipush 8, 2) := by decide +kernel
theorem dX0_init_7 : decode cX0_init 7 = .ok (.newarray .int, 2) := by decide +kernel
theorem dX0_init_9 : decode cX0_init 9 = .ok (.putfield 9, 3) := by decide +kernel
theorem dX0_init_12 : decode cX0_init 12 = .ok (.aload_n 0, 1) := by decide +kernel
theorem dX0_init_13 : decode cX0_init 13 = .ok (.bipush 8, 2) := by decide +kernel
theorem dX0_init_15 : decode cX0_init 15 = .ok (.newarray .int, 2) := by decide +kernel
theorem dX0_init_17 : decode cX0_init 17 = .ok (.putfield 15, 3) := by decide +kernel
theorem dX0_init_20 : decode cX0_init 20 = .ok (.return_, 1) := by decide +kernel
theorem dX0_addCorner_0 : decode cX0_addCorner 0 = .ok (.aload_n 0, 1) := by decide +kernel
theorem dX0_addCorner_1 : decode cX0_addCorner 1 = .ok (.getfield 18, 3) := by decide +kernel
theorem dX0_addCorner_4 : decode cX0_addCorner 4 = .ok (.bipush 8, 2) := by decide +kernel
theorem dX0_addCorner_6 : decode cX0_addCorner 6 = .ok (.if_icmp .ge 26, 3) := by decide +kernel
theorem dX0_addCorner_9 : decode cX0_addCorner 9 = .ok (.iload_n 1, 1) := by decide +kernel
theorem dX0_addCorner_10 : decode cX0_addCorner 10 = .ok (.bipush 10, 2) := by decide +kernel
theorem dX0_addCorner_12 : decode cX0_addCorner 12 = .ok (.sipush 1000, 3) := by decide +kernel
theorem dX0_addCorner_15 : decode cX0_addCorner 15 = .ok (.invokestatic 22, 3) := by decide +kernel
theorem dX0_addCorner_18 : decode cX0_addCorner 18 = .ok (.ifCond .eq 14, 3) := by decide +kernel
theorem dX0_addCorner_21 : decode cX0_addCorner 21 = .ok (.iload_n 2, 1) := by decide +kernel
theorem dX0_addCorner_22 : decode cX0_addCorner 22 = .ok (.iconst 1, 1) := by decide +kernel
theorem dX0_addCorner_23 : decode cX0_addCorner 23 = .ok (.sipush 1000, 3) := by decide +kernel
theorem dX0_addCorner_26 : decode cX0_addCorner 26 = .ok (.invokestatic 22, 3) := by decide +kernel
theorem dX0_addCorner_29 : decode cX0_addCorner 29 = .ok (.ifCond .ne 5, 3) := by decide +kernel
theorem dX0_addCorner_32 : decode cX0_addCorner 32 = .ok (.iconst (-1), 1) := by decide +kernel
theorem dX0_addCorner_33 : decode cX0_addCorner 33 = .ok (.ireturn, 1) := by decide +kernel
theorem dX0_addCorner_34 : decode cX0_addCorner 34 = .ok (.aload_n 0, 1) := by decide +kernel
theorem dX0_addCorner_35 : decode cX0_addCorner 35 = .ok (.getfield 18, 3) := by decide +kernel
theorem dX0_addCorner_38 : decode cX0_addCorner 38 = .ok (.ifCond .le 35, 3) := by decide +kernel
theorem dX0_addCorner_41 : decode cX0_addCorner 41 = .ok (.iload_n 1, 1) := by decide +kernel
theorem dX0_addCorner_42 : decode cX0_addCorner 42 = .ok (.aload_n 0, 1) := by decide +kernel
theorem dX0_addCorner_43 : decode cX0_addCorner 43 = .ok (.getfield 9, 3) := by decide +kernel
theorem dX0_addCorner_46 : decode cX0_addCorner 46 = .ok (.aload_n 0, 1) := by decide +kernel
theorem dX0_addCorner_47 : decode cX0_addCorner 47 = .ok (.getfield 18, 3) := by decide +kernel
theorem dX0_addCorner_50 : decode cX0_addCorner 50 = .ok (.iconst 1, 1) := by decide +kernel
theorem dX0_addCorner_51 : decode cX0_addCorner 51 = .ok (.isub, 1) := by decide +kernel
theorem dX0_addCorner_52 : decode cX0_addCorner 52 = .ok (.iaload, 1) := by decide +kernel
theorem dX0_addCorner_53 : decode cX0_addCorner 53 = .ok (.if_icmp .le 18, 3) := by decide +kernel
theorem dX0_addCorner_56 : decode cX0_addCorner 56 = .ok (.iload_n 2, 1) := by decide +kernel
theorem dX0_addCorner_57 : decode cX0_addCorner 57 = .ok (.aload_n 0, 1) := by decide +kernel
theorem dX0_addCorner_58 : decode cX0_addCorner 58 = .ok (.getfield 15, 3) := by decide +kernel
theorem dX0_addCorner_61 : decode cX0_addCorner 61 = .ok (.aload_n 0, 1) := by decide +kernel
theorem dX0_addCorner_62 : decode cX0_addCorner 62 = .ok (.getfield 18, 3) := by decide +kernel
theorem dX0_addCorner_65 : decode cX0_addCorner 65 = .ok (.iconst 1, 1) := by decide +kernel
theorem dX0_addCorner_66 : decode cX0_addCorner 66 = .ok (.isub, 1) := by decide +kernel
theorem dX0_addCorner_67 : decode cX0_addCorner 67 = .ok (.iaload, 1) := by decide +kernel
theorem dX0_addCorner_68 : decode cX0_addCorner 68 = .ok (.if_icmp .lt 5, 3) := by decide +kernel
theorem dX0_addCorner_71 : decode cX0_addCorner 71 = .ok (.iconst (-1), 1) := by decide +kernel
theorem dX0_addCorner_72 : decode cX0_addCorner 72 = .ok (.ireturn, 1) := by decide +kernel
theorem dX0_addCorner_73 : decode cX0_addCorner 73 = .ok (.aload_n 0, 1) := by decide +kernel
theorem dX0_addCorner_74 : decode cX0_addCorner 74 = .ok (.getfield 9, 3) := by decide +kernel
theorem dX0_addCorner_77 : decode cX0_addCorner 77 = .ok (.aload_n 0, 1) := by decide +kernel
theorem dX0_addCorner_78 : decode cX0_addCorner 78 = .ok (.getfield 18, 3) := by decide +kernel
theorem dX0_addCorner_81 : decode cX0_addCorner 81 = .ok (.iload_n 1, 1) := by decide +kernel
theorem dX0_addCorner_82 : decode cX0_addCorner 82 = .ok (.iastore, 1) := by decide +kernel
theorem dX0_addCorner_83 : decode cX0_addCorner 83 = .ok (.aload_n 0, 1) := by decide +kernel
theorem dX0_addCorner_84 : decode cX0_addCorner 84 = .ok (.getfield 15, 3) := by decide +kernel
theorem dX0_addCorner_87 : decode cX0_addCorner 87 = .ok (.aload_n 0, 1) := by decide +kernel
theorem dX0_addCorner_88 : decode cX0_addCorner 88 = .ok (.getfield 18, 3) := by decide +kernel
theorem dX0_addCorner_91 : decode cX0_addCorner 91 = .ok (.iload_n 2, 1) := by decide +kernel
theorem dX0_addCorner_92 : decode cX0_addCorner 92 = .ok (.iastore, 1) := by decide +kernel
theorem dX0_addCorner_93 : decode cX0_addCorner 93 = .ok (.aload_n 0, 1) := by decide +kernel
theorem dX0_addCorner_94 : decode cX0_addCorner 94 = .ok (.dup, 1) := by decide +kernel
theorem dX0_addCorner_95 : decode cX0_addCorner 95 = .ok (.getfield 18, 3) := by decide +kernel
theorem dX0_addCorner_98 : decode cX0_addCorner 98 = .ok (.iconst 1, 1) := by decide +kernel
theorem dX0_addCorner_99 : decode cX0_addCorner 99 = .ok (.iadd, 1) := by decide +kernel
theorem dX0_addCorner_100 : decode cX0_addCorner 100 = .ok (.putfield 18, 3) := by decide +kernel
theorem dX0_addCorner_103 : decode cX0_addCorner 103 = .ok (.aload_n 0, 1) := by decide +kernel
theorem dX0_addCorner_104 : decode cX0_addCorner 104 = .ok (.getfield 18, 3) := by decide +kernel
theorem dX0_addCorner_107 : decode cX0_addCorner 107 = .ok (.ireturn, 1) := by decide +kernel
theorem dX0_cornerReached_0 : decode cX0_cornerReached 0 = .ok (.aload_n 0, 1) := by decide +kernel
theorem dX0_cornerReached_1 : decode cX0_cornerReached 1 = .ok (.getfield 18, 3) := by decide +kernel
theorem dX0_cornerReached_4 : decode cX0_cornerReached 4 = .ok (.iconst 1, 1) := by decide +kernel
theorem dX0_cornerReached_5 : decode cX0_cornerReached 5 = .ok (.isub, 1) := by decide +kernel
theorem dX0_cornerReached_6 : decode cX0_cornerReached 6 = .ok (.istore 6, 2) := by decide +kernel
theorem dX0_cornerReached_8 : decode cX0_cornerReached 8 = .ok (.iload 6, 2) := by decide +kernel
theorem dX0_cornerReached_10 : decode cX0_cornerReached 10 = .ok (.ifCond .lt 35, 3) := by decide +kernel
theorem dX0_cornerReached_13 : decode cX0_cornerReached 13 = .ok (.ldc2_w 26, 3) := by decide +kernel
theorem dX0_cornerReached_16 : decode cX0_cornerReached 16 = .ok (.lload_n 2, 1) := by decide +kernel
theorem dX0_cornerReached_17 : decode cX0_cornerReached 17 = .ok (.lmul, 1) := by decide +kernel
theorem dX0_cornerReached_18 : decode cX0_cornerReached 18 = .ok (.iload_n 1, 1) := by decide +kernel
theorem dX0_cornerReached_19 : decode cX0_cornerReached 19 = .ok (.i2l, 1) := by decide +kernel
theorem dX0_cornerReached_20 : decode cX0_cornerReached 20 = .ok (.aload_n 0, 1) := by decide +kernel
theorem dX0_cornerReached_21 : decode cX0_cornerReached 21 = .ok (.getfield 9, 3) := by decide +kernel
theorem dX0_cornerReached_24 : decode cX0_cornerReached 24 = .ok (.iload 6, 2) := by decide +kernel
theorem dX0_cornerReached_26 : decode cX0_cornerReached 26 = .ok (.iaload, 1) := by decide +kernel
theorem dX0_cornerReached_27 : decode cX0_cornerReached 27 = .ok (.i2l, 1) := by decide +kernel
theorem dX0_cornerReached_28 : decode cX0_cornerReached 28 = .ok (.lmul, 1) := by decide +kernel
theorem dX0_cornerReached_29 : decode cX0_cornerReached 29 = .ok (.lload 4, 2) := by decide +kernel
theorem dX0_cornerReached_31 : decode cX0_cornerReached 31 = .ok (.lmul, 1) := by decide +kernel
theorem dX0_cornerReached_32 : decode cX0_cornerReached 32 = .ok (.lcmp, 1) := by decide +kernel
theorem dX0_cornerReached_33 : decode cX0_cornerReached 33 = .ok (.ifCond .lt 6, 3) := by decide +kernel
theorem dX0_cornerReached_36 : decode cX0_cornerReached 36 = .ok (.iload 6, 2) := by decide +kernel
theorem dX0_cornerReached_38 : decode cX0_cornerReached 38 = .ok (.ireturn, 1) := by decide +kernel
theorem dX0_cornerReached_39 : decode cX0_cornerReached 39 = .ok (.iinc 6 (-1), 3) := by decide +kernel
theorem dX0_cornerReached_42 : decode cX0_cornerReached 42 = .ok (.goto (-34), 3) := by decide +kernel
theorem dX0_cornerReached_45 : decode cX0_cornerReached 45 = .ok (.iconst (-1), 1) := by decide +kernel
theorem dX0_cornerReached_46 : decode cX0_cornerReached 46 = .ok (.ireturn, 1) := by decide +kernel
theorem dX1_init_0 : decode cX1_init 0 = .ok (.aload_n 0, 1) := by decide +kernel
theorem dX1_init_1 : decode cX1_init 1 = .ok (.invokespecial 3, 3) := by decide +kernel
theorem dX1_init_4 : decode cX1_init 4 = .ok (.aload_n 0, 1) := by decide +kernel
theorem dX1_init_5 : decode cX1_init 5 = .ok (.sipush 3480, 3) := by decide +kernel
theorem dX1_init_8 : decode cX1_init 8 = .ok (.newarray .int, 2) := by decide +kernel
theorem dX1_init_10 : decode cX1_init 10 = .ok (.putfield 9, 3) := by decide +kernel
theorem dX1_init_13 : decode cX1_init 13 = .ok (.aload_n 0, 1) := by decide +kernel
theorem dX1_init_14 : decode cX1_init 14 = .ok (.bipush 30, 2) := by decide +kernel
theorem dX1_init_16 : decode cX1_init 16 = .ok (.newarray .int, 2) := by decide +kernel
theorem dX1_init_18 : decode cX1_init 18 = .ok (.putfield 15, 3) := by decide +kernel
theorem dX1_init_21 : decode cX1_init 21 = .ok (.aload_n 0, 1) := by decide +kernel
theorem dX1_init_22 : decode cX1_init 22 = .ok (.aload_n 1, 1) := by decide +kernel
theorem dX1_init_23 : decode cX1_init 23 = .ok (.putfield 18, 3) := by decide +kernel
theorem dX1_init_26 : decode cX1_init 26 = .ok (.aload_n 0, 1) := by decide +kernel
theorem dX1_init_27 : decode cX1_init 27 = .ok (.aload_n 2, 1) := by decide +kernel
theorem dX1_init_28 : decode cX1_init 28 = .ok (.putfield 22, 3) := by decide +kernel
theorem dX1_init_31 : decode cX1_init 31 = .ok (.aload_n 0, 1) := by decide +kernel
theorem dX1_init_32 : decode cX1_init 32 = .ok (.aload_n 3, 1) := by decide +kernel
theorem dX1_init_33 : decode cX1_init 33 = .ok (.putfield 26, 3) := by decide +kernel
theorem dX1_init_36 : decode cX1_init 36 = .ok (.return_, 1) := by decide +kernel
theorem dX1_gather_0 : decode cX1_gather 0 = .ok (.iconst 0, 1) := by decide +kernel
theorem dX1_gather_1 : decode cX1_gather 1 = .ok (.istore_n 1, 1) := by decide +kernel
theorem dX1_gather_2 : decode cX1_gather 2 = .ok (.iload_n 1, 1) := by decide +kernel
theorem dX1_gather_3 : decode cX1_gather 3 = .ok (.aload_n 0, 1) := by decide +kernel
theorem dX1_gather_4 : decode cX1_gather 4 = .ok (.getfield 9, 3) := by decide +kernel
theorem dX1_gather_7 : decode cX1_gather 7 = .ok (.arraylength, 1) := by decide +kernel
theorem dX1_gather_8 : decode cX1_gather 8 = .ok (.if_icmp .ge 16, 3) := by decide +kernel
theorem dX1_gather_11 : decode cX1_gather 11 = .ok (.aload_n 0, 1) := by decide +kernel
theorem dX1_gather_12 : decode cX1_gather 12 = .ok (.getfield 9, 3) := by decide +kernel
theorem dX1_gather_15 : decode cX1_gather 15 = .ok (.iload_n 1, 1) := by decide +kernel
theorem dX1_gather_16 : decode cX1_gather 16 = .ok (.iconst 0, 1) := by decide +kernel
theorem dX1_gather_17 : decode cX1_gather 17 = .ok (.iastore, 1) := by decide +kernel
theorem dX1_gather_18 : decode cX1_gather 18 = .ok (.iinc 1 1, 3) := by decide +kernel
theorem dX1_gather_21 : decode cX1_gather 21 = .ok (.goto (-19), 3) := by decide +kernel
theorem dX1_gather_24 : decode cX1_gather 24 = .ok (.iconst 0, 1) := by decide +kernel
theorem dX1_gather_25 : decode cX1_gather 25 = .ok (.istore_n 1, 1) := by decide +kernel
theorem dX1_gather_26 : decode cX1_gather 26 = .ok (.iload_n 1, 1) := by decide +kernel
theorem dX1_gather_27 : decode cX1_gather 27 = .ok (.bipush 30, 2) := by decide +kernel
theorem dX1_gather_29 : decode cX1_gather 29 = .ok (.if_icmp .ge 16, 3) := by decide +kernel
theorem dX1_gather_32 : decode cX1_gather 32 = .ok (.aload_n 0, 1) := by decide +kernel
theorem dX1_gather_33 : decode cX1_gather 33 = .ok (.getfield 15, 3) := by decide +kernel
theorem dX1_gather_36 : decode cX1_gather 36 = .ok (.iload_n 1, 1) := by decide +kernel
theorem dX1_gather_37 : decode cX1_gather 37 = .ok (.iconst 0, 1) := by decide +kernel
theorem dX1_gather_38 : decode cX1_gather 38 = .ok (.iastore, 1) := by decide +kernel
theorem dX1_gather_39 : decode cX1_gather 39 = .ok (.iinc 1 1, 3) := by decide +kernel
theorem dX1_gather_42 : decode cX1_gather 42 = .ok (.goto (-16), 3) := by decide +kernel
theorem dX1_gather_45 : decode cX1_gather 45 = .ok (.iconst 1, 1) := by decide +kernel
theorem dX1_gather_46 : decode cX1_gather 46 = .ok (.istore_n 1, 1) := by decide +kernel
theorem dX1_gather_47 : decode cX1_gather 47 = .ok (.iload_n 1, 1) := by decide +kernel
theorem dX1_gather_48 : decode cX1_gather 48 = .ok (.aload_n 0, 1) := by decide +kernel
theorem dX1_gather_49 : decode cX1_gather 49 = .ok (.getfield 18, 3) := by decide +kernel
theorem dX1_gather_52 : decode cX1_gather 52 = .ok (.getfield 30, 3) := by decide +kernel
theorem dX1_gather_55 : decode cX1_gather 55 = .ok (.if_icmp .ge 64, 3) := by decide +kernel
theorem dX1_gather_58 : decode cX1_gather 58 = .ok (.iconst 0, 1) := by decide +kernel
theorem dX1_gather_59 : decode cX1_gather 59 = .ok (.istore_n 2, 1) := by decide +kernel
theorem dX1_gather_60 : decode cX1_gather 60 = .ok (.iload_n 2, 1) := by decide +kernel
theorem dX1_gather_61 : decode cX1_gather 61 = .ok (.bipush 16, 2) := by decide +kernel
theorem dX1_gather_63 : decode cX1_gather 63 = .ok (.if_icmp .gt 50, 3) := by decide +kernel
theorem dX1_gather_66 : decode cX1_gather 66 = .ok (.iconst 0, 1) := by decide +kernel
theorem dX1_gather_67 : decode cX1_gather 67 = .ok (.istore_n 3, 1) := by decide +kernel
theorem dX1_gather_68 : decode cX1_gather 68 = .ok (.iload_n 3, 1) := by decide +kernel
theorem dX1_gather_69 : decode cX1_gather 69 = .ok (.aload_n 0, 1) := by decide +kernel
theorem dX1_gather_70 : decode cX1_gather 70 = .ok (.getfield 26, 3) := by decide +kernel
theorem dX1_gather_73 : decode cX1_gather 73 = .ok (.invokevirtual 36, 3) := by decide +kernel
theorem dX1_gather_76 : decode cX1_gather 76 = .ok (.if_icmp .ge 31, 3) := by decide +kernel
theorem dX1_gather_79 : decode cX1_gather 79 = .ok (.aload_n 0, 1) := by decide +kernel
theorem dX1_gather_80 : decode cX1_gather 80 = .ok (.iload_n 1, 1) := by decide +kernel
theorem dX1_gather_81 : decode cX1_gather 81 = .ok (.aload_n 0, 1) := by decide +kernel
theorem dX1_gather_82 : decode cX1_gather 82 = .ok (.getfield 18, 3) := by decide +kernel
theorem dX1_gather_85 : decode cX1_gather 85 = .ok (.iload_n 1, 1) := by decide +kernel
theorem dX1_gather_86 : decode cX1_gather 86 = .ok (.iload_n 2, 1) := by decide +kernel
theorem dX1_gather_87 : decode cX1_gather 87 = .ok (.aload_n 0, 1) := by decide +kernel
theorem dX1_gather_88 : decode cX1_gather 88 = .ok (.getfield 26, 3) := by decide +kernel
theorem dX1_gather_91 : decode cX1_gather 91 = .ok (.iload_n 3, 1) := by decide +kernel
theorem dX1_gather_92 : decode cX1_gather 92 = .ok (.invokevirtual 42, 3) := by decide +kernel
theorem dX1_gather_95 : decode cX1_gather 95 = .ok (.invokevirtual 46, 3) := by decide +kernel
theorem dX1_gather_98 : decode cX1_gather 98 = .ok (.invokevirtual 50, 3) := by decide +kernel
theorem dX1_gather_101 : decode cX1_gather 101 = .ok (.iinc 3 1, 3) := by decide +kernel
theorem dX1_gather_104 : decode cX1_gather 104 = .ok (.goto (-36), 3) := by decide +kernel
theorem dX1_gather_107 : decode cX1_gather 107 = .ok (.iinc 2 1, 3) := by decide +kernel
theorem dX1_gather_110 : decode cX1_gather 110 = .ok (.goto (-50), 3) := by decide +kernel
theorem dX1_gather_113 : decode cX1_gather 113 = .ok (.iinc 1 1, 3) := by decide +kernel
theorem dX1_gather_116 : decode cX1_gather 116 = .ok (.goto (-69), 3) := by decide +kernel
theorem dX1_gather_119 : decode cX1_gather 119 = .ok (.return_, 1) := by decide +kernel
theorem dX1_gatherOf_0 : decode cX1_gatherOf 0 = .ok (.aload_n 0, 1) := by decide +kernel
theorem dX1_gatherOf_1 : decode cX1_gatherOf 1 = .ok (.getfield 18, 3) := by decide +kernel
theorem dX1_gatherOf_4 : decode cX1_gatherOf 4 = .ok (.getfield 54, 3) := by decide +kernel
theorem dX1_gatherOf_7 : decode cX1_gatherOf 7 = .ok (.iload_n 1, 1) := by decide +kernel
theorem dX1_gatherOf_8 : decode cX1_gatherOf 8 = .ok (.iaload, 1) := by decide +kernel
theorem dX1_gatherOf_9 : decode cX1_gatherOf 9 = .ok (.istore 4, 2) := by decide +kernel
theorem dX1_gatherOf_11 : decode cX1_gatherOf 11 = .ok (.iconst 0, 1) := by decide +kernel
theorem dX1_gatherOf_12 : decode cX1_gatherOf 12 = .ok (.istore 5, 2) := by decide +kernel
theorem dX1_gatherOf_14 : decode cX1_gatherOf 14 = .ok (.iconst 0, 1) := by decide +kernel
theorem dX1_gatherOf_15 : decode cX1_gatherOf 15 = .ok (.istore 6, 2) := by decide +kernel
theorem dX1_gatherOf_17 : decode cX1_gatherOf 17 = .ok (.iload_n 1, 1) := by decide +kernel
theorem dX1_gatherOf_18 : decode cX1_gatherOf 18 = .ok (.istore 7, 2) := by decide +kernel
theorem dX1_gatherOf_20 : decode cX1_gatherOf 20 = .ok (.iload 7, 2) := by decide +kernel
theorem dX1_gatherOf_22 : decode cX1_gatherOf 22 = .ok (.iconst 1, 1) := by decide +kernel
theorem dX1_gatherOf_23 : decode cX1_gatherOf 23 = .ok (.if_icmp .lt 127, 3) := by decide +kernel
theorem dX1_gatherOf_26 : decode cX1_gatherOf 26 = .ok (.iload 4, 2) := by decide +kernel
theorem dX1_gatherOf_28 : decode cX1_gatherOf 28 = .ok (.iload 7, 2) := by decide +kernel
theorem dX1_gatherOf_30 : decode cX1_gatherOf 30 = .ok (.invokestatic 57, 3) := by decide +kernel
theorem dX1_gatherOf_33 : decode cX1_gatherOf 33 = .ok (.ifCond .eq 23, 3) := by decide +kernel
theorem dX1_gatherOf_36 : decode cX1_gatherOf 36 = .ok (.aload_n 0, 1) := by decide +kernel
theorem dX1_gatherOf_37 : decode cX1_gatherOf 37 = .ok (.getfield 22, 3) := by decide +kernel
theorem dX1_gatherOf_40 : decode cX1_gatherOf 40 = .ok (.iload 7, 2) := by decide +kernel
theorem dX1_gatherOf_42 : decode cX1_gatherOf 42 = .ok (.aload_n 0, 1) := by decide +kernel
theorem dX1_gatherOf_43 : decode cX1_gatherOf 43 = .ok (.getfield 18, 3) := by decide +kernel
theorem dX1_gatherOf_46 : decode cX1_gatherOf 46 = .ok (.invokevirtual 61, 3) := by decide +kernel
theorem dX1_gatherOf_49 : decode cX1_gatherOf 49 = .ok (.lload_n 2, 1) := by decide +kernel
theorem dX1_gatherOf_50 : decode cX1_gatherOf 50 = .ok (.invokevirtual 65, 3) := by decide +kernel
theorem dX1_gatherOf_53 : decode cX1_gatherOf 53 = .ok (.goto 4, 3) := by decide +kernel
theorem dX1_gatherOf_56 : decode cX1_gatherOf 56 = .ok (.iconst (-1), 1) := by decide +kernel
theorem dX1_gatherOf_57 : decode cX1_gatherOf 57 = .ok (.istore 8, 2) := by decide +kernel
theorem dX1_gatherOf_59 : decode cX1_gatherOf 59 = .ok (.iload 8, 2) := by decide +kernel
theorem dX1_gatherOf_61 : decode cX1_gatherOf 61 = .ok (.iconst (-1), 1) := by decide +kernel
theorem dX1_gatherOf_62 : decode cX1_gatherOf 62 = .ok (.if_icmp .eq 82, 3) := by decide +kernel
theorem dX1_gatherOf_65 : decode cX1_gatherOf 65 = .ok (.aload_n 0, 1) := by decide +kernel
theorem dX1_gatherOf_66 : decode cX1_gatherOf 66 = .ok (.getfield 22, 3) := by decide +kernel
theorem dX1_gatherOf_69 : decode cX1_gatherOf 69 = .ok (.iload 7, 2) := by decide +kernel
theorem dX1_gatherOf_71 : decode cX1_gatherOf 71 = .ok (.iload 8, 2) := by decide +kernel
theorem dX1_gatherOf_73 : decode cX1_gatherOf 73 = .ok (.invokevirtual 71, 3) := by decide +kernel
theorem dX1_gatherOf_76 : decode cX1_gatherOf 76 = .ok (.istore 9, 2) := by decide +kernel
theorem dX1_gatherOf_78 : decode cX1_gatherOf 78 = .ok (.iload 5, 2) := by decide +kernel
theorem dX1_gatherOf_80 : decode cX1_gatherOf 80 = .ok (.ifCond .ne 25, 3) := by decide +kernel
theorem dX1_gatherOf_83 : decode cX1_gatherOf 83 = .ok (.aload_n 0, 1) := by decide +kernel
theorem dX1_gatherOf_84 : decode cX1_gatherOf 84 = .ok (.getfield 15, 3) := by decide +kernel
theorem dX1_gatherOf_87 : decode cX1_gatherOf 87 = .ok (.iload 7, 2) := by decide +kernel
theorem dX1_gatherOf_89 : decode cX1_gatherOf 89 = .ok (.aload_n 0, 1) := by decide +kernel
theorem dX1_gatherOf_90 : decode cX1_gatherOf 90 = .ok (.getfield 15, 3) := by decide +kernel
theorem dX1_gatherOf_93 : decode cX1_gatherOf 93 = .ok (.iload 7, 2) := by decide +kernel
theorem dX1_gatherOf_95 : decode cX1_gatherOf 95 = .ok (.iaload, 1) := by decide +kernel
theorem dX1_gatherOf_96 : decode cX1_gatherOf 96 = .ok (.iload 9, 2) := by decide +kernel
theorem dX1_gatherOf_98 : decode cX1_gatherOf 98 = .ok (.invokestatic 75, 3) := by decide +kernel
theorem dX1_gatherOf_101 : decode cX1_gatherOf 101 = .ok (.iastore, 1) := by decide +kernel
theorem dX1_gatherOf_102 : decode cX1_gatherOf 102 = .ok (.goto 34, 3) := by decide +kernel
theorem dX1_gatherOf_105 : decode cX1_gatherOf 105 = .ok (.iload 7, 2) := by decide +kernel
theorem dX1_gatherOf_107 : decode cX1_gatherOf 107 = .ok (.iload 5, 2) := by decide +kernel
theorem dX1_gatherOf_109 : decode cX1_gatherOf 109 = .ok (.invokestatic 80, 3) := by decide +kernel
theorem dX1_gatherOf_112 : decode cX1_gatherOf 112 = .ok (.iload 8, 2) := by decide +kernel
theorem dX1_gatherOf_114 : decode cX1_gatherOf 114 = .ok (.iadd, 1) := by decide +kernel
theorem dX1_gatherOf_115 : decode cX1_gatherOf 115 = .ok (.istore 10, 2) := by decide +kernel
theorem dX1_gatherOf_117 : decode cX1_gatherOf 117 = .ok (.aload_n 0, 1) := by decide +kernel
theorem dX1_gatherOf_118 : decode cX1_gatherOf 118 = .ok (.getfield 9, 3) := by decide +kernel
theorem dX1_gatherOf_121 : decode cX1_gatherOf 121 = .ok (.iload 10, 2) := by decide +kernel
theorem dX1_gatherOf_123 : decode cX1_gatherOf 123 = .ok (.aload_n 0, 1) := by decide +kernel
theorem dX1_gatherOf_124 : decode cX1_gatherOf 124 = .ok (.getfield 9, 3) := by decide +kernel
theorem dX1_gatherOf_127 : decode cX1_gatherOf 127 = .ok (.iload 10, 2) := by decide +kernel
theorem dX1_gatherOf_129 : decode cX1_gatherOf 129 = .ok (.iaload, 1) := by decide +kernel
theorem dX1_gatherOf_130 : decode cX1_gatherOf 130 = .ok (.iload 6, 2) := by decide +kernel
theorem dX1_gatherOf_132 : decode cX1_gatherOf 132 = .ok (.invokestatic 75, 3) := by decide +kernel
theorem dX1_gatherOf_135 : decode cX1_gatherOf 135 = .ok (.iastore, 1) := by decide +kernel
theorem dX1_gatherOf_136 : decode cX1_gatherOf 136 = .ok (.iload 7, 2) := by decide +kernel
theorem dX1_gatherOf_138 : decode cX1_gatherOf 138 = .ok (.istore 5, 2) := by decide +kernel
theorem dX1_gatherOf_140 : decode cX1_gatherOf 140 = .ok (.iload 9, 2) := by decide +kernel
theorem dX1_gatherOf_142 : decode cX1_gatherOf 142 = .ok (.istore 6, 2) := by decide +kernel
theorem dX1_gatherOf_144 : decode cX1_gatherOf 144 = .ok (.iinc 7 (-1), 3) := by decide +kernel
theorem dX1_gatherOf_147 : decode cX1_gatherOf 147 = .ok (.goto (-127), 3) := by decide +kernel
theorem dX1_gatherOf_150 : decode cX1_gatherOf 150 = .ok (.return_, 1) := by decide +kernel
theorem dX1_rowOf_0 : decode cX1_rowOf 0 = .ok (.iload_n 1, 1) := by decide +kernel
theorem dX1_rowOf_1 : decode cX1_rowOf 1 = .ok (.iload_n 1, 1) := by decide +kernel
theorem dX1_rowOf_2 : decode cX1_rowOf 2 = .ok (.iconst 1, 1) := by decide +kernel
theorem dX1_rowOf_3 : decode cX1_rowOf 3 = .ok (.isub, 1) := by decide +kernel
theorem dX1_rowOf_4 : decode cX1_rowOf 4 = .ok (.imul, 1) := by decide +kernel
theorem dX1_rowOf_5 : decode cX1_rowOf 5 = .ok (.iconst 2, 1) := by decide +kernel
theorem dX1_rowOf_6 : decode cX1_rowOf 6 = .ok (.idiv, 1) := by decide +kernel
theorem dX1_rowOf_7 : decode cX1_rowOf 7 = .ok (.iload_n 0, 1) := by decide +kernel
theorem dX1_rowOf_8 : decode cX1_rowOf 8 = .ok (.iadd, 1) := by decide +kernel
theorem dX1_rowOf_9 : decode cX1_rowOf 9 = .ok (.bipush 8, 2) := by decide +kernel
theorem dX1_rowOf_11 : decode cX1_rowOf 11 = .ok (.imul, 1) := by decide +kernel
theorem dX1_rowOf_12 : decode cX1_rowOf 12 = .ok (.ireturn, 1) := by decide +kernel
theorem dX1_leastDial_0 : decode cX1_leastDial 0 = .ok (.lconst 1, 1) := by decide +kernel
theorem dX1_leastDial_1 : decode cX1_leastDial 1 = .ok (.lstore_n 3, 1) := by decide +kernel
theorem dX1_leastDial_2 : decode cX1_leastDial 2 = .ok (.iload_n 1, 1) := by decide +kernel
theorem dX1_leastDial_3 : decode cX1_leastDial 3 = .ok (.iconst 1, 1) := by decide +kernel
theorem dX1_leastDial_4 : decode cX1_leastDial 4 = .ok (.iadd, 1) := by decide +kernel
theorem dX1_leastDial_5 : decode cX1_leastDial 5 = .ok (.istore 5, 2) := by decide +kernel
theorem dX1_leastDial_7 : decode cX1_leastDial 7 = .ok (.iload 5, 2) := by decide +kernel
theorem dX1_leastDial_9 : decode cX1_leastDial 9 = .ok (.aload_n 0, 1) := by decide +kernel
theorem dX1_leastDial_10 : decode cX1_leastDial 10 = .ok (.getfield 18, 3) := by decide +kernel
theorem dX1_leastDial_13 : decode cX1_leastDial 13 = .ok (.getfield 30, 3) := by decide +kernel
theorem dX1_leastDial_16 : decode cX1_leastDial 16 = .ok (.if_icmp .ge 104, 3) := by decide +kernel
theorem dX1_leastDial_19 : decode cX1_leastDial 19 = .ok (.iload_n 1, 1) := by decide +kernel
theorem dX1_leastDial_20 : decode cX1_leastDial 20 = .ok (.iload 5, 2) := by decide +kernel
theorem dX1_leastDial_22 : decode cX1_leastDial 22 = .ok (.invokestatic 80, 3) := by decide +kernel
theorem dX1_leastDial_25 : decode cX1_leastDial 25 = .ok (.istore 6, 2) := by decide +kernel
theorem dX1_leastDial_27 : decode cX1_leastDial 27 = .ok (.iconst 0, 1) := by decide +kernel
theorem dX1_leastDial_28 : decode cX1_leastDial 28 = .ok (.istore 7, 2) := by decide +kernel
theorem dX1_leastDial_30 : decode cX1_leastDial 30 = .ok (.iload 7, 2) := by decide +kernel
theorem dX1_leastDial_32 : decode cX1_leastDial 32 = .ok (.bipush 8, 2) := by decide +kernel
theorem dX1_leastDial_34 : decode cX1_leastDial 34 = .ok (.if_icmp .ge 80, 3) := by decide +kernel
theorem dX1_leastDial_37 : decode cX1_leastDial 37 = .ok (.aload_n 0, 1) := by decide +kernel
theorem dX1_leastDial_38 : decode cX1_leastDial 38 = .ok (.getfield 22, 3) := by decide +kernel
theorem dX1_leastDial_41 : decode cX1_leastDial 41 = .ok (.iload_n 1, 1) := by decide +kernel
theorem dX1_leastDial_42 : decode cX1_leastDial 42 = .ok (.iload 7, 2) := by decide +kernel
theorem dX1_leastDial_44 : decode cX1_leastDial 44 = .ok (.invokevirtual 71, 3) := by decide +kernel
theorem dX1_leastDial_47 : decode cX1_leastDial 47 = .ok (.istore 8, 2) := by decide +kernel
theorem dX1_leastDial_49 : decode cX1_leastDial 49 = .ok (.aload_n 0, 1) := by decide +kernel
theorem dX1_leastDial_50 : decode cX1_leastDial 50 = .ok (.getfield 9, 3) := by decide +kernel
theorem dX1_leastDial_53 : decode cX1_leastDial 53 = .ok (.iload 6, 2) := by decide +kernel
theorem dX1_leastDial_55 : decode cX1_leastDial 55 = .ok (.iload 7, 2) := by decide +kernel
theorem dX1_leastDial_57 : decode cX1_leastDial 57 = .ok (.iadd, 1) := by decide +kernel
theorem dX1_leastDial_58 : decode cX1_leastDial 58 = .ok (.iaload, 1) := by decide +kernel
theorem dX1_leastDial_59 : decode cX1_leastDial 59 = .ok (.ifCond .le 49, 3) := by decide +kernel
theorem dX1_leastDial_62 : decode cX1_leastDial 62 = .ok (.iload 8, 2) := by decide +kernel
theorem dX1_leastDial_64 : decode cX1_leastDial 64 = .ok (.ifCond .le 44, 3) := by decide +kernel
theorem dX1_leastDial_67 : decode cX1_leastDial 67 = .ok (.aload_n 2, 1) := by decide +kernel
theorem dX1_leastDial_68 : decode cX1_leastDial 68 = .ok (.iload 5, 2) := by decide +kernel
theorem dX1_leastDial_70 : decode cX1_leastDial 70 = .ok (.iaload, 1) := by decide +kernel
theorem dX1_leastDial_71 : decode cX1_leastDial 71 = .ok (.aload_n 0, 1) := by decide +kernel
theorem dX1_leastDial_72 : decode cX1_leastDial 72 = .ok (.getfield 9, 3) := by decide +kernel
theorem dX1_leastDial_75 : decode cX1_leastDial 75 = .ok (.iload 6, 2) := by decide +kernel
theorem dX1_leastDial_77 : decode cX1_leastDial 77 = .ok (.iload 7, 2) := by decide +kernel
theorem dX1_leastDial_79 : decode cX1_leastDial 79 = .ok (.iadd, 1) := by decide +kernel
theorem dX1_leastDial_80 : decode cX1_leastDial 80 = .ok (.iaload, 1) := by decide +kernel
theorem dX1_leastDial_81 : decode cX1_leastDial 81 = .ok (.imul, 1) := by decide +kernel
theorem dX1_leastDial_82 : decode cX1_leastDial 82 = .ok (.aload_n 0, 1) := by decide +kernel
theorem dX1_leastDial_83 : decode cX1_leastDial 83 = .ok (.getfield 26, 3) := by decide +kernel
theorem dX1_leastDial_86 : decode cX1_leastDial 86 = .ok (.getfield 83, 3) := by decide +kernel
theorem dX1_leastDial_89 : decode cX1_leastDial 89 = .ok (.iadd, 1) := by decide +kernel
theorem dX1_leastDial_90 : decode cX1_leastDial 90 = .ok (.istore 9, 2) := by decide +kernel
theorem dX1_leastDial_92 : decode cX1_leastDial 92 = .ok (.lload_n 3, 1) := by decide +kernel
theorem dX1_leastDial_93 : decode cX1_leastDial 93 = .ok (.iload 9, 2) := by decide +kernel
theorem dX1_leastDial_95 : decode cX1_leastDial 95 = .ok (.iload 8, 2) := by decide +kernel
theorem dX1_leastDial_97 : decode cX1_leastDial 97 = .ok (.iadd, 1) := by decide +kernel
theorem dX1_leastDial_98 : decode cX1_leastDial 98 = .ok (.iconst 1, 1) := by decide +kernel
theorem dX1_leastDial_99 : decode cX1_leastDial 99 = .ok (.isub, 1) := by decide +kernel
theorem dX1_leastDial_100 : decode cX1_leastDial 100 = .ok (.iload 8, 2) := by decide +kernel
theorem dX1_leastDial_102 : decode cX1_leastDial 102 = .ok (.idiv, 1) := by decide +kernel
theorem dX1_leastDial_103 : decode cX1_leastDial 103 = .ok (.i2l, 1) := by decide +kernel
theorem dX1_leastDial_104 : decode cX1_leastDial 104 = .ok (.invokestatic 86, 3) := by decide +kernel
theorem dX1_leastDial_107 : decode cX1_leastDial 107 = .ok (.lstore_n 3, 1) := by decide +kernel
theorem dX1_leastDial_108 : decode cX1_leastDial 108 = .ok (.iinc 7 1, 3) := by decide +kernel
theorem dX1_leastDial_111 : decode cX1_leastDial 111 = .ok (.goto (-81), 3) := by decide +kernel
theorem dX1_leastDial_114 : decode cX1_leastDial 114 = .ok (.iinc 5 1, 3) := by decide +kernel
theorem dX1_leastDial_117 : decode cX1_leastDial 117 = .ok (.goto (-110), 3) := by decide +kernel
theorem dX1_leastDial_120 : decode cX1_leastDial 120 = .ok (.lload_n 3, 1) := by decide +kernel
theorem dX1_leastDial_121 : decode cX1_leastDial 121 = .ok (.lreturn, 1) := by decide +kernel
theorem dX1_areMetAround_0 : decode cX1_areMetAround 0 = .ok (.aload_n 2, 1) := by decide +kernel
theorem dX1_areMetAround_1 : decode cX1_areMetAround 1 = .ok (.iload_n 1, 1) := by decide +kernel
theorem dX1_areMetAround_2 : decode cX1_areMetAround 2 = .ok (.iaload, 1) := by decide +kernel
theorem dX1_areMetAround_3 : decode cX1_areMetAround 3 = .ok (.aload_n 0, 1) := by decide +kernel
theorem dX1_areMetAround_4 : decode cX1_areMetAround 4 = .ok (.getfield 15, 3) := by decide +kernel
theorem dX1_areMetAround_7 : decode cX1_areMetAround 7 = .ok (.iload_n 1, 1) := by decide +kernel
theorem dX1_areMetAround_8 : decode cX1_areMetAround 8 = .ok (.iaload, 1) := by decide +kernel
theorem dX1_areMetAround_9 : decode cX1_areMetAround 9 = .ok (.imul, 1) := by decide +kernel
theorem dX1_areMetAround_10 : decode cX1_areMetAround 10 = .ok (.aload_n 0, 1) := by decide +kernel
theorem dX1_areMetAround_11 : decode cX1_areMetAround 11 = .ok (.getfield 26, 3) := by decide +kernel
theorem dX1_areMetAround_14 : decode cX1_areMetAround 14 = .ok (.getfield 89, 3) := by decide +kernel
theorem dX1_areMetAround_17 : decode cX1_areMetAround 17 = .ok (.if_icmp .le 5, 3) := by decide +kernel
theorem dX1_areMetAround_20 : decode cX1_areMetAround 20 = .ok (.iconst 0, 1) := by decide +kernel
theorem dX1_areMetAround_21 : decode cX1_areMetAround 21 = .ok (.ireturn, 1) := by decide +kernel
theorem dX1_areMetAround_22 : decode cX1_areMetAround 22 = .ok (.iconst 1, 1) := by decide +kernel
theorem dX1_areMetAround_23 : decode cX1_areMetAround 23 = .ok (.istore_n 3, 1) := by decide +kernel
theorem dX1_areMetAround_24 : decode cX1_areMetAround 24 = .ok (.iload_n 3, 1) := by decide +kernel
theorem dX1_areMetAround_25 : decode cX1_areMetAround 25 = .ok (.aload_n 0, 1) := by decide +kernel
theorem dX1_areMetAround_26 : decode cX1_areMetAround 26 = .ok (.getfield 18, 3) := by decide +kernel
theorem dX1_areMetAround_29 : decode cX1_areMetAround 29 = .ok (.getfield 30, 3) := by decide +kernel
theorem dX1_areMetAround_32 : decode cX1_areMetAround 32 = .ok (.if_icmp .ge 41, 3) := by decide +kernel
theorem dX1_areMetAround_35 : decode cX1_areMetAround 35 = .ok (.iload_n 3, 1) := by decide +kernel
theorem dX1_areMetAround_36 : decode cX1_areMetAround 36 = .ok (.iload_n 1, 1) := by decide +kernel
theorem dX1_areMetAround_37 : decode cX1_areMetAround 37 = .ok (.if_icmp .ge 13, 3) := by decide +kernel
theorem dX1_areMetAround_40 : decode cX1_areMetAround 40 = .ok (.aload_n 0, 1) := by decide +kernel
theorem dX1_areMetAround_41 : decode cX1_areMetAround 41 = .ok (.iload_n 3, 1) := by decide +kernel
theorem dX1_areMetAround_42 : decode cX1_areMetAround 42 = .ok (.iload_n 1, 1) := by decide +kernel
theorem dX1_areMetAround_43 : decode cX1_areMetAround 43 = .ok (.aload_n 2, 1) := by decide +kernel
theorem dX1_areMetAround_44 : decode cX1_areMetAround 44 = .ok (.invokevirtual 92, 3) := by decide +kernel
theorem dX1_areMetAround_47 : decode cX1_areMetAround 47 = .ok (.ifCond .eq 18, 3) := by decide +kernel
theorem dX1_areMetAround_50 : decode cX1_areMetAround 50 = .ok (.iload_n 3, 1) := by decide +kernel
theorem dX1_areMetAround_51 : decode cX1_areMetAround 51 = .ok (.iload_n 1, 1) := by decide +kernel
theorem dX1_areMetAround_52 : decode cX1_areMetAround 52 = .ok (.if_icmp .le 15, 3) := by decide +kernel
theorem dX1_areMetAround_55 : decode cX1_areMetAround 55 = .ok (.aload_n 0, 1) := by decide +kernel
theorem dX1_areMetAround_56 : decode cX1_areMetAround 56 = .ok (.iload_n 1, 1) := by decide +kernel
theorem dX1_areMetAround_57 : decode cX1_areMetAround 57 = .ok (.iload_n 3, 1) := by decide +kernel
theorem dX1_areMetAround_58 : decode cX1_areMetAround 58 = .ok (.aload_n 2, 1) := by decide +kernel
theorem dX1_areMetAround_59 : decode cX1_areMetAround 59 = .ok (.invokevirtual 92, 3) := by decide +kernel
theorem dX1_areMetAround_62 : decode cX1_areMetAround 62 = .ok (.ifCond .ne 5, 3) := by decide +kernel
theorem dX1_areMetAround_65 : decode cX1_areMetAround 65 = .ok (.iconst 0, 1) := by decide +kernel
theorem dX1_areMetAround_66 : decode cX1_areMetAround 66 = .ok (.ireturn, 1) := by decide +kernel
theorem dX1_areMetAround_67 : decode cX1_areMetAround 67 = .ok (.iinc 3 1, 3) := by decide +kernel
theorem dX1_areMetAround_70 : decode cX1_areMetAround 70 = .ok (.goto (-46), 3) := by decide +kernel
theorem dX1_areMetAround_73 : decode cX1_areMetAround 73 = .ok (.iconst 1, 1) := by decide +kernel
theorem dX1_areMetAround_74 : decode cX1_areMetAround 74 = .ok (.ireturn, 1) := by decide +kernel
theorem dX1_isMet_0 : decode cX1_isMet 0 = .ok (.iload_n 1, 1) := by decide +kernel
theorem dX1_isMet_1 : decode cX1_isMet 1 = .ok (.iload_n 2, 1) := by decide +kernel
theorem dX1_isMet_2 : decode cX1_isMet 2 = .ok (.invokestatic 80, 3) := by decide +kernel
theorem dX1_isMet_5 : decode cX1_isMet 5 = .ok (.istore 4, 2) := by decide +kernel
theorem dX1_isMet_7 : decode cX1_isMet 7 = .ok (.iconst 0, 1) := by decide +kernel
theorem dX1_isMet_8 : decode cX1_isMet 8 = .ok (.istore 5, 2) := by decide +kernel
theorem dX1_isMet_10 : decode cX1_isMet 10 = .ok (.iload 5, 2) := by decide +kernel
theorem dX1_isMet_12 : decode cX1_isMet 12 = .ok (.bipush 8, 2) := by decide +kernel
theorem dX1_isMet_14 : decode cX1_isMet 14 = .ok (.if_icmp .ge 59, 3) := by decide +kernel
theorem dX1_isMet_17 : decode cX1_isMet 17 = .ok (.aload_n 0, 1) := by decide +kernel
theorem dX1_isMet_18 : decode cX1_isMet 18 = .ok (.getfield 9, 3) := by decide +kernel
theorem dX1_isMet_21 : decode cX1_isMet 21 = .ok (.iload 4, 2) := by decide +kernel
theorem dX1_isMet_23 : decode cX1_isMet 23 = .ok (.iload 5, 2) := by decide +kernel
theorem dX1_isMet_25 : decode cX1_isMet 25 = .ok (.iadd, 1) := by decide +kernel
theorem dX1_isMet_26 : decode cX1_isMet 26 = .ok (.iaload, 1) := by decide +kernel
theorem dX1_isMet_27 : decode cX1_isMet 27 = .ok (.istore 6, 2) := by decide +kernel
theorem dX1_isMet_29 : decode cX1_isMet 29 = .ok (.iload 6, 2) := by decide +kernel
theorem dX1_isMet_31 : decode cX1_isMet 31 = .ok (.ifCond .le 36, 3) := by decide +kernel
theorem dX1_isMet_34 : decode cX1_isMet 34 = .ok (.aload_n 3, 1) := by decide +kernel
theorem dX1_isMet_35 : decode cX1_isMet 35 = .ok (.iload_n 1, 1) := by decide +kernel
theorem dX1_isMet_36 : decode cX1_isMet 36 = .ok (.iaload, 1) := by decide +kernel
theorem dX1_isMet_37 : decode cX1_isMet 37 = .ok (.aload_n 0, 1) := by decide +kernel
theorem dX1_isMet_38 : decode cX1_isMet 38 = .ok (.getfield 22, 3) := by decide +kernel
theorem dX1_isMet_41 : decode cX1_isMet 41 = .ok (.iload_n 1, 1) := by decide +kernel
theorem dX1_isMet_42 : decode cX1_isMet 42 = .ok (.iload 5, 2) := by decide +kernel
theorem dX1_isMet_44 : decode cX1_isMet 44 = .ok (.invokevirtual 71, 3) := by decide +kernel
theorem dX1_isMet_47 : decode cX1_isMet 47 = .ok (.imul, 1) := by decide +kernel
theorem dX1_isMet_48 : decode cX1_isMet 48 = .ok (.aload_n 3, 1) := by decide +kernel
theorem dX1_isMet_49 : decode cX1_isMet 49 = .ok (.iload_n 2, 1) := by decide +kernel
theorem dX1_isMet_50 : decode cX1_isMet 50 = .ok (.iaload, 1) := by decide +kernel
theorem dX1_isMet_51 : decode cX1_isMet 51 = .ok (.iload 6, 2) := by decide +kernel
theorem dX1_isMet_53 : decode cX1_isMet 53 = .ok (.imul, 1) := by decide +kernel
theorem dX1_isMet_54 : decode cX1_isMet 54 = .ok (.aload_n 0, 1) := by decide +kernel
theorem dX1_isMet_55 : decode cX1_isMet 55 = .ok (.getfield 26, 3) := by decide +kernel
theorem dX1_isMet_58 : decode cX1_isMet 58 = .ok (.getfield 83, 3) := by decide +kernel
theorem dX1_isMet_61 : decode cX1_isMet 61 = .ok (.iadd, 1) := by decide +kernel
theorem dX1_isMet_62 : decode cX1_isMet 62 = .ok (.if_icmp .ge 5, 3) := by decide +kernel
theorem dX1_isMet_65 : decode cX1_isMet 65 = .ok (.iconst 0, 1) := by decide +kernel
theorem dX1_isMet_66 : decode cX1_isMet 66 = .ok (.ireturn, 1) := by decide +kernel
theorem dX1_isMet_67 : decode cX1_isMet 67 = .ok (.iinc 5 1, 3) := by decide +kernel
theorem dX1_isMet_70 : decode cX1_isMet 70 = .ok (.goto (-60), 3) := by decide +kernel
theorem dX1_isMet_73 : decode cX1_isMet 73 = .ok (.iconst 1, 1) := by decide +kernel
theorem dX1_isMet_74 : decode cX1_isMet 74 = .ok (.ireturn, 1) := by decide +kernel
theorem dX2_init_0 : decode cX2_init 0 = .ok (.aload_n 0, 1) := by decide +kernel
theorem dX2_init_1 : decode cX2_init 1 = .ok (.invokespecial 3, 3) := by decide +kernel
theorem dX2_init_4 : decode cX2_init 4 = .ok (.aload_n 0, 1) := by decide +kernel
theorem dX2_init_5 : decode cX2_init 5 = .ok (.aload_n 1, 1) := by decide +kernel
theorem dX2_init_6 : decode cX2_init 6 = .ok (.putfield 9, 3) := by decide +kernel
theorem dX2_init_9 : decode cX2_init 9 = .ok (.aload_n 0, 1) := by decide +kernel
theorem dX2_init_10 : decode cX2_init 10 = .ok (.aload_n 2, 1) := by decide +kernel
theorem dX2_init_11 : decode cX2_init 11 = .ok (.putfield 15, 3) := by decide +kernel
theorem dX2_init_14 : decode cX2_init 14 = .ok (.aload_n 0, 1) := by decide +kernel
theorem dX2_init_15 : decode cX2_init 15 = .ok (.aload_n 3, 1) := by decide +kernel
theorem dX2_init_16 : decode cX2_init 16 = .ok (.putfield 19, 3) := by decide +kernel
theorem dX2_init_19 : decode cX2_init 19 = .ok (.return_, 1) := by decide +kernel
theorem dX2_look_0 : decode cX2_look 0 = .ok (.aload_n 0, 1) := by decide +kernel
theorem dX2_look_1 : decode cX2_look 1 = .ok (.iconst 0, 1) := by decide +kernel
theorem dX2_look_2 : decode cX2_look 2 = .ok (.iconst (-1), 1) := by decide +kernel
theorem dX2_look_3 : decode cX2_look 3 = .ok (.iconst (-1), 1) := by decide +kernel
theorem dX2_look_4 : decode cX2_look 4 = .ok (.iconst (-1), 1) := by decide +kernel
theorem dX2_look_5 : decode cX2_look 5 = .ok (.invokevirtual 23, 3) := by decide +kernel
theorem dX2_look_8 : decode cX2_look 8 = .ok (.iconst 1, 1) := by decide +kernel
theorem dX2_look_9 : decode cX2_look 9 = .ok (.istore_n 1, 1) := by decide +kernel
theorem dX2_look_10 : decode cX2_look 10 = .ok (.iload_n 1, 1) := by decide +kernel
theorem dX2_look_11 : decode cX2_look 11 = .ok (.aload_n 0, 1) := by decide +kernel
theorem dX2_look_12 : decode cX2_look 12 = .ok (.getfield 9, 3) := by decide +kernel
theorem dX2_look_15 : decode cX2_look 15 = .ok (.getfield 27, 3) := by decide +kernel
theorem dX2_look_18 : decode cX2_look 18 = .ok (.if_icmp .ge 21, 3) := by decide +kernel
theorem dX2_look_21 : decode cX2_look 21 = .ok (.aload_n 0, 1) := by decide +kernel
theorem dX2_look_22 : decode cX2_look 22 = .ok (.getfield 33, 3) := by decide +kernel
theorem dX2_look_25 : decode cX2_look 25 = .ok (.ifCond .ne 14, 3) := by decide +kernel
theorem dX2_look_28 : decode cX2_look 28 = .ok (.aload_n 0, 1) := by decide +kernel
theorem dX2_look_29 : decode cX2_look 29 = .ok (.iload_n 1, 1) := by decide +kernel
theorem dX2_look_30 : decode cX2_look 30 = .ok (.invokevirtual 36, 3) := by decide +kernel
theorem dX2_look_33 : decode cX2_look 33 = .ok (.iinc 1 1, 3) := by decide +kernel
theorem dX2_look_36 : decode cX2_look 36 = .ok (.goto (-26), 3) := by decide +kernel
theorem dX2_look_39 : decode cX2_look 39 = .ok (.iconst 1, 1) := by decide +kernel
theorem dX2_look_40 : decode cX2_look 40 = .ok (.istore_n 1, 1) := by decide +kernel
theorem dX2_look_41 : decode cX2_look 41 = .ok (.iload_n 1, 1) := by decide +kernel
theorem dX2_look_42 : decode cX2_look 42 = .ok (.aload_n 0, 1) := by decide +kernel
theorem dX2_look_43 : decode cX2_look 43 = .ok (.getfield 9, 3) := by decide +kernel
theorem dX2_look_46 : decode cX2_look 46 = .ok (.getfield 27, 3) := by decide +kernel
theorem dX2_look_49 : decode cX2_look 49 = .ok (.if_icmp .ge 46, 3) := by decide +kernel
theorem dX2_look_52 : decode cX2_look 52 = .ok (.aload_n 0, 1) := by decide +kernel
theorem dX2_look_53 : decode cX2_look 53 = .ok (.getfield 33, 3) := by decide +kernel
theorem dX2_look_56 : decode cX2_look 56 = .ok (.ifCond .ne 39, 3) := by decide +kernel
theorem dX2_look_59 : decode cX2_look 59 = .ok (.aload_n 0, 1) := by decide +kernel
theorem dX2_look_60 : decode cX2_look 60 = .ok (.getfield 15, 3) := by decide +kernel
theorem dX2_look_63 : decode cX2_look 63 = .ok (.iload_n 1, 1) := by decide +kernel
theorem dX2_look_64 : decode cX2_look 64 = .ok (.aload_n 0, 1) := by decide +kernel
theorem dX2_look_65 : decode cX2_look 65 = .ok (.getfield 9, 3) := by decide +kernel
theorem dX2_look_68 : decode cX2_look 68 = .ok (.iload_n 1, 1) := by decide +kernel
theorem dX2_look_69 : decode cX2_look 69 = .ok (.invokevirtual 40, 3) := by decide +kernel
theorem dX2_look_72 : decode cX2_look 72 = .ok (.i2l, 1) := by decide +kernel
theorem dX2_look_73 : decode cX2_look 73 = .ok (.lconst 1, 1) := by decide +kernel
theorem dX2_look_74 : decode cX2_look 74 = .ok (.invokevirtual 44, 3) := by decide +kernel
theorem dX2_look_77 : decode cX2_look 77 = .ok (.iconst (-1), 1) := by decide +kernel
theorem dX2_look_78 : decode cX2_look 78 = .ok (.if_icmp .eq 11, 3) := by decide +kernel
theorem dX2_look_81 : decode cX2_look 81 = .ok (.aload_n 0, 1) := by decide +kernel
theorem dX2_look_82 : decode cX2_look 82 = .ok (.iconst 4, 1) := by decide +kernel
theorem dX2_look_83 : decode cX2_look 83 = .ok (.iload_n 1, 1) := by decide +kernel
theorem dX2_look_84 : decode cX2_look 84 = .ok (.iconst (-1), 1) := by decide +kernel
theorem dX2_look_85 : decode cX2_look 85 = .ok (.iconst (-1), 1) := by decide +kernel
theorem dX2_look_86 : decode cX2_look 86 = .ok (.invokevirtual 23, 3) := by decide +kernel
theorem dX2_look_89 : decode cX2_look 89 = .ok (.iinc 1 1, 3) := by decide +kernel
theorem dX2_look_92 : decode cX2_look 92 = .ok (.goto (-51), 3) := by decide +kernel
theorem dX2_look_95 : decode cX2_look 95 = .ok (.return_, 1) := by decide +kernel
theorem dX2_note_0 : decode cX2_note 0 = .ok (.aload_n 0, 1) := by decide +kernel
theorem dX2_note_1 : decode cX2_note 1 = .ok (.iload_n 1, 1) := by decide +kernel
theorem dX2_note_2 : decode cX2_note 2 = .ok (.putfield 33, 3) := by decide +kernel
theorem dX2_note_5 : decode cX2_note 5 = .ok (.aload_n 0, 1) := by decide +kernel
theorem dX2_note_6 : decode cX2_note 6 = .ok (.iload_n 2, 1) := by decide +kernel
theorem dX2_note_7 : decode cX2_note 7 = .ok (.putfield 50, 3) := by decide +kernel
theorem dX2_note_10 : decode cX2_note 10 = .ok (.aload_n 0, 1) := by decide +kernel
theorem dX2_note_11 : decode cX2_note 11 = .ok (.iload_n 3, 1) := by decide +kernel
theorem dX2_note_12 : decode cX2_note 12 = .ok (.putfield 53, 3) := by decide +kernel
theorem dX2_note_15 : decode cX2_note 15 = .ok (.aload_n 0, 1) := by decide +kernel
theorem dX2_note_16 : decode cX2_note 16 = .ok (.iload 4, 2) := by decide +kernel
theorem dX2_note_18 : decode cX2_note 18 = .ok (.putfield 56, 3) := by decide +kernel
theorem dX2_note_21 : decode cX2_note 21 = .ok (.return_, 1) := by decide +kernel
theorem dX2_lookAtLine_0 : decode cX2_lookAtLine 0 = .ok (.aload_n 0, 1) := by decide +kernel
theorem dX2_lookAtLine_1 : decode cX2_lookAtLine 1 = .ok (.getfield 15, 3) := by decide +kernel
theorem dX2_lookAtLine_4 : decode cX2_lookAtLine 4 = .ok (.aload_n 0, 1) := by decide +kernel
theorem dX2_lookAtLine_5 : decode cX2_lookAtLine 5 = .ok (.getfield 9, 3) := by decide +kernel
theorem dX2_lookAtLine_8 : decode cX2_lookAtLine 8 = .ok (.getfield 59, 3) := by decide +kernel
theorem dX2_lookAtLine_11 : decode cX2_lookAtLine 11 = .ok (.iload_n 1, 1) := by decide +kernel
theorem dX2_lookAtLine_12 : decode cX2_lookAtLine 12 = .ok (.iaload, 1) := by decide +kernel
theorem dX2_lookAtLine_13 : decode cX2_lookAtLine 13 = .ok (.invokevirtual 63, 3) := by decide +kernel
theorem dX2_lookAtLine_16 : decode cX2_lookAtLine 16 = .ok (.ifCond .ne 12, 3) := by decide +kernel
theorem dX2_lookAtLine_19 : decode cX2_lookAtLine 19 = .ok (.aload_n 0, 1) := by decide +kernel
theorem dX2_lookAtLine_20 : decode cX2_lookAtLine 20 = .ok (.iconst 1, 1) := by decide +kernel
theorem dX2_lookAtLine_21 : decode cX2_lookAtLine 21 = .ok (.iload_n 1, 1) := by decide +kernel
theorem dX2_lookAtLine_22 : decode cX2_lookAtLine 22 = .ok (.iconst (-1), 1) := by decide +kernel
theorem dX2_lookAtLine_23 : decode cX2_lookAtLine 23 = .ok (.iconst (-1), 1) := by decide +kernel
theorem dX2_lookAtLine_24 : decode cX2_lookAtLine 24 = .ok (.invokevirtual 23, 3) := by decide +kernel
theorem dX2_lookAtLine_27 : decode cX2_lookAtLine 27 = .ok (.return_, 1) := by decide +kernel
theorem dX2_lookAtLine_28 : decode cX2_lookAtLine 28 = .ok (.aload_n 0, 1) := by decide +kernel
theorem dX2_lookAtLine_29 : decode cX2_lookAtLine 29 = .ok (.iload_n 1, 1) := by decide +kernel
theorem dX2_lookAtLine_30 : decode cX2_lookAtLine 30 = .ok (.iconst 2, 1) := by decide +kernel
theorem dX2_lookAtLine_31 : decode cX2_lookAtLine 31 = .ok (.invokevirtual 66, 3) := by decide +kernel
theorem dX2_lookAtLine_34 : decode cX2_lookAtLine 34 = .ok (.aload_n 0, 1) := by decide +kernel
theorem dX2_lookAtLine_35 : decode cX2_lookAtLine 35 = .ok (.getfield 33, 3) := by decide +kernel
theorem dX2_lookAtLine_38 : decode cX2_lookAtLine 38 = .ok (.ifCond .ne 9, 3) := by decide +kernel
theorem dX2_lookAtLine_41 : decode cX2_lookAtLine 41 = .ok (.aload_n 0, 1) := by decide +kernel
theorem dX2_lookAtLine_42 : decode cX2_lookAtLine 42 = .ok (.iload_n 1, 1) := by decide +kernel
theorem dX2_lookAtLine_43 : decode cX2_lookAtLine 43 = .ok (.iconst 3, 1) := by decide +kernel
theorem dX2_lookAtLine_44 : decode cX2_lookAtLine 44 = .ok (.invokevirtual 66, 3) := by decide +kernel
theorem dX2_lookAtLine_47 : decode cX2_lookAtLine 47 = .ok (.return_, 1) := by decide +kernel
theorem dX2_lookAtFaults_0 : decode cX2_lookAtFaults 0 = .ok (.iconst 0, 1) := by decide +kernel
theorem dX2_lookAtFaults_1 : decode cX2_lookAtFaults 1 = .ok (.istore_n 3, 1) := by decide +kernel
theorem dX2_lookAtFaults_2 : decode cX2_lookAtFaults 2 = .ok (.iload_n 3, 1) := by decide +kernel
theorem dX2_lookAtFaults_3 : decode cX2_lookAtFaults 3 = .ok (.bipush 16, 2) := by decide +kernel
theorem dX2_lookAtFaults_5 : decode cX2_lookAtFaults 5 = .ok (.if_icmp .gt 95, 3) := by decide +kernel
theorem dX2_lookAtFaults_8 : decode cX2_lookAtFaults 8 = .ok (.iconst 0, 1) := by decide +kernel
theorem dX2_lookAtFaults_9 : decode cX2_lookAtFaults 9 = .ok (.istore 4, 2) := by decide +kernel
theorem dX2_lookAtFaults_11 : decode cX2_lookAtFaults 11 = .ok (.iload 4, 2) := by decide +kernel
theorem dX2_lookAtFaults_13 : decode cX2_lookAtFaults 13 = .ok (.aload_n 0, 1) := by decide +kernel
theorem dX2_lookAtFaults_14 : decode cX2_lookAtFaults 14 = .ok (.getfield 19, 3) := by decide +kernel
theorem dX2_lookAtFaults_17 : decode cX2_lookAtFaults 17 = .ok (.invokevirtual 70, 3) := by decide +kernel
theorem dX2_lookAtFaults_20 : decode cX2_lookAtFaults 20 = .ok (.if_icmp .ge 74, 3) := by decide +kernel
theorem dX2_lookAtFaults_23 : decode cX2_lookAtFaults 23 = .ok (.aload_n 0, 1) := by decide +kernel
theorem dX2_lookAtFaults_24 : decode cX2_lookAtFaults 24 = .ok (.getfield 9, 3) := by decide +kernel
theorem dX2_lookAtFaults_27 : decode cX2_lookAtFaults 27 = .ok (.iload_n 1, 1) := by decide +kernel
theorem dX2_lookAtFaults_28 : decode cX2_lookAtFaults 28 = .ok (.iload_n 3, 1) := by decide +kernel
theorem dX2_lookAtFaults_29 : decode cX2_lookAtFaults 29 = .ok (.aload_n 0, 1) := by decide +kernel
theorem dX2_lookAtFaults_30 : decode cX2_lookAtFaults 30 = .ok (.getfield 19, 3) := by decide +kernel
theorem dX2_lookAtFaults_33 : decode cX2_lookAtFaults 33 = .ok (.iload 4, 2) := by decide +kernel
theorem dX2_lookAtFaults_35 : decode cX2_lookAtFaults 35 = .ok (.invokevirtual 76, 3) := by decide +kernel
theorem dX2_lookAtFaults_38 : decode cX2_lookAtFaults 38 = .ok (.invokevirtual 79, 3) := by decide +kernel
theorem dX2_lookAtFaults_41 : decode cX2_lookAtFaults 41 = .ok (.lstore 5, 2) := by decide +kernel
theorem dX2_lookAtFaults_43 : decode cX2_lookAtFaults 43 = .ok (.iload_n 2, 1) := by decide +kernel
theorem dX2_lookAtFaults_44 : decode cX2_lookAtFaults 44 = .ok (.iconst 2, 1) := by decide +kernel
theorem dX2_lookAtFaults_45 : decode cX2_lookAtFaults 45 = .ok (.if_icmp .ne 16, 3) := by decide +kernel
theorem dX2_lookAtFaults_48 : decode cX2_lookAtFaults 48 = .ok (.aload_n 0, 1) := by decide +kernel
theorem dX2_lookAtFaults_49 : decode cX2_lookAtFaults 49 = .ok (.iload_n 1, 1) := by decide +kernel
theorem dX2_lookAtFaults_50 : decode cX2_lookAtFaults 50 = .ok (.lload 5, 2) := by decide +kernel
theorem dX2_lookAtFaults_52 : decode cX2_lookAtFaults 52 = .ok (.invokevirtual 83, 3) := by decide +kernel
theorem dX2_lookAtFaults_55 : decode cX2_lookAtFaults 55 = .ok (.ifCond .eq 33, 3) := by decide +kernel
theorem dX2_lookAtFaults_58 : decode cX2_lookAtFaults 58 = .ok (.goto 13, 3) := by decide +kernel
theorem dX2_lookAtFaults_61 : decode cX2_lookAtFaults 61 = .ok (.aload_n 0, 1) := by decide +kernel
theorem dX2_lookAtFaults_62 : decode cX2_lookAtFaults 62 = .ok (.iload_n 1, 1) := by decide +kernel
theorem dX2_lookAtFaults_63 : decode cX2_lookAtFaults 63 = .ok (.lload 5, 2) := by decide +kernel
theorem dX2_lookAtFaults_65 : decode cX2_lookAtFaults 65 = .ok (.invokevirtual 87, 3) := by decide +kernel
theorem dX2_lookAtFaults_68 : decode cX2_lookAtFaults 68 = .ok (.ifCond .eq 20, 3) := by decide +kernel
theorem dX2_lookAtFaults_71 : decode cX2_lookAtFaults 71 = .ok (.aload_n 0, 1) := by decide +kernel
theorem dX2_lookAtFaults_72 : decode cX2_lookAtFaults 72 = .ok (.iload_n 2, 1) := by decide +kernel
theorem dX2_lookAtFaults_73 : decode cX2_lookAtFaults 73 = .ok (.iload_n 1, 1) := by decide +kernel
theorem dX2_lookAtFaults_74 : decode cX2_lookAtFaults 74 = .ok (.iload_n 3, 1) := by decide +kernel
theorem dX2_lookAtFaults_75 : decode cX2_lookAtFaults 75 = .ok (.aload_n 0, 1) := by decide +kernel
theorem dX2_lookAtFaults_76 : decode cX2_lookAtFaults 76 = .ok (.getfield 19, 3) := by decide +kernel
theorem dX2_lookAtFaults_79 : decode cX2_lookAtFaults 79 = .ok (.iload 4, 2) := by decide +kernel
theorem dX2_lookAtFaults_81 : decode cX2_lookAtFaults 81 = .ok (.invokevirtual 76, 3) := by decide +kernel
theorem dX2_lookAtFaults_84 : decode cX2_lookAtFaults 84 = .ok (.invokevirtual 23, 3) := by decide +kernel
theorem dX2_lookAtFaults_87 : decode cX2_lookAtFaults 87 = .ok (.return_, 1) := by decide +kernel
theorem dX2_lookAtFaults_88 : decode cX2_lookAtFaults 88 = .ok (.iinc 4 1, 3) := by decide +kernel
theorem dX2_lookAtFaults_91 : decode cX2_lookAtFaults 91 = .ok (.goto (-80), 3) := by decide +kernel
theorem dX2_lookAtFaults_94 : decode cX2_lookAtFaults 94 = .ok (.iinc 3 1, 3) := by decide +kernel
theorem dX2_lookAtFaults_97 : decode cX2_lookAtFaults 97 = .ok (.goto (-95), 3) := by decide +kernel
theorem dX2_lookAtFaults_100 : decode cX2_lookAtFaults 100 = .ok (.return_, 1) := by decide +kernel
theorem dX2_isUnseen_0 : decode cX2_isUnseen 0 = .ok (.aload_n 0, 1) := by decide +kernel
theorem dX2_isUnseen_1 : decode cX2_isUnseen 1 = .ok (.getfield 15, 3) := by decide +kernel
theorem dX2_isUnseen_4 : decode cX2_isUnseen 4 = .ok (.aload_n 0, 1) := by decide +kernel
theorem dX2_isUnseen_5 : decode cX2_isUnseen 5 = .ok (.getfield 9, 3) := by decide +kernel
theorem dX2_isUnseen_8 : decode cX2_isUnseen 8 = .ok (.getfield 59, 3) := by decide +kernel
theorem dX2_isUnseen_11 : decode cX2_isUnseen 11 = .ok (.iload_n 1, 1) := by decide +kernel
theorem dX2_isUnseen_12 : decode cX2_isUnseen 12 = .ok (.iaload, 1) := by decide +kernel
theorem dX2_isUnseen_13 : decode cX2_isUnseen 13 = .ok (.invokevirtual 63, 3) := by decide +kernel
theorem dX2_isUnseen_16 : decode cX2_isUnseen 16 = .ok (.istore 4, 2) := by decide +kernel
theorem dX2_isUnseen_18 : decode cX2_isUnseen 18 = .ok (.aload_n 0, 1) := by decide +kernel
theorem dX2_isUnseen_19 : decode cX2_isUnseen 19 = .ok (.getfield 15, 3) := by decide +kernel
theorem dX2_isUnseen_22 : decode cX2_isUnseen 22 = .ok (.iload 4, 2) := by decide +kernel
theorem dX2_isUnseen_24 : decode cX2_isUnseen 24 = .ok (.aload_n 0, 1) := by decide +kernel
theorem dX2_isUnseen_25 : decode cX2_isUnseen 25 = .ok (.getfield 9, 3) := by decide +kernel
theorem dX2_isUnseen_28 : decode cX2_isUnseen 28 = .ok (.invokevirtual 90, 3) := by decide +kernel
theorem dX2_isUnseen_31 : decode cX2_isUnseen 31 = .ok (.lload_n 2, 1) := by decide +kernel
theorem dX2_isUnseen_32 : decode cX2_isUnseen 32 = .ok (.invokevirtual 44, 3) := by decide +kernel
theorem dX2_isUnseen_35 : decode cX2_isUnseen 35 = .ok (.iconst (-1), 1) := by decide +kernel
theorem dX2_isUnseen_36 : decode cX2_isUnseen 36 = .ok (.if_icmp .ne 7, 3) := by decide +kernel
theorem dX2_isUnseen_39 : decode cX2_isUnseen 39 = .ok (.iconst 1, 1) := by decide +kernel
theorem dX2_isUnseen_40 : decode cX2_isUnseen 40 = .ok (.goto 4, 3) := by decide +kernel
theorem dX2_isUnseen_43 : decode cX2_isUnseen 43 = .ok (.iconst 0, 1) := by decide +kernel
theorem dX2_isUnseen_44 : decode cX2_isUnseen 44 = .ok (.ireturn, 1) := by decide +kernel
theorem dX2_isOutOfOrder_0 : decode cX2_isOutOfOrder 0 = .ok (.aload_n 0, 1) := by decide +kernel
theorem dX2_isOutOfOrder_1 : decode cX2_isOutOfOrder 1 = .ok (.getfield 9, 3) := by decide +kernel
theorem dX2_isOutOfOrder_4 : decode cX2_isOutOfOrder 4 = .ok (.getfield 59, 3) := by decide +kernel
theorem dX2_isOutOfOrder_7 : decode cX2_isOutOfOrder 7 = .ok (.iload_n 1, 1) := by decide +kernel
theorem dX2_isOutOfOrder_8 : decode cX2_isOutOfOrder 8 = .ok (.iaload, 1) := by decide +kernel
theorem dX2_isOutOfOrder_9 : decode cX2_isOutOfOrder 9 = .ok (.istore 4, 2) := by decide +kernel
theorem dX2_isOutOfOrder_11 : decode cX2_isOutOfOrder 11 = .ok (.iconst (-1), 1) := by decide +kernel
theorem dX2_isOutOfOrder_12 : decode cX2_isOutOfOrder 12 = .ok (.istore 5, 2) := by decide +kernel
theorem dX2_isOutOfOrder_14 : decode cX2_isOutOfOrder 14 = .ok (.iload_n 1, 1) := by decide +kernel
theorem dX2_isOutOfOrder_15 : decode cX2_isOutOfOrder 15 = .ok (.istore 6, 2) := by decide +kernel
theorem dX2_isOutOfOrder_17 : decode cX2_isOutOfOrder 17 = .ok (.iload 6, 2) := by decide +kernel
theorem dX2_isOutOfOrder_19 : decode cX2_isOutOfOrder 19 = .ok (.iconst 1, 1) := by decide +kernel
theorem dX2_isOutOfOrder_20 : decode cX2_isOutOfOrder 20 = .ok (.if_icmp .lt 90, 3) := by decide +kernel
theorem dX2_isOutOfOrder_23 : decode cX2_isOutOfOrder 23 = .ok (.iload 4, 2) := by decide +kernel
theorem dX2_isOutOfOrder_25 : decode cX2_isOutOfOrder 25 = .ok (.iload 6, 2) := by decide +kernel
theorem dX2_isOutOfOrder_27 : decode cX2_isOutOfOrder 27 = .ok (.invokestatic 94, 3) := by decide +kernel
theorem dX2_isOutOfOrder_30 : decode cX2_isOutOfOrder 30 = .ok (.ifCond .eq 23, 3) := by decide +kernel
theorem dX2_isOutOfOrder_33 : decode cX2_isOutOfOrder 33 = .ok (.aload_n 0, 1) := by decide +kernel
theorem dX2_isOutOfOrder_34 : decode cX2_isOutOfOrder 34 = .ok (.getfield 15, 3) := by decide +kernel
theorem dX2_isOutOfOrder_37 : decode cX2_isOutOfOrder 37 = .ok (.iload 6, 2) := by decide +kernel
theorem dX2_isOutOfOrder_39 : decode cX2_isOutOfOrder 39 = .ok (.aload_n 0, 1) := by decide +kernel
theorem dX2_isOutOfOrder_40 : decode cX2_isOutOfOrder 40 = .ok (.getfield 9, 3) := by decide +kernel
theorem dX2_isOutOfOrder_43 : decode cX2_isOutOfOrder 43 = .ok (.invokevirtual 90, 3) := by decide +kernel
theorem dX2_isOutOfOrder_46 : decode cX2_isOutOfOrder 46 = .ok (.lload_n 2, 1) := by decide +kernel
theorem dX2_isOutOfOrder_47 : decode cX2_isOutOfOrder 47 = .ok (.invokevirtual 98, 3) := by decide +kernel
theorem dX2_isOutOfOrder_50 : decode cX2_isOutOfOrder 50 = .ok (.goto 4, 3) := by decide +kernel
theorem dX2_isOutOfOrder_53 : decode cX2_isOutOfOrder 53 = .ok (.iconst (-1), 1) := by decide +kernel
theorem dX2_isOutOfOrder_54 : decode cX2_isOutOfOrder 54 = .ok (.istore 7, 2) := by decide +kernel
theorem dX2_isOutOfOrder_56 : decode cX2_isOutOfOrder 56 = .ok (.iload 7, 2) := by decide +kernel
theorem dX2_isOutOfOrder_58 : decode cX2_isOutOfOrder 58 = .ok (.iconst (-1), 1) := by decide +kernel
theorem dX2_isOutOfOrder_59 : decode cX2_isOutOfOrder 59 = .ok (.if_icmp .eq 45, 3) := by decide +kernel
theorem dX2_isOutOfOrder_62 : decode cX2_isOutOfOrder 62 = .ok (.iload 5, 2) := by decide +kernel
theorem dX2_isOutOfOrder_64 : decode cX2_isOutOfOrder 64 = .ok (.iconst (-1), 1) := by decide +kernel
theorem dX2_isOutOfOrder_65 : decode cX2_isOutOfOrder 65 = .ok (.if_icmp .ne 18, 3) := by decide +kernel
theorem dX2_isOutOfOrder_68 : decode cX2_isOutOfOrder 68 = .ok (.iload 7, 2) := by decide +kernel
theorem dX2_isOutOfOrder_70 : decode cX2_isOutOfOrder 70 = .ok (.aload_n 0, 1) := by decide +kernel
theorem dX2_isOutOfOrder_71 : decode cX2_isOutOfOrder 71 = .ok (.getfield 19, 3) := by decide +kernel
theorem dX2_isOutOfOrder_74 : decode cX2_isOutOfOrder 74 = .ok (.getfield 101, 3) := by decide +kernel
theorem dX2_isOutOfOrder_77 : decode cX2_isOutOfOrder 77 = .ok (.if_icmp .le 23, 3) := by decide +kernel
theorem dX2_isOutOfOrder_80 : decode cX2_isOutOfOrder 80 = .ok (.goto 18, 3) := by decide +kernel
theorem dX2_isOutOfOrder_83 : decode cX2_isOutOfOrder 83 = .ok (.iload 7, 2) := by decide +kernel
theorem dX2_isOutOfOrder_85 : decode cX2_isOutOfOrder 85 = .ok (.iload 5, 2) := by decide +kernel
theorem dX2_isOutOfOrder_87 : decode cX2_isOutOfOrder 87 = .ok (.aload_n 0, 1) := by decide +kernel
theorem dX2_isOutOfOrder_88 : decode cX2_isOutOfOrder 88 = .ok (.getfield 19, 3) := by decide +kernel
theorem dX2_isOutOfOrder_91 : decode cX2_isOutOfOrder 91 = .ok (.getfield 104, 3) := by decide +kernel
theorem dX2_isOutOfOrder_94 : decode cX2_isOutOfOrder 94 = .ok (.iadd, 1) := by decide +kernel
theorem dX2_isOutOfOrder_95 : decode cX2_isOutOfOrder 95 = .ok (.if_icmp .ge 5, 3) := by decide +kernel
theorem dX2_isOutOfOrder_98 : decode cX2_isOutOfOrder 98 = .ok (.iconst 1, 1) := by decide +kernel
theorem dX2_isOutOfOrder_99 : decode cX2_isOutOfOrder 99 = .ok (.ireturn, 1) := by decide +kernel
theorem dX2_isOutOfOrder_100 : decode cX2_isOutOfOrder 100 = .ok (.iload 7, 2) := by decide +kernel
theorem dX2_isOutOfOrder_102 : decode cX2_isOutOfOrder 102 = .ok (.istore 5, 2) := by decide +kernel
theorem dX2_isOutOfOrder_104 : decode cX2_isOutOfOrder 104 = .ok (.iinc 6 (-1), 3) := by decide +kernel
theorem dX2_isOutOfOrder_107 : decode cX2_isOutOfOrder 107 = .ok (.goto (-90), 3) := by decide +kernel
theorem dX2_isOutOfOrder_110 : decode cX2_isOutOfOrder 110 = .ok (.iconst 0, 1) := by decide +kernel
theorem dX2_isOutOfOrder_111 : decode cX2_isOutOfOrder 111 = .ok (.ireturn, 1) := by decide +kernel
theorem dX3_init_0 : decode cX3_init 0 = .ok (.aload_n 0, 1) := by decide +kernel
theorem dX3_init_1 : decode cX3_init 1 = .ok (.invokespecial 3, 3) := by decide +kernel
theorem dX3_init_4 : decode cX3_init 4 = .ok (.aload_n 0, 1) := by decide +kernel
theorem dX3_init_5 : decode cX3_init 5 = .ok (.iconst 1, 1) := by decide +kernel
theorem dX3_init_6 : decode cX3_init 6 = .ok (.putfield 9, 3) := by decide +kernel
theorem dX3_init_9 : decode cX3_init 9 = .ok (.aload_n 0, 1) := by decide +kernel
theorem dX3_init_10 : decode cX3_init 10 = .ok (.sipush 1000, 3) := by decide +kernel
theorem dX3_init_13 : decode cX3_init 13 = .ok (.putfield 15, 3) := by decide +kernel
theorem dX3_init_16 : decode cX3_init 16 = .ok (.aload_n 0, 1) := by decide +kernel
theorem dX3_init_17 : decode cX3_init 17 = .ok (.iconst 1, 1) := by decide +kernel
theorem dX3_init_18 : decode cX3_init 18 = .ok (.putfield 18, 3) := by decide +kernel
theorem dX3_init_21 : decode cX3_init 21 = .ok (.aload_n 0, 1) := by decide +kernel
theorem dX3_init_22 : decode cX3_init 22 = .ok (.bipush 30, 2) := by decide +kernel
theorem dX3_init_24 : decode cX3_init 24 = .ok (.newarray .int, 2) := by decide +kernel
theorem dX3_init_26 : decode cX3_init 26 = .ok (.putfield 21, 3) := by decide +kernel
theorem dX3_init_29 : decode cX3_init 29 = .ok (.aload_n 0, 1) := by decide +kernel
theorem dX3_init_30 : decode cX3_init 30 = .ok (.bipush 30, 2) := by decide +kernel
theorem dX3_init_32 : decode cX3_init 32 = .ok (.newarray .int, 2) := by decide +kernel
theorem dX3_init_34 : decode cX3_init 34 = .ok (.putfield 25, 3) := by decide +kernel
theorem dX3_init_37 : decode cX3_init 37 = .ok (.aload_n 0, 1) := by decide +kernel
theorem dX3_init_38 : decode cX3_init 38 = .ok (.bipush 30, 2) := by decide +kernel
theorem dX3_init_40 : decode cX3_init 40 = .ok (.newarray .int, 2) := by decide +kernel
theorem dX3_init_42 : decode cX3_init 42 = .ok (.putfield 28, 3) := by decide +kernel
theorem dX3_init_45 : decode cX3_init 45 = .ok (.aload_n 0, 1) := by decide +kernel
theorem dX3_init_46 : decode cX3_init 46 = .ok (.bipush 30, 2) := by decide +kernel
theorem dX3_init_48 : decode cX3_init 48 = .ok (.newarray .int, 2) := by decide +kernel
theorem dX3_init_50 : decode cX3_init 50 = .ok (.putfield 31, 3) := by decide +kernel
theorem dX3_init_53 : decode cX3_init 53 = .ok (.aload_n 0, 1) := by decide +kernel
theorem dX3_init_54 : decode cX3_init 54 = .ok (.bipush 30, 2) := by decide +kernel
theorem dX3_init_56 : decode cX3_init 56 = .ok (.newarray .int, 2) := by decide +kernel
theorem dX3_init_58 : decode cX3_init 58 = .ok (.putfield 34, 3) := by decide +kernel
theorem dX3_init_61 : decode cX3_init 61 = .ok (.return_, 1) := by decide +kernel
theorem dX3_isKnot_0 : decode cX3_isKnot 0 = .ok (.iload_n 1, 1) := by decide +kernel
theorem dX3_isKnot_1 : decode cX3_isKnot 1 = .ok (.ifCond .lt 15, 3) := by decide +kernel
theorem dX3_isKnot_4 : decode cX3_isKnot 4 = .ok (.iload_n 1, 1) := by decide +kernel
theorem dX3_isKnot_5 : decode cX3_isKnot 5 = .ok (.aload_n 0, 1) := by decide +kernel
theorem dX3_isKnot_6 : decode cX3_isKnot 6 = .ok (.getfield 9, 3) := by decide +kernel
theorem dX3_isKnot_9 : decode cX3_isKnot 9 = .ok (.if_icmp .ge 7, 3) := by decide +kernel
theorem dX3_isKnot_12 : decode cX3_isKnot 12 = .ok (.iconst 1, 1) := by decide +kernel
theorem dX3_isKnot_13 : decode cX3_isKnot 13 = .ok (.goto 4, 3) := by decide +kernel
theorem dX3_isKnot_16 : decode cX3_isKnot 16 = .ok (.iconst 0, 1) := by decide +kernel
theorem dX3_isKnot_17 : decode cX3_isKnot 17 = .ok (.ireturn, 1) := by decide +kernel
theorem dX3_isLine_0 : decode cX3_isLine 0 = .ok (.iload_n 1, 1) := by decide +kernel
theorem dX3_isLine_1 : decode cX3_isLine 1 = .ok (.iconst 1, 1) := by decide +kernel
theorem dX3_isLine_2 : decode cX3_isLine 2 = .ok (.if_icmp .lt 15, 3) := by decide +kernel
theorem dX3_isLine_5 : decode cX3_isLine 5 = .ok (.iload_n 1, 1) := by decide +kernel
theorem dX3_isLine_6 : decode cX3_isLine 6 = .ok (.aload_n 0, 1) := by decide +kernel
theorem dX3_isLine_7 : decode cX3_isLine 7 = .ok (.getfield 9, 3) := by decide +kernel
theorem dX3_isLine_10 : decode cX3_isLine 10 = .ok (.if_icmp .ge 7, 3) := by decide +kernel
theorem dX3_isLine_13 : decode cX3_isLine 13 = .ok (.iconst 1, 1) := by decide +kernel
theorem dX3_isLine_14 : decode cX3_isLine 14 = .ok (.goto 4, 3) := by decide +kernel
theorem dX3_isLine_17 : decode cX3_isLine 17 = .ok (.iconst 0, 1) := by decide +kernel
theorem dX3_isLine_18 : decode cX3_isLine 18 = .ok (.ireturn, 1) := by decide +kernel
theorem dX3_isOnWay_0 : decode cX3_isOnWay 0 = .ok (.aload_n 0, 1) := by decide +kernel
theorem dX3_isOnWay_1 : decode cX3_isOnWay 1 = .ok (.iload_n 1, 1) := by decide +kernel
theorem dX3_isOnWay_2 : decode cX3_isOnWay 2 = .ok (.invokevirtual 37, 3) := by decide +kernel
theorem dX3_isOnWay_5 : decode cX3_isOnWay 5 = .ok (.ifCond .eq 28, 3) := by decide +kernel
theorem dX3_isOnWay_8 : decode cX3_isOnWay 8 = .ok (.aload_n 0, 1) := by decide +kernel
theorem dX3_isOnWay_9 : decode cX3_isOnWay 9 = .ok (.iload_n 2, 1) := by decide +kernel
theorem dX3_isOnWay_10 : decode cX3_isOnWay 10 = .ok (.invokevirtual 37, 3) := by decide +kernel
theorem dX3_isOnWay_13 : decode cX3_isOnWay 13 = .ok (.ifCond .eq 20, 3) := by decide +kernel
theorem dX3_isOnWay_16 : decode cX3_isOnWay 16 = .ok (.aload_n 0, 1) := by decide +kernel
theorem dX3_isOnWay_17 : decode cX3_isOnWay 17 = .ok (.getfield 31, 3) := by decide +kernel
theorem dX3_isOnWay_20 : decode cX3_isOnWay 20 = .ok (.iload_n 2, 1) := by decide +kernel
theorem dX3_isOnWay_21 : decode cX3_isOnWay 21 = .ok (.iaload, 1) := by decide +kernel
theorem dX3_isOnWay_22 : decode cX3_isOnWay 22 = .ok (.iload_n 1, 1) := by decide +kernel
theorem dX3_isOnWay_23 : decode cX3_isOnWay 23 = .ok (.invokestatic 41, 3) := by decide +kernel
theorem dX3_isOnWay_26 : decode cX3_isOnWay 26 = .ok (.ifCond .eq 7, 3) := by decide +kernel
theorem dX3_isOnWay_29 : decode cX3_isOnWay 29 = .ok (.iconst 1, 1) := by decide +kernel
theorem dX3_isOnWay_30 : decode cX3_isOnWay 30 = .ok (.goto 4, 3) := by decide +kernel
theorem dX3_isOnWay_33 : decode cX3_isOnWay 33 = .ok (.iconst 0, 1) := by decide +kernel
theorem dX3_isOnWay_34 : decode cX3_isOnWay 34 = .ok (.ireturn, 1) := by decide +kernel
theorem dX3_isFault_0 : decode cX3_isFault 0 = .ok (.aload_n 0, 1) := by decide +kernel
theorem dX3_isFault_1 : decode cX3_isFault 1 = .ok (.iload_n 1, 1) := by decide +kernel
theorem dX3_isFault_2 : decode cX3_isFault 2 = .ok (.invokevirtual 37, 3) := by decide +kernel
theorem dX3_isFault_5 : decode cX3_isFault 5 = .ok (.ifCond .eq 28, 3) := by decide +kernel
theorem dX3_isFault_8 : decode cX3_isFault 8 = .ok (.iload_n 2, 1) := by decide +kernel
theorem dX3_isFault_9 : decode cX3_isFault 9 = .ok (.iconst 0, 1) := by decide +kernel
theorem dX3_isFault_10 : decode cX3_isFault 10 = .ok (.bipush 16, 2) := by decide +kernel
theorem dX3_isFault_12 : decode cX3_isFault 12 = .ok (.invokestatic 45, 3) := by decide +kernel
theorem dX3_isFault_15 : decode cX3_isFault 15 = .ok (.ifCond .eq 18, 3) := by decide +kernel
theorem dX3_isFault_18 : decode cX3_isFault 18 = .ok (.iload_n 3, 1) := by decide +kernel
theorem dX3_isFault_19 : decode cX3_isFault 19 = .ok (.iconst 0, 1) := by decide +kernel
theorem dX3_isFault_20 : decode cX3_isFault 20 = .ok (.sipush 1000, 3) := by decide +kernel
theorem dX3_isFault_23 : decode cX3_isFault 23 = .ok (.invokestatic 45, 3) := by decide +kernel
theorem dX3_isFault_26 : decode cX3_isFault 26 = .ok (.ifCond .eq 7, 3) := by decide +kernel
theorem dX3_isFault_29 : decode cX3_isFault 29 = .ok (.iconst 1, 1) := by decide +kernel
theorem dX3_isFault_30 : decode cX3_isFault 30 = .ok (.goto 4, 3) := by decide +kernel
theorem dX3_isFault_33 : decode cX3_isFault 33 = .ok (.iconst 0, 1) := by decide +kernel
theorem dX3_isFault_34 : decode cX3_isFault 34 = .ok (.ireturn, 1) := by decide +kernel
theorem dX3_hang_0 : decode cX3_hang 0 = .ok (.aload_n 0, 1) := by decide +kernel
theorem dX3_hang_1 : decode cX3_hang 1 = .ok (.getfield 9, 3) := by decide +kernel
theorem dX3_hang_4 : decode cX3_hang 4 = .ok (.istore_n 3, 1) := by decide +kernel
theorem dX3_hang_5 : decode cX3_hang 5 = .ok (.aload_n 0, 1) := by decide +kernel
theorem dX3_hang_6 : decode cX3_hang 6 = .ok (.getfield 21, 3) := by decide +kernel
theorem dX3_hang_9 : decode cX3_hang 9 = .ok (.iload_n 3, 1) := by decide +kernel
theorem dX3_hang_10 : decode cX3_hang 10 = .ok (.iload_n 1, 1) := by decide +kernel
theorem dX3_hang_11 : decode cX3_hang 11 = .ok (.iastore, 1) := by decide +kernel
theorem dX3_hang_12 : decode cX3_hang 12 = .ok (.aload_n 0, 1) := by decide +kernel
theorem dX3_hang_13 : decode cX3_hang 13 = .ok (.getfield 25, 3) := by decide +kernel
theorem dX3_hang_16 : decode cX3_hang 16 = .ok (.iload_n 3, 1) := by decide +kernel
theorem dX3_hang_17 : decode cX3_hang 17 = .ok (.iload_n 2, 1) := by decide +kernel
theorem dX3_hang_18 : decode cX3_hang 18 = .ok (.iastore, 1) := by decide +kernel
theorem dX3_hang_19 : decode cX3_hang 19 = .ok (.aload_n 0, 1) := by decide +kernel
theorem dX3_hang_20 : decode cX3_hang 20 = .ok (.getfield 28, 3) := by decide +kernel
theorem dX3_hang_23 : decode cX3_hang 23 = .ok (.iload_n 3, 1) := by decide +kernel
theorem dX3_hang_24 : decode cX3_hang 24 = .ok (.aload_n 0, 1) := by decide +kernel
theorem dX3_hang_25 : decode cX3_hang 25 = .ok (.getfield 28, 3) := by decide +kernel
theorem dX3_hang_28 : decode cX3_hang 28 = .ok (.iload_n 1, 1) := by decide +kernel
theorem dX3_hang_29 : decode cX3_hang 29 = .ok (.iaload, 1) := by decide +kernel
theorem dX3_hang_30 : decode cX3_hang 30 = .ok (.aload_n 0, 1) := by decide +kernel
theorem dX3_hang_31 : decode cX3_hang 31 = .ok (.getfield 25, 3) := by decide +kernel
theorem dX3_hang_34 : decode cX3_hang 34 = .ok (.iload_n 1, 1) := by decide +kernel
theorem dX3_hang_35 : decode cX3_hang 35 = .ok (.iaload, 1) := by decide +kernel
theorem dX3_hang_36 : decode cX3_hang 36 = .ok (.iadd, 1) := by decide +kernel
theorem dX3_hang_37 : decode cX3_hang 37 = .ok (.iastore, 1) := by decide +kernel
theorem dX3_hang_38 : decode cX3_hang 38 = .ok (.aload_n 0, 1) := by decide +kernel
theorem dX3_hang_39 : decode cX3_hang 39 = .ok (.getfield 31, 3) := by decide +kernel
theorem dX3_hang_42 : decode cX3_hang 42 = .ok (.iload_n 3, 1) := by decide +kernel
theorem dX3_hang_43 : decode cX3_hang 43 = .ok (.aload_n 0, 1) := by decide +kernel
theorem dX3_hang_44 : decode cX3_hang 44 = .ok (.getfield 31, 3) := by decide +kernel
theorem dX3_hang_47 : decode cX3_hang 47 = .ok (.iload_n 1, 1) := by decide +kernel
theorem dX3_hang_48 : decode cX3_hang 48 = .ok (.iaload, 1) := by decide +kernel
theorem dX3_hang_49 : decode cX3_hang 49 = .ok (.iconst 1, 1) := by decide +kernel
theorem dX3_hang_50 : decode cX3_hang 50 = .ok (.iload_n 3, 1) := by decide +kernel
theorem dX3_hang_51 : decode cX3_hang 51 = .ok (.ishl, 1) := by decide +kernel
theorem dX3_hang_52 : decode cX3_hang 52 = .ok (.ior, 1) := by decide +kernel
theorem dX3_hang_53 : decode cX3_hang 53 = .ok (.iastore, 1) := by decide +kernel
theorem dX3_hang_54 : decode cX3_hang 54 = .ok (.aload_n 0, 1) := by decide +kernel
theorem dX3_hang_55 : decode cX3_hang 55 = .ok (.iload_n 3, 1) := by decide +kernel
theorem dX3_hang_56 : decode cX3_hang 56 = .ok (.iconst 1, 1) := by decide +kernel
theorem dX3_hang_57 : decode cX3_hang 57 = .ok (.iadd, 1) := by decide +kernel
theorem dX3_hang_58 : decode cX3_hang 58 = .ok (.putfield 9, 3) := by decide +kernel
theorem dX3_hang_61 : decode cX3_hang 61 = .ok (.iload_n 3, 1) := by decide +kernel
theorem dX3_hang_62 : decode cX3_hang 62 = .ok (.ireturn, 1) := by decide +kernel
theorem dX3_sumOf_0 : decode cX3_sumOf 0 = .ok (.ldc2_w 49, 3) := by decide +kernel
theorem dX3_sumOf_3 : decode cX3_sumOf 3 = .ok (.aload_n 0, 1) := by decide +kernel
theorem dX3_sumOf_4 : decode cX3_sumOf 4 = .ok (.getfield 18, 3) := by decide +kernel
theorem dX3_sumOf_7 : decode cX3_sumOf 7 = .ok (.aload_n 0, 1) := by decide +kernel
theorem dX3_sumOf_8 : decode cX3_sumOf 8 = .ok (.getfield 28, 3) := by decide +kernel
theorem dX3_sumOf_11 : decode cX3_sumOf 11 = .ok (.iload_n 1, 1) := by decide +kernel
theorem dX3_sumOf_12 : decode cX3_sumOf 12 = .ok (.iaload, 1) := by decide +kernel
theorem dX3_sumOf_13 : decode cX3_sumOf 13 = .ok (.iadd, 1) := by decide +kernel
theorem dX3_sumOf_14 : decode cX3_sumOf 14 = .ok (.iload_n 3, 1) := by decide +kernel
theorem dX3_sumOf_15 : decode cX3_sumOf 15 = .ok (.iadd, 1) := by decide +kernel
theorem dX3_sumOf_16 : decode cX3_sumOf 16 = .ok (.i2l, 1) := by decide +kernel
theorem dX3_sumOf_17 : decode cX3_sumOf 17 = .ok (.lmul, 1) := by decide +kernel
theorem dX3_sumOf_18 : decode cX3_sumOf 18 = .ok (.iload_n 2, 1) := by decide +kernel
theorem dX3_sumOf_19 : decode cX3_sumOf 19 = .ok (.i2l, 1) := by decide +kernel
theorem dX3_sumOf_20 : decode cX3_sumOf 20 = .ok (.aload_n 0, 1) := by decide +kernel
theorem dX3_sumOf_21 : decode cX3_sumOf 21 = .ok (.getfield 25, 3) := by decide +kernel
theorem dX3_sumOf_24 : decode cX3_sumOf 24 = .ok (.iload_n 1, 1) := by decide +kernel
theorem dX3_sumOf_25 : decode cX3_sumOf 25 = .ok (.iaload, 1) := by decide +kernel
theorem dX3_sumOf_26 : decode cX3_sumOf 26 = .ok (.i2l, 1) := by decide +kernel
theorem dX3_sumOf_27 : decode cX3_sumOf 27 = .ok (.lmul, 1) := by decide +kernel
theorem dX3_sumOf_28 : decode cX3_sumOf 28 = .ok (.ladd, 1) := by decide +kernel
theorem dX3_sumOf_29 : decode cX3_sumOf 29 = .ok (.lreturn, 1) := by decide +kernel
theorem dX3_sixteenForces_0 : decode cX3_sixteenForces 0 = .ok (.ldc2_w 49, 3) := by decide +kernel
theorem dX3_sixteenForces_3 : decode cX3_sixteenForces 3 = .ok (.aload_n 0, 1) := by decide +kernel
theorem dX3_sixteenForces_4 : decode cX3_sixteenForces 4 = .ok (.getfield 15, 3) := by decide +kernel
theorem dX3_sixteenForces_7 : decode cX3_sixteenForces 7 = .ok (.i2l, 1) := by decide +kernel
theorem dX3_sixteenForces_8 : decode cX3_sixteenForces 8 = .ok (.lmul, 1) := by decide +kernel
theorem dX3_sixteenForces_9 : decode cX3_sixteenForces 9 = .ok (.lreturn, 1) := by decide +kernel
theorem dX3_currentByLoads_0 : decode cX3_currentByLoads 0 = .ok (.iconst 0, 1) := by decide +kernel
theorem dX3_currentByLoads_1 : decode cX3_currentByLoads 1 = .ok (.istore_n 2, 1) := by decide +kernel
theorem dX3_currentByLoads_2 : decode cX3_currentByLoads 2 = .ok (.iload_n 1, 1) := by decide +kernel
theorem dX3_currentByLoads_3 : decode cX3_currentByLoads 3 = .ok (.istore_n 3, 1) := by decide +kernel
theorem dX3_currentByLoads_4 : decode cX3_currentByLoads 4 = .ok (.iload_n 3, 1) := by decide +kernel
theorem dX3_currentByLoads_5 : decode cX3_currentByLoads 5 = .ok (.aload_n 0, 1) := by decide +kernel
theorem dX3_currentByLoads_6 : decode cX3_currentByLoads 6 = .ok (.getfield 9, 3) := by decide +kernel
theorem dX3_currentByLoads_9 : decode cX3_currentByLoads 9 = .ok (.if_icmp .ge 31, 3) := by decide +kernel
theorem dX3_currentByLoads_12 : decode cX3_currentByLoads 12 = .ok (.aload_n 0, 1) := by decide +kernel
theorem dX3_currentByLoads_13 : decode cX3_currentByLoads 13 = .ok (.getfield 31, 3) := by decide +kernel
theorem dX3_currentByLoads_16 : decode cX3_currentByLoads 16 = .ok (.iload_n 3, 1) := by decide +kernel
theorem dX3_currentByLoads_17 : decode cX3_currentByLoads 17 = .ok (.iaload, 1) := by decide +kernel
theorem dX3_currentByLoads_18 : decode cX3_currentByLoads 18 = .ok (.iload_n 1, 1) := by decide +kernel
theorem dX3_currentByLoads_19 : decode cX3_currentByLoads 19 = .ok (.invokestatic 41, 3) := by decide +kernel
theorem dX3_currentByLoads_22 : decode cX3_currentByLoads 22 = .ok (.ifCond .eq 12, 3) := by decide +kernel
theorem dX3_currentByLoads_25 : decode cX3_currentByLoads 25 = .ok (.iload_n 2, 1) := by decide +kernel
theorem dX3_currentByLoads_26 : decode cX3_currentByLoads 26 = .ok (.aload_n 0, 1) := by decide +kernel
theorem dX3_currentByLoads_27 : decode cX3_currentByLoads 27 = .ok (.getfield 34, 3) := by decide +kernel
theorem dX3_currentByLoads_30 : decode cX3_currentByLoads 30 = .ok (.iload_n 3, 1) := by decide +kernel
theorem dX3_currentByLoads_31 : decode cX3_currentByLoads 31 = .ok (.iaload, 1) := by decide +kernel
theorem dX3_currentByLoads_32 : decode cX3_currentByLoads 32 = .ok (.iadd, 1) := by decide +kernel
theorem dX3_currentByLoads_33 : decode cX3_currentByLoads 33 = .ok (.istore_n 2, 1) := by decide +kernel
theorem dX3_currentByLoads_34 : decode cX3_currentByLoads 34 = .ok (.iinc 3 1, 3) := by decide +kernel
theorem dX3_currentByLoads_37 : decode cX3_currentByLoads 37 = .ok (.goto (-33), 3) := by decide +kernel
theorem dX3_currentByLoads_40 : decode cX3_currentByLoads 40 = .ok (.iload_n 2, 1) := by decide +kernel
theorem dX3_currentByLoads_41 : decode cX3_currentByLoads 41 = .ok (.ireturn, 1) := by decide +kernel
theorem dX4_init_0 : decode cX4_init 0 = .ok (.aload_n 0, 1) := by decide +kernel
theorem dX4_init_1 : decode cX4_init 1 = .ok (.invokespecial 3, 3) := by decide +kernel
theorem dX4_init_4 : decode cX4_init 4 = .ok (.aload_n 0, 1) := by decide +kernel
theorem dX4_init_5 : decode cX4_init 5 = .ok (.bipush 10, 2) := by decide +kernel
theorem dX4_init_7 : decode cX4_init 7 = .ok (.newarray .int, 2) := by decide +kernel
theorem dX4_init_9 : decode cX4_init 9 = .ok (.putfield 9, 3) := by decide +kernel
theorem dX4_init_12 : decode cX4_init 12 = .ok (.aload_n 0, 1) := by decide +kernel
theorem dX4_init_13 : decode cX4_init 13 = .ok (.bipush 10, 2) := by decide +kernel
theorem dX4_init_15 : decode cX4_init 15 = .ok (.newarray .int, 2) := by decide +kernel
theorem dX4_init_17 : decode cX4_init 17 = .ok (.putfield 15, 3) := by decide +kernel
theorem dX4_init_20 : decode cX4_init 20 = .ok (.aload_n 0, 1) := by decide +kernel
theorem dX4_init_21 : decode cX4_init 21 = .ok (.bipush 10, 2) := by decide +kernel
theorem dX4_init_23 : decode cX4_init 23 = .ok (.newarray .int, 2) := by decide +kernel
theorem dX4_init_25 : decode cX4_init 25 = .ok (.putfield 18, 3) := by decide +kernel
theorem dX4_init_28 : decode cX4_init 28 = .ok (.aload_n 0, 1) := by decide +kernel
theorem dX4_init_29 : decode cX4_init 29 = .ok (.bipush 30, 2) := by decide +kernel
theorem dX4_init_31 : decode cX4_init 31 = .ok (.newarray .int, 2) := by decide +kernel
theorem dX4_init_33 : decode cX4_init 33 = .ok (.putfield 21, 3) := by decide +kernel
theorem dX4_init_36 : decode cX4_init 36 = .ok (.aload_n 0, 1) := by decide +kernel
theorem dX4_init_37 : decode cX4_init 37 = .ok (.aload_n 1, 1) := by decide +kernel
theorem dX4_init_38 : decode cX4_init 38 = .ok (.putfield 24, 3) := by decide +kernel
theorem dX4_init_41 : decode cX4_init 41 = .ok (.aload_n 0, 1) := by decide +kernel
theorem dX4_init_42 : decode cX4_init 42 = .ok (.aload_n 2, 1) := by decide +kernel
theorem dX4_init_43 : decode cX4_init 43 = .ok (.putfield 28, 3) := by decide +kernel
theorem dX4_init_46 : decode cX4_init 46 = .ok (.return_, 1) := by decide +kernel
theorem dX4_gatherLines_0 : decode cX4_gatherLines 0 = .ok (.aload_n 0, 1) := by decide +kernel
theorem dX4_gatherLines_1 : decode cX4_gatherLines 1 = .ok (.iconst 0, 1) := by decide +kernel
theorem dX4_gatherLines_2 : decode cX4_gatherLines 2 = .ok (.putfield 32, 3) := by decide +kernel
theorem dX4_gatherLines_5 : decode cX4_gatherLines 5 = .ok (.iconst 1, 1) := by decide +kernel
theorem dX4_gatherLines_6 : decode cX4_gatherLines 6 = .ok (.istore_n 1, 1) := by decide +kernel
theorem dX4_gatherLines_7 : decode cX4_gatherLines 7 = .ok (.iload_n 1, 1) := by decide +kernel
theorem dX4_gatherLines_8 : decode cX4_gatherLines 8 = .ok (.bipush 30, 2) := by decide +kernel
theorem dX4_gatherLines_10 : decode cX4_gatherLines 10 = .ok (.if_icmp .ge 74, 3) := by decide +kernel
theorem dX4_gatherLines_13 : decode cX4_gatherLines 13 = .ok (.aload_n 0, 1) := by decide +kernel
theorem dX4_gatherLines_14 : decode cX4_gatherLines 14 = .ok (.getfield 24, 3) := by decide +kernel
theorem dX4_gatherLines_17 : decode cX4_gatherLines 17 = .ok (.getfield 36, 3) := by decide +kernel
theorem dX4_gatherLines_20 : decode cX4_gatherLines 20 = .ok (.iload_n 1, 1) := by decide +kernel
theorem dX4_gatherLines_21 : decode cX4_gatherLines 21 = .ok (.iaload, 1) := by decide +kernel
theorem dX4_gatherLines_22 : decode cX4_gatherLines 22 = .ok (.iconst (-1), 1) := by decide +kernel
theorem dX4_gatherLines_23 : decode cX4_gatherLines 23 = .ok (.if_icmp .eq 55, 3) := by decide +kernel
theorem dX4_gatherLines_26 : decode cX4_gatherLines 26 = .ok (.aload_n 0, 1) := by decide +kernel
theorem dX4_gatherLines_27 : decode cX4_gatherLines 27 = .ok (.getfield 24, 3) := by decide +kernel
theorem dX4_gatherLines_30 : decode cX4_gatherLines 30 = .ok (.getfield 36, 3) := by decide +kernel
theorem dX4_gatherLines_33 : decode cX4_gatherLines 33 = .ok (.iload_n 1, 1) := by decide +kernel
theorem dX4_gatherLines_34 : decode cX4_gatherLines 34 = .ok (.iaload, 1) := by decide +kernel
theorem dX4_gatherLines_35 : decode cX4_gatherLines 35 = .ok (.aload_n 0, 1) := by decide +kernel
theorem dX4_gatherLines_36 : decode cX4_gatherLines 36 = .ok (.getfield 24, 3) := by decide +kernel
theorem dX4_gatherLines_39 : decode cX4_gatherLines 39 = .ok (.getfield 41, 3) := by decide +kernel
theorem dX4_gatherLines_42 : decode cX4_gatherLines 42 = .ok (.iload_n 1, 1) := by decide +kernel
theorem dX4_gatherLines_43 : decode cX4_gatherLines 43 = .ok (.iaload, 1) := by decide +kernel
theorem dX4_gatherLines_44 : decode cX4_gatherLines 44 = .ok (.if_icmp .eq 34, 3) := by decide +kernel
theorem dX4_gatherLines_47 : decode cX4_gatherLines 47 = .ok (.aload_n 0, 1) := by decide +kernel
theorem dX4_gatherLines_48 : decode cX4_gatherLines 48 = .ok (.getfield 32, 3) := by decide +kernel
theorem dX4_gatherLines_51 : decode cX4_gatherLines 51 = .ok (.bipush 10, 2) := by decide +kernel
theorem dX4_gatherLines_53 : decode cX4_gatherLines 53 = .ok (.if_icmp .lt 5, 3) := by decide +kernel
theorem dX4_gatherLines_56 : decode cX4_gatherLines 56 = .ok (.iconst 0, 1) := by decide +kernel
theorem dX4_gatherLines_57 : decode cX4_gatherLines 57 = .ok (.ireturn, 1) := by decide +kernel
theorem dX4_gatherLines_58 : decode cX4_gatherLines 58 = .ok (.aload_n 0, 1) := by decide +kernel
theorem dX4_gatherLines_59 : decode cX4_gatherLines 59 = .ok (.getfield 15, 3) := by decide +kernel
theorem dX4_gatherLines_62 : decode cX4_gatherLines 62 = .ok (.aload_n 0, 1) := by decide +kernel
theorem dX4_gatherLines_63 : decode cX4_gatherLines 63 = .ok (.getfield 32, 3) := by decide +kernel
theorem dX4_gatherLines_66 : decode cX4_gatherLines 66 = .ok (.iload_n 1, 1) := by decide +kernel
theorem dX4_gatherLines_67 : decode cX4_gatherLines 67 = .ok (.iastore, 1) := by decide +kernel
theorem dX4_gatherLines_68 : decode cX4_gatherLines 68 = .ok (.aload_n 0, 1) := by decide +kernel
theorem dX4_gatherLines_69 : decode cX4_gatherLines 69 = .ok (.dup, 1) := by decide +kernel
theorem dX4_gatherLines_70 : decode cX4_gatherLines 70 = .ok (.getfield 32, 3) := by decide +kernel
theorem dX4_gatherLines_73 : decode cX4_gatherLines 73 = .ok (.iconst 1, 1) := by decide +kernel
theorem dX4_gatherLines_74 : decode cX4_gatherLines 74 = .ok (.iadd, 1) := by decide +kernel
theorem dX4_gatherLines_75 : decode cX4_gatherLines 75 = .ok (.putfield 32, 3) := by decide +kernel
theorem dX4_gatherLines_78 : decode cX4_gatherLines 78 = .ok (.iinc 1 1, 3) := by decide +kernel
theorem dX4_gatherLines_81 : decode cX4_gatherLines 81 = .ok (.goto (-74), 3) := by decide +kernel
theorem dX4_gatherLines_84 : decode cX4_gatherLines 84 = .ok (.iconst 1, 1) := by decide +kernel
theorem dX4_gatherLines_85 : decode cX4_gatherLines 85 = .ok (.ireturn, 1) := by decide +kernel
theorem dX4_find_0 : decode cX4_find 0 = .ok (.aload_n 0, 1) := by decide +kernel
theorem dX4_find_1 : decode cX4_find 1 = .ok (.getfield 24, 3) := by decide +kernel
theorem dX4_find_4 : decode cX4_find 4 = .ok (.getfield 41, 3) := by decide +kernel
theorem dX4_find_7 : decode cX4_find 7 = .ok (.iconst 0, 1) := by decide +kernel
theorem dX4_find_8 : decode cX4_find 8 = .ok (.aload_n 0, 1) := by decide +kernel
theorem dX4_find_9 : decode cX4_find 9 = .ok (.getfield 21, 3) := by decide +kernel
theorem dX4_find_12 : decode cX4_find 12 = .ok (.iconst 0, 1) := by decide +kernel
theorem dX4_find_13 : decode cX4_find 13 = .ok (.bipush 30, 2) := by decide +kernel
theorem dX4_find_15 : decode cX4_find 15 = .ok (.invokestatic 42, 3) := by decide +kernel
theorem dX4_find_18 : decode cX4_find 18 = .ok (.iconst 0, 1) := by decide +kernel
theorem dX4_find_19 : decode cX4_find 19 = .ok (.istore_n 1, 1) := by decide +kernel
theorem dX4_find_20 : decode cX4_find 20 = .ok (.iconst 0, 1) := by decide +kernel
theorem dX4_find_21 : decode cX4_find 21 = .ok (.istore_n 2, 1) := by decide +kernel
theorem dX4_find_22 : decode cX4_find 22 = .ok (.iload_n 2, 1) := by decide +kernel
theorem dX4_find_23 : decode cX4_find 23 = .ok (.aload_n 0, 1) := by decide +kernel
theorem dX4_find_24 : decode cX4_find 24 = .ok (.getfield 32, 3) := by decide +kernel
theorem dX4_find_27 : decode cX4_find 27 = .ok (.if_icmp .ge 46, 3) := by decide +kernel
theorem dX4_find_30 : decode cX4_find 30 = .ok (.iload_n 2, 1) := by decide +kernel
theorem dX4_find_31 : decode cX4_find 31 = .ok (.bipush 10, 2) := by decide +kernel
theorem dX4_find_33 : decode cX4_find 33 = .ok (.if_icmp .ge 40, 3) := by decide +kernel
theorem dX4_find_36 : decode cX4_find 36 = .ok (.aload_n 0, 1) := by decide +kernel
theorem dX4_find_37 : decode cX4_find 37 = .ok (.iload_n 1, 1) := by decide +kernel
theorem dX4_find_38 : decode cX4_find 38 = .ok (.invokevirtual 48, 3) := by decide +kernel
theorem dX4_find_41 : decode cX4_find 41 = .ok (.istore_n 3, 1) := by decide +kernel
theorem dX4_find_42 : decode cX4_find 42 = .ok (.iload_n 3, 1) := by decide +kernel
theorem dX4_find_43 : decode cX4_find 43 = .ok (.iconst (-1), 1) := by decide +kernel
theorem dX4_find_44 : decode cX4_find 44 = .ok (.if_icmp .ne 5, 3) := by decide +kernel
theorem dX4_find_47 : decode cX4_find 47 = .ok (.iconst (-1), 1) := by decide +kernel
theorem dX4_find_48 : decode cX4_find 48 = .ok (.ireturn, 1) := by decide +kernel
theorem dX4_find_49 : decode cX4_find 49 = .ok (.iload_n 1, 1) := by decide +kernel
theorem dX4_find_50 : decode cX4_find 50 = .ok (.iconst 1, 1) := by decide +kernel
theorem dX4_find_51 : decode cX4_find 51 = .ok (.iload_n 3, 1) := by decide +kernel
theorem dX4_find_52 : decode cX4_find 52 = .ok (.ishl, 1) := by decide +kernel
theorem dX4_find_53 : decode cX4_find 53 = .ok (.ior, 1) := by decide +kernel
theorem dX4_find_54 : decode cX4_find 54 = .ok (.istore_n 1, 1) := by decide +kernel
theorem dX4_find_55 : decode cX4_find 55 = .ok (.aload_n 0, 1) := by decide +kernel
theorem dX4_find_56 : decode cX4_find 56 = .ok (.getfield 18, 3) := by decide +kernel
theorem dX4_find_59 : decode cX4_find 59 = .ok (.iload_n 2, 1) := by decide +kernel
theorem dX4_find_60 : decode cX4_find 60 = .ok (.aload_n 0, 1) := by decide +kernel
theorem dX4_find_61 : decode cX4_find 61 = .ok (.getfield 15, 3) := by decide +kernel
theorem dX4_find_64 : decode cX4_find 64 = .ok (.iload_n 3, 1) := by decide +kernel
theorem dX4_find_65 : decode cX4_find 65 = .ok (.iaload, 1) := by decide +kernel
theorem dX4_find_66 : decode cX4_find 66 = .ok (.iastore, 1) := by decide +kernel
theorem dX4_find_67 : decode cX4_find 67 = .ok (.iinc 2 1, 3) := by decide +kernel
theorem dX4_find_70 : decode cX4_find 70 = .ok (.goto (-48), 3) := by decide +kernel
theorem dX4_find_73 : decode cX4_find 73 = .ok (.aload_n 0, 1) := by decide +kernel
theorem dX4_find_74 : decode cX4_find 74 = .ok (.getfield 18, 3) := by decide +kernel
theorem dX4_find_77 : decode cX4_find 77 = .ok (.iconst 0, 1) := by decide +kernel
theorem dX4_find_78 : decode cX4_find 78 = .ok (.aload_n 0, 1) := by decide +kernel
theorem dX4_find_79 : decode cX4_find 79 = .ok (.getfield 9, 3) := by decide +kernel
theorem dX4_find_82 : decode cX4_find 82 = .ok (.iconst 0, 1) := by decide +kernel
theorem dX4_find_83 : decode cX4_find 83 = .ok (.bipush 10, 2) := by decide +kernel
theorem dX4_find_85 : decode cX4_find 85 = .ok (.invokestatic 42, 3) := by decide +kernel
theorem dX4_find_88 : decode cX4_find 88 = .ok (.aload_n 0, 1) := by decide +kernel
theorem dX4_find_89 : decode cX4_find 89 = .ok (.aload_n 0, 1) := by decide +kernel
theorem dX4_find_90 : decode cX4_find 90 = .ok (.getfield 32, 3) := by decide +kernel
theorem dX4_find_93 : decode cX4_find 93 = .ok (.putfield 52, 3) := by decide +kernel
theorem dX4_find_96 : decode cX4_find 96 = .ok (.aload_n 0, 1) := by decide +kernel
theorem dX4_find_97 : decode cX4_find 97 = .ok (.getfield 52, 3) := by decide +kernel
theorem dX4_find_100 : decode cX4_find 100 = .ok (.ireturn, 1) := by decide +kernel
theorem dX4_lowestThatCanGo_0 : decode cX4_lowestThatCanGo 0 = .ok (.iconst 0, 1) := by decide +kernel
theorem dX4_lowestThatCanGo_1 : decode cX4_lowestThatCanGo 1 = .ok (.istore_n 2, 1) := by decide +kernel
theorem dX4_lowestThatCanGo_2 : decode cX4_lowestThatCanGo 2 = .ok (.iload_n 2, 1) := by decide +kernel
theorem dX4_lowestThatCanGo_3 : decode cX4_lowestThatCanGo 3 = .ok (.aload_n 0, 1) := by decide +kernel
theorem dX4_lowestThatCanGo_4 : decode cX4_lowestThatCanGo 4 = .ok (.getfield 32, 3) := by decide +kernel
theorem dX4_lowestThatCanGo_7 : decode cX4_lowestThatCanGo 7 = .ok (.if_icmp .ge 71, 3) := by decide +kernel
theorem dX4_lowestThatCanGo_10 : decode cX4_lowestThatCanGo 10 = .ok (.iload_n 1, 1) := by decide +kernel
theorem dX4_lowestThatCanGo_11 : decode cX4_lowestThatCanGo 11 = .ok (.iload_n 2, 1) := by decide +kernel
theorem dX4_lowestThatCanGo_12 : decode cX4_lowestThatCanGo 12 = .ok (.invokestatic 55, 3) := by decide +kernel
theorem dX4_lowestThatCanGo_15 : decode cX4_lowestThatCanGo 15 = .ok (.ifCond .ne 57, 3) := by decide +kernel
theorem dX4_lowestThatCanGo_18 : decode cX4_lowestThatCanGo 18 = .ok (.aload_n 0, 1) := by decide +kernel
theorem dX4_lowestThatCanGo_19 : decode cX4_lowestThatCanGo 19 = .ok (.getfield 15, 3) := by decide +kernel
theorem dX4_lowestThatCanGo_22 : decode cX4_lowestThatCanGo 22 = .ok (.iload_n 2, 1) := by decide +kernel
theorem dX4_lowestThatCanGo_23 : decode cX4_lowestThatCanGo 23 = .ok (.iaload, 1) := by decide +kernel
theorem dX4_lowestThatCanGo_24 : decode cX4_lowestThatCanGo 24 = .ok (.istore_n 3, 1) := by decide +kernel
theorem dX4_lowestThatCanGo_25 : decode cX4_lowestThatCanGo 25 = .ok (.aload_n 0, 1) := by decide +kernel
theorem dX4_lowestThatCanGo_26 : decode cX4_lowestThatCanGo 26 = .ok (.getfield 21, 3) := by decide +kernel
theorem dX4_lowestThatCanGo_29 : decode cX4_lowestThatCanGo 29 = .ok (.iload_n 3, 1) := by decide +kernel
theorem dX4_lowestThatCanGo_30 : decode cX4_lowestThatCanGo 30 = .ok (.aload_n 0, 1) := by decide +kernel
theorem dX4_lowestThatCanGo_31 : decode cX4_lowestThatCanGo 31 = .ok (.getfield 24, 3) := by decide +kernel
theorem dX4_lowestThatCanGo_34 : decode cX4_lowestThatCanGo 34 = .ok (.getfield 36, 3) := by decide +kernel
theorem dX4_lowestThatCanGo_37 : decode cX4_lowestThatCanGo 37 = .ok (.iload_n 3, 1) := by decide +kernel
theorem dX4_lowestThatCanGo_38 : decode cX4_lowestThatCanGo 38 = .ok (.iaload, 1) := by decide +kernel
theorem dX4_lowestThatCanGo_39 : decode cX4_lowestThatCanGo 39 = .ok (.iastore, 1) := by decide +kernel
theorem dX4_lowestThatCanGo_40 : decode cX4_lowestThatCanGo 40 = .ok (.aload_n 0, 1) := by decide +kernel
theorem dX4_lowestThatCanGo_41 : decode cX4_lowestThatCanGo 41 = .ok (.getfield 28, 3) := by decide +kernel
theorem dX4_lowestThatCanGo_44 : decode cX4_lowestThatCanGo 44 = .ok (.iload_n 3, 1) := by decide +kernel
theorem dX4_lowestThatCanGo_45 : decode cX4_lowestThatCanGo 45 = .ok (.aload_n 0, 1) := by decide +kernel
theorem dX4_lowestThatCanGo_46 : decode cX4_lowestThatCanGo 46 = .ok (.getfield 21, 3) := by decide +kernel
theorem dX4_lowestThatCanGo_49 : decode cX4_lowestThatCanGo 49 = .ok (.invokevirtual 59, 3) := by decide +kernel
theorem dX4_lowestThatCanGo_52 : decode cX4_lowestThatCanGo 52 = .ok (.ifCond .eq 5, 3) := by decide +kernel
theorem dX4_lowestThatCanGo_55 : decode cX4_lowestThatCanGo 55 = .ok (.iload_n 2, 1) := by decide +kernel
theorem dX4_lowestThatCanGo_56 : decode cX4_lowestThatCanGo 56 = .ok (.ireturn, 1) := by decide +kernel
theorem dX4_lowestThatCanGo_57 : decode cX4_lowestThatCanGo 57 = .ok (.aload_n 0, 1) := by decide +kernel
theorem dX4_lowestThatCanGo_58 : decode cX4_lowestThatCanGo 58 = .ok (.getfield 21, 3) := by decide +kernel
theorem dX4_lowestThatCanGo_61 : decode cX4_lowestThatCanGo 61 = .ok (.iload_n 3, 1) := by decide +kernel
theorem dX4_lowestThatCanGo_62 : decode cX4_lowestThatCanGo 62 = .ok (.aload_n 0, 1) := by decide +kernel
theorem dX4_lowestThatCanGo_63 : decode cX4_lowestThatCanGo 63 = .ok (.getfield 24, 3) := by decide +kernel
theorem dX4_lowestThatCanGo_66 : decode cX4_lowestThatCanGo 66 = .ok (.getfield 41, 3) := by decide +kernel
theorem dX4_lowestThatCanGo_69 : decode cX4_lowestThatCanGo 69 = .ok (.iload_n 3, 1) := by decide +kernel
theorem dX4_lowestThatCanGo_70 : decode cX4_lowestThatCanGo 70 = .ok (.iaload, 1) := by decide +kernel
theorem dX4_lowestThatCanGo_71 : decode cX4_lowestThatCanGo 71 = .ok (.iastore, 1) := by decide +kernel
theorem dX4_lowestThatCanGo_72 : decode cX4_lowestThatCanGo 72 = .ok (.iinc 2 1, 3) := by decide +kernel
theorem dX4_lowestThatCanGo_75 : decode cX4_lowestThatCanGo 75 = .ok (.goto (-73), 3) := by decide +kernel
theorem dX4_lowestThatCanGo_78 : decode cX4_lowestThatCanGo 78 = .ok (.iconst (-1), 1) := by decide +kernel
theorem dX4_lowestThatCanGo_79 : decode cX4_lowestThatCanGo 79 = .ok (.ireturn, 1) := by decide +kernel
theorem dX5_init_0 : decode cX5_init 0 = .ok (.aload_n 0, 1) := by decide +kernel
theorem dX5_init_1 : decode cX5_init 1 = .ok (.invokespecial 3, 3) := by decide +kernel
theorem dX5_init_4 : decode cX5_init 4 = .ok (.aload_n 0, 1) := by decide +kernel
theorem dX5_init_5 : decode cX5_init 5 = .ok (.bipush 8, 2) := by decide +kernel
theorem dX5_init_7 : decode cX5_init 7 = .ok (.anewarray 9, 3) := by decide +kernel
theorem dX5_init_10 : decode cX5_init 10 = .ok (.putfield 11, 3) := by decide +kernel
theorem dX5_init_13 : decode cX5_init 13 = .ok (.aload_n 0, 1) := by decide +kernel
theorem dX5_init_14 : decode cX5_init 14 = .ok (.bipush 30, 2) := by decide +kernel
theorem dX5_init_16 : decode cX5_init 16 = .ok (.newarray .int, 2) := by decide +kernel
theorem dX5_init_18 : decode cX5_init 18 = .ok (.putfield 17, 3) := by decide +kernel
theorem dX5_init_21 : decode cX5_init 21 = .ok (.aload_n 0, 1) := by decide +kernel
theorem dX5_init_22 : decode cX5_init 22 = .ok (.bipush 30, 2) := by decide +kernel
theorem dX5_init_24 : decode cX5_init 24 = .ok (.newarray .int, 2) := by decide +kernel
theorem dX5_init_26 : decode cX5_init 26 = .ok (.putfield 21, 3) := by decide +kernel
theorem dX5_init_29 : decode cX5_init 29 = .ok (.aload_n 0, 1) := by decide +kernel
theorem dX5_init_30 : decode cX5_init 30 = .ok (.bipush 30, 2) := by decide +kernel
theorem dX5_init_32 : decode cX5_init 32 = .ok (.newarray .int, 2) := by decide +kernel
theorem dX5_init_34 : decode cX5_init 34 = .ok (.putfield 24, 3) := by decide +kernel
theorem dX5_init_37 : decode cX5_init 37 = .ok (.aload_n 0, 1) := by decide +kernel
theorem dX5_init_38 : decode cX5_init 38 = .ok (.bipush 30, 2) := by decide +kernel
theorem dX5_init_40 : decode cX5_init 40 = .ok (.newarray .int, 2) := by decide +kernel
theorem dX5_init_42 : decode cX5_init 42 = .ok (.putfield 27, 3) := by decide +kernel
theorem dX5_init_45 : decode cX5_init 45 = .ok (.iconst 0, 1) := by decide +kernel
theorem dX5_init_46 : decode cX5_init 46 = .ok (.istore_n 1, 1) := by decide +kernel
theorem dX5_init_47 : decode cX5_init 47 = .ok (.iload_n 1, 1) := by decide +kernel
theorem dX5_init_48 : decode cX5_init 48 = .ok (.bipush 8, 2) := by decide +kernel
theorem dX5_init_50 : decode cX5_init 50 = .ok (.if_icmp .ge 22, 3) := by decide +kernel
theorem dX5_init_53 : decode cX5_init 53 = .ok (.aload_n 0, 1) := by decide +kernel
theorem dX5_init_54 : decode cX5_init 54 = .ok (.getfield 11, 3) := by decide +kernel
theorem dX5_init_57 : decode cX5_init 57 = .ok (.iload_n 1, 1) := by decide +kernel
theorem dX5_init_58 : decode cX5_init 58 = .ok (.new 9, 3) := by decide +kernel
theorem dX5_init_61 : decode cX5_init 61 = .ok (.dup, 1) := by decide +kernel
theorem dX5_init_62 : decode cX5_init 62 = .ok (.invokespecial 30, 3) := by decide +kernel
theorem dX5_init_65 : decode cX5_init 65 = .ok (.aastore, 1) := by decide +kernel
theorem dX5_init_66 : decode cX5_init 66 = .ok (.iinc 1 1, 3) := by decide +kernel
theorem dX5_init_69 : decode cX5_init 69 = .ok (.goto (-22), 3) := by decide +kernel
theorem dX5_init_72 : decode cX5_init 72 = .ok (.iconst 0, 1) := by decide +kernel
theorem dX5_init_73 : decode cX5_init 73 = .ok (.istore_n 1, 1) := by decide +kernel
theorem dX5_init_74 : decode cX5_init 74 = .ok (.iload_n 1, 1) := by decide +kernel
theorem dX5_init_75 : decode cX5_init 75 = .ok (.bipush 30, 2) := by decide +kernel
theorem dX5_init_77 : decode cX5_init 77 = .ok (.if_icmp .ge 16, 3) := by decide +kernel
theorem dX5_init_80 : decode cX5_init 80 = .ok (.aload_n 0, 1) := by decide +kernel
theorem dX5_init_81 : decode cX5_init 81 = .ok (.getfield 27, 3) := by decide +kernel
theorem dX5_init_84 : decode cX5_init 84 = .ok (.iload_n 1, 1) := by decide +kernel
theorem dX5_init_85 : decode cX5_init 85 = .ok (.iconst (-1), 1) := by decide +kernel
theorem dX5_init_86 : decode cX5_init 86 = .ok (.iastore, 1) := by decide +kernel
theorem dX5_init_87 : decode cX5_init 87 = .ok (.iinc 1 1, 3) := by decide +kernel
theorem dX5_init_90 : decode cX5_init 90 = .ok (.goto (-16), 3) := by decide +kernel
theorem dX5_init_93 : decode cX5_init 93 = .ok (.return_, 1) := by decide +kernel
theorem dX5_isThere_0 : decode cX5_isThere 0 = .ok (.aload_n 0, 1) := by decide +kernel
theorem dX5_isThere_1 : decode cX5_isThere 1 = .ok (.getfield 31, 3) := by decide +kernel
theorem dX5_isThere_4 : decode cX5_isThere 4 = .ok (.iload_n 1, 1) := by decide +kernel
theorem dX5_isThere_5 : decode cX5_isThere 5 = .ok (.invokestatic 35, 3) := by decide +kernel
theorem dX5_isThere_8 : decode cX5_isThere 8 = .ok (.ireturn, 1) := by decide +kernel
theorem dX5_place_0 : decode cX5_place 0 = .ok (.aload_n 0, 1) := by decide +kernel
theorem dX5_place_1 : decode cX5_place 1 = .ok (.dup, 1) := by decide +kernel
theorem dX5_place_2 : decode cX5_place 2 = .ok (.getfield 31, 3) := by decide +kernel
theorem dX5_place_5 : decode cX5_place 5 = .ok (.iconst 1, 1) := by decide +kernel
theorem dX5_place_6 : decode cX5_place 6 = .ok (.iload_n 1, 1) := by decide +kernel
theorem dX5_place_7 : decode cX5_place 7 = .ok (.ishl, 1) := by decide +kernel
theorem dX5_place_8 : decode cX5_place 8 = .ok (.ior, 1) := by decide +kernel
theorem dX5_place_9 : decode cX5_place 9 = .ok (.putfield 31, 3) := by decide +kernel
theorem dX5_place_12 : decode cX5_place 12 = .ok (.aload_n 0, 1) := by decide +kernel
theorem dX5_place_13 : decode cX5_place 13 = .ok (.dup, 1) := by decide +kernel
theorem dX5_place_14 : decode cX5_place 14 = .ok (.getfield 39, 3) := by decide +kernel
theorem dX5_place_17 : decode cX5_place 17 = .ok (.iconst 1, 1) := by decide +kernel
theorem dX5_place_18 : decode cX5_place 18 = .ok (.iload_n 1, 1) := by decide +kernel
theorem dX5_place_19 : decode cX5_place 19 = .ok (.ishl, 1) := by decide +kernel
theorem dX5_place_20 : decode cX5_place 20 = .ok (.iconst (-1), 1) := by decide +kernel
theorem dX5_place_21 : decode cX5_place 21 = .ok (.ixor, 1) := by decide +kernel
theorem dX5_place_22 : decode cX5_place 22 = .ok (.iand, 1) := by decide +kernel
theorem dX5_place_23 : decode cX5_place 23 = .ok (.putfield 39, 3) := by decide +kernel
theorem dX5_place_26 : decode cX5_place 26 = .ok (.aload_n 0, 1) := by decide +kernel
theorem dX5_place_27 : decode cX5_place 27 = .ok (.getfield 17, 3) := by decide +kernel
theorem dX5_place_30 : decode cX5_place 30 = .ok (.iload_n 1, 1) := by decide +kernel
theorem dX5_place_31 : decode cX5_place 31 = .ok (.iload_n 2, 1) := by decide +kernel
theorem dX5_place_32 : decode cX5_place 32 = .ok (.iastore, 1) := by decide +kernel
theorem dX5_place_33 : decode cX5_place 33 = .ok (.aload_n 0, 1) := by decide +kernel
theorem dX5_place_34 : decode cX5_place 34 = .ok (.getfield 21, 3) := by decide +kernel
theorem dX5_place_37 : decode cX5_place 37 = .ok (.iload_n 1, 1) := by decide +kernel
theorem dX5_place_38 : decode cX5_place 38 = .ok (.iload_n 3, 1) := by decide +kernel
theorem dX5_place_39 : decode cX5_place 39 = .ok (.iastore, 1) := by decide +kernel
theorem dX5_place_40 : decode cX5_place 40 = .ok (.aload_n 0, 1) := by decide +kernel
theorem dX5_place_41 : decode cX5_place 41 = .ok (.getfield 24, 3) := by decide +kernel
theorem dX5_place_44 : decode cX5_place 44 = .ok (.iload_n 1, 1) := by decide +kernel
theorem dX5_place_45 : decode cX5_place 45 = .ok (.iload 4, 2) := by decide +kernel
theorem dX5_place_47 : decode cX5_place 47 = .ok (.iastore, 1) := by decide +kernel
theorem dX5_place_48 : decode cX5_place 48 = .ok (.aload_n 0, 1) := by decide +kernel
theorem dX5_place_49 : decode cX5_place 49 = .ok (.getfield 27, 3) := by decide +kernel
theorem dX5_place_52 : decode cX5_place 52 = .ok (.iload_n 1, 1) := by decide +kernel
theorem dX5_place_53 : decode cX5_place 53 = .ok (.iconst (-1), 1) := by decide +kernel
theorem dX5_place_54 : decode cX5_place 54 = .ok (.iastore, 1) := by decide +kernel
theorem dX5_place_55 : decode cX5_place 55 = .ok (.return_, 1) := by decide +kernel
theorem dX5_takeAway_0 : decode cX5_takeAway 0 = .ok (.aload_n 0, 1) := by decide +kernel
theorem dX5_takeAway_1 : decode cX5_takeAway 1 = .ok (.dup, 1) := by decide +kernel
theorem dX5_takeAway_2 : decode cX5_takeAway 2 = .ok (.getfield 31, 3) := by decide +kernel
theorem dX5_takeAway_5 : decode cX5_takeAway 5 = .ok (.iconst 1, 1) := by decide +kernel
theorem dX5_takeAway_6 : decode cX5_takeAway 6 = .ok (.iload_n 1, 1) := by decide +kernel
theorem dX5_takeAway_7 : decode cX5_takeAway 7 = .ok (.ishl, 1) := by decide +kernel
theorem dX5_takeAway_8 : decode cX5_takeAway 8 = .ok (.iconst (-1), 1) := by decide +kernel
theorem dX5_takeAway_9 : decode cX5_takeAway 9 = .ok (.ixor, 1) := by decide +kernel
theorem dX5_takeAway_10 : decode cX5_takeAway 10 = .ok (.iand, 1) := by decide +kernel
theorem dX5_takeAway_11 : decode cX5_takeAway 11 = .ok (.putfield 31, 3) := by decide +kernel
theorem dX5_takeAway_14 : decode cX5_takeAway 14 = .ok (.aload_n 0, 1) := by decide +kernel
theorem dX5_takeAway_15 : decode cX5_takeAway 15 = .ok (.dup, 1) := by decide +kernel
theorem dX5_takeAway_16 : decode cX5_takeAway 16 = .ok (.getfield 39, 3) := by decide +kernel
theorem dX5_takeAway_19 : decode cX5_takeAway 19 = .ok (.iconst 1, 1) := by decide +kernel
theorem dX5_takeAway_20 : decode cX5_takeAway 20 = .ok (.iload_n 1, 1) := by decide +kernel
theorem dX5_takeAway_21 : decode cX5_takeAway 21 = .ok (.ishl, 1) := by decide +kernel
theorem dX5_takeAway_22 : decode cX5_takeAway 22 = .ok (.iconst (-1), 1) := by decide +kernel
theorem dX5_takeAway_23 : decode cX5_takeAway 23 = .ok (.ixor, 1) := by decide +kernel
theorem dX5_takeAway_24 : decode cX5_takeAway 24 = .ok (.iand, 1) := by decide +kernel
theorem dX5_takeAway_25 : decode cX5_takeAway 25 = .ok (.putfield 39, 3) := by decide +kernel
theorem dX5_takeAway_28 : decode cX5_takeAway 28 = .ok (.aload_n 0, 1) := by decide +kernel
theorem dX5_takeAway_29 : decode cX5_takeAway 29 = .ok (.getfield 27, 3) := by decide +kernel
theorem dX5_takeAway_32 : decode cX5_takeAway 32 = .ok (.iload_n 1, 1) := by decide +kernel
theorem dX5_takeAway_33 : decode cX5_takeAway 33 = .ok (.iconst (-1), 1) := by decide +kernel
theorem dX5_takeAway_34 : decode cX5_takeAway 34 = .ok (.iastore, 1) := by decide +kernel
theorem dX5_takeAway_35 : decode cX5_takeAway 35 = .ok (.return_, 1) := by decide +kernel
theorem dX5_setFailing_0 : decode cX5_setFailing 0 = .ok (.aload_n 0, 1) := by decide +kernel
theorem dX5_setFailing_1 : decode cX5_setFailing 1 = .ok (.iload_n 2, 1) := by decide +kernel
theorem dX5_setFailing_2 : decode cX5_setFailing 2 = .ok (.ifCond .eq 14, 3) := by decide +kernel
theorem dX5_setFailing_5 : decode cX5_setFailing 5 = .ok (.aload_n 0, 1) := by decide +kernel
theorem dX5_setFailing_6 : decode cX5_setFailing 6 = .ok (.getfield 39, 3) := by decide +kernel
theorem dX5_setFailing_9 : decode cX5_setFailing 9 = .ok (.iconst 1, 1) := by decide +kernel
theorem dX5_setFailing_10 : decode cX5_setFailing 10 = .ok (.iload_n 1, 1) := by decide +kernel
theorem dX5_setFailing_11 : decode cX5_setFailing 11 = .ok (.ishl, 1) := by decide +kernel
theorem dX5_setFailing_12 : decode cX5_setFailing 12 = .ok (.ior, 1) := by decide +kernel
theorem dX5_setFailing_13 : decode cX5_setFailing 13 = .ok (.goto 13, 3) := by decide +kernel
theorem dX5_setFailing_16 : decode cX5_setFailing 16 = .ok (.aload_n 0, 1) := by decide +kernel
theorem dX5_setFailing_17 : decode cX5_setFailing 17 = .ok (.getfield 39, 3) := by decide +kernel
theorem dX5_setFailing_20 : decode cX5_setFailing 20 = .ok (.iconst 1, 1) := by decide +kernel
theorem dX5_setFailing_21 : decode cX5_setFailing 21 = .ok (.iload_n 1, 1) := by decide +kernel
theorem dX5_setFailing_22 : decode cX5_setFailing 22 = .ok (.ishl, 1) := by decide +kernel
theorem dX5_setFailing_23 : decode cX5_setFailing 23 = .ok (.iconst (-1), 1) := by decide +kernel
theorem dX5_setFailing_24 : decode cX5_setFailing 24 = .ok (.ixor, 1) := by decide +kernel
theorem dX5_setFailing_25 : decode cX5_setFailing 25 = .ok (.iand, 1) := by decide +kernel
theorem dX5_setFailing_26 : decode cX5_setFailing 26 = .ok (.putfield 39, 3) := by decide +kernel
theorem dX5_setFailing_29 : decode cX5_setFailing 29 = .ok (.return_, 1) := by decide +kernel
theorem dX5_lastOf_0 : decode cX5_lastOf 0 = .ok (.iload_n 1, 1) := by decide +kernel
theorem dX5_lastOf_1 : decode cX5_lastOf 1 = .ok (.aload_n 0, 1) := by decide +kernel
theorem dX5_lastOf_2 : decode cX5_lastOf 2 = .ok (.getfield 31, 3) := by decide +kernel
theorem dX5_lastOf_5 : decode cX5_lastOf 5 = .ok (.iand, 1) := by decide +kernel
theorem dX5_lastOf_6 : decode cX5_lastOf 6 = .ok (.istore_n 2, 1) := by decide +kernel
theorem dX5_lastOf_7 : decode cX5_lastOf 7 = .ok (.iload_n 2, 1) := by decide +kernel
theorem dX5_lastOf_8 : decode cX5_lastOf 8 = .ok (.ifCond .ne 7, 3) := by decide +kernel
theorem dX5_lastOf_11 : decode cX5_lastOf 11 = .ok (.iconst 0, 1) := by decide +kernel
theorem dX5_lastOf_12 : decode cX5_lastOf 12 = .ok (.goto 10, 3) := by decide +kernel
theorem dX5_lastOf_15 : decode cX5_lastOf 15 = .ok (.bipush 31, 2) := by decide +kernel
theorem dX5_lastOf_17 : decode cX5_lastOf 17 = .ok (.iload_n 2, 1) := by decide +kernel
theorem dX5_lastOf_18 : decode cX5_lastOf 18 = .ok (.invokestatic 42, 3) := by decide +kernel
theorem dX5_lastOf_21 : decode cX5_lastOf 21 = .ok (.isub, 1) := by decide +kernel
theorem dX5_lastOf_22 : decode cX5_lastOf 22 = .ok (.ireturn, 1) := by decide +kernel
theorem dX5_cornerReached_0 : decode cX5_cornerReached 0 = .ok (.aload_n 0, 1) := by decide +kernel
theorem dX5_cornerReached_1 : decode cX5_cornerReached 1 = .ok (.getfield 31, 3) := by decide +kernel
theorem dX5_cornerReached_4 : decode cX5_cornerReached 4 = .ok (.iload_n 1, 1) := by decide +kernel
theorem dX5_cornerReached_5 : decode cX5_cornerReached 5 = .ok (.invokestatic 35, 3) := by decide +kernel
theorem dX5_cornerReached_8 : decode cX5_cornerReached 8 = .ok (.ifCond .ne 5, 3) := by decide +kernel
theorem dX5_cornerReached_11 : decode cX5_cornerReached 11 = .ok (.iconst (-1), 1) := by decide +kernel
theorem dX5_cornerReached_12 : decode cX5_cornerReached 12 = .ok (.ireturn, 1) := by decide +kernel
theorem dX5_cornerReached_13 : decode cX5_cornerReached 13 = .ok (.aload_n 0, 1) := by decide +kernel
theorem dX5_cornerReached_14 : decode cX5_cornerReached 14 = .ok (.getfield 11, 3) := by decide +kernel
theorem dX5_cornerReached_17 : decode cX5_cornerReached 17 = .ok (.aload_n 0, 1) := by decide +kernel
theorem dX5_cornerReached_18 : decode cX5_cornerReached 18 = .ok (.getfield 17, 3) := by decide +kernel
theorem dX5_cornerReached_21 : decode cX5_cornerReached 21 = .ok (.iload_n 1, 1) := by decide +kernel
theorem dX5_cornerReached_22 : decode cX5_cornerReached 22 = .ok (.iaload, 1) := by decide +kernel
theorem dX5_cornerReached_23 : decode cX5_cornerReached 23 = .ok (.aaload, 1) := by decide +kernel
theorem dX5_cornerReached_24 : decode cX5_cornerReached 24 = .ok (.aload_n 0, 1) := by decide +kernel
theorem dX5_cornerReached_25 : decode cX5_cornerReached 25 = .ok (.getfield 24, 3) := by decide +kernel
theorem dX5_cornerReached_28 : decode cX5_cornerReached 28 = .ok (.iload_n 1, 1) := by decide +kernel
theorem dX5_cornerReached_29 : decode cX5_cornerReached 29 = .ok (.iaload, 1) := by decide +kernel
theorem dX5_cornerReached_30 : decode cX5_cornerReached 30 = .ok (.lload_n 2, 1) := by decide +kernel
theorem dX5_cornerReached_31 : decode cX5_cornerReached 31 = .ok (.lload 4, 2) := by decide +kernel
theorem dX5_cornerReached_33 : decode cX5_cornerReached 33 = .ok (.invokevirtual 48, 3) := by decide +kernel
theorem dX5_cornerReached_36 : decode cX5_cornerReached 36 = .ok (.ireturn, 1) := by decide +kernel
theorem dX5_ticksAt_0 : decode cX5_ticksAt 0 = .ok (.aload_n 0, 1) := by decide +kernel
theorem dX5_ticksAt_1 : decode cX5_ticksAt 1 = .ok (.getfield 11, 3) := by decide +kernel
theorem dX5_ticksAt_4 : decode cX5_ticksAt 4 = .ok (.aload_n 0, 1) := by decide +kernel
theorem dX5_ticksAt_5 : decode cX5_ticksAt 5 = .ok (.getfield 17, 3) := by decide +kernel
theorem dX5_ticksAt_8 : decode cX5_ticksAt 8 = .ok (.iload_n 1, 1) := by decide +kernel
theorem dX5_ticksAt_9 : decode cX5_ticksAt 9 = .ok (.iaload, 1) := by decide +kernel
theorem dX5_ticksAt_10 : decode cX5_ticksAt 10 = .ok (.aaload, 1) := by decide +kernel
theorem dX5_ticksAt_11 : decode cX5_ticksAt 11 = .ok (.getfield 52, 3) := by decide +kernel
theorem dX5_ticksAt_14 : decode cX5_ticksAt 14 = .ok (.iload_n 2, 1) := by decide +kernel
theorem dX5_ticksAt_15 : decode cX5_ticksAt 15 = .ok (.iaload, 1) := by decide +kernel
theorem dX5_ticksAt_16 : decode cX5_ticksAt 16 = .ok (.ireturn, 1) := by decide +kernel
theorem dX5_waitAt_0 : decode cX5_waitAt 0 = .ok (.aload_n 0, 1) := by decide +kernel
theorem dX5_waitAt_1 : decode cX5_waitAt 1 = .ok (.getfield 31, 3) := by decide +kernel
theorem dX5_waitAt_4 : decode cX5_waitAt 4 = .ok (.iload_n 1, 1) := by decide +kernel
theorem dX5_waitAt_5 : decode cX5_waitAt 5 = .ok (.invokestatic 35, 3) := by decide +kernel
theorem dX5_waitAt_8 : decode cX5_waitAt 8 = .ok (.ifCond .ne 5, 3) := by decide +kernel
theorem dX5_waitAt_11 : decode cX5_waitAt 11 = .ok (.iconst (-1), 1) := by decide +kernel
theorem dX5_waitAt_12 : decode cX5_waitAt 12 = .ok (.ireturn, 1) := by decide +kernel
theorem dX5_waitAt_13 : decode cX5_waitAt 13 = .ok (.aload_n 0, 1) := by decide +kernel
theorem dX5_waitAt_14 : decode cX5_waitAt 14 = .ok (.getfield 11, 3) := by decide +kernel
theorem dX5_waitAt_17 : decode cX5_waitAt 17 = .ok (.aload_n 0, 1) := by decide +kernel
theorem dX5_waitAt_18 : decode cX5_waitAt 18 = .ok (.getfield 17, 3) := by decide +kernel
theorem dX5_waitAt_21 : decode cX5_waitAt 21 = .ok (.iload_n 1, 1) := by decide +kernel
theorem dX5_waitAt_22 : decode cX5_waitAt 22 = .ok (.iaload, 1) := by decide +kernel
theorem dX5_waitAt_23 : decode cX5_waitAt 23 = .ok (.aaload, 1) := by decide +kernel
theorem dX5_waitAt_24 : decode cX5_waitAt 24 = .ok (.astore 6, 2) := by decide +kernel
theorem dX5_waitAt_26 : decode cX5_waitAt 26 = .ok (.aload 6, 2) := by decide +kernel
theorem dX5_waitAt_28 : decode cX5_waitAt 28 = .ok (.aload_n 0, 1) := by decide +kernel
theorem dX5_waitAt_29 : decode cX5_waitAt 29 = .ok (.getfield 24, 3) := by decide +kernel
theorem dX5_waitAt_32 : decode cX5_waitAt 32 = .ok (.iload_n 1, 1) := by decide +kernel
theorem dX5_waitAt_33 : decode cX5_waitAt 33 = .ok (.iaload, 1) := by decide +kernel
theorem dX5_waitAt_34 : decode cX5_waitAt 34 = .ok (.lload_n 2, 1) := by decide +kernel
theorem dX5_waitAt_35 : decode cX5_waitAt 35 = .ok (.lload 4, 2) := by decide +kernel
theorem dX5_waitAt_37 : decode cX5_waitAt 37 = .ok (.invokevirtual 48, 3) := by decide +kernel
theorem dX5_waitAt_40 : decode cX5_waitAt 40 = .ok (.istore 7, 2) := by decide +kernel
theorem dX5_waitAt_42 : decode cX5_waitAt 42 = .ok (.iload 7, 2) := by decide +kernel
theorem dX5_waitAt_44 : decode cX5_waitAt 44 = .ok (.iconst (-1), 1) := by decide +kernel
theorem dX5_waitAt_45 : decode cX5_waitAt 45 = .ok (.if_icmp .ne 7, 3) := by decide +kernel
theorem dX5_waitAt_48 : decode cX5_waitAt 48 = .ok (.iconst (-1), 1) := by decide +kernel
theorem dX5_waitAt_49 : decode cX5_waitAt 49 = .ok (.goto 18, 3) := by decide +kernel
theorem dX5_waitAt_52 : decode cX5_waitAt 52 = .ok (.aload_n 0, 1) := by decide +kernel
theorem dX5_waitAt_53 : decode cX5_waitAt 53 = .ok (.getfield 21, 3) := by decide +kernel
theorem dX5_waitAt_56 : decode cX5_waitAt 56 = .ok (.iload_n 1, 1) := by decide +kernel
theorem dX5_waitAt_57 : decode cX5_waitAt 57 = .ok (.iaload, 1) := by decide +kernel
theorem dX5_waitAt_58 : decode cX5_waitAt 58 = .ok (.aload 6, 2) := by decide +kernel
theorem dX5_waitAt_60 : decode cX5_waitAt 60 = .ok (.getfield 52, 3) := by decide +kernel
theorem dX5_waitAt_63 : decode cX5_waitAt 63 = .ok (.iload 7, 2) := by decide +kernel
theorem dX5_waitAt_65 : decode cX5_waitAt 65 = .ok (.iaload, 1) := by decide +kernel
theorem dX5_waitAt_66 : decode cX5_waitAt 66 = .ok (.imul, 1) := by decide +kernel
theorem dX5_waitAt_67 : decode cX5_waitAt 67 = .ok (.ireturn, 1) := by decide +kernel
theorem dX5_leastTenthsSeen_0 : decode cX5_leastTenthsSeen 0 = .ok (.aload_n 0, 1) := by decide +kernel
theorem dX5_leastTenthsSeen_1 : decode cX5_leastTenthsSeen 1 = .ok (.iload_n 1, 1) := by decide +kernel
theorem dX5_leastTenthsSeen_2 : decode cX5_leastTenthsSeen 2 = .ok (.invokevirtual 55, 3) := by decide +kernel
theorem dX5_leastTenthsSeen_5 : decode cX5_leastTenthsSeen 5 = .ok (.ifCond .eq 20, 3) := by decide +kernel
theorem dX5_leastTenthsSeen_8 : decode cX5_leastTenthsSeen 8 = .ok (.aload_n 0, 1) := by decide +kernel
theorem dX5_leastTenthsSeen_9 : decode cX5_leastTenthsSeen 9 = .ok (.getfield 11, 3) := by decide +kernel
theorem dX5_leastTenthsSeen_12 : decode cX5_leastTenthsSeen 12 = .ok (.aload_n 0, 1) := by decide +kernel
theorem dX5_leastTenthsSeen_13 : decode cX5_leastTenthsSeen 13 = .ok (.getfield 17, 3) := by decide +kernel
theorem dX5_leastTenthsSeen_16 : decode cX5_leastTenthsSeen 16 = .ok (.iload_n 1, 1) := by decide +kernel
theorem dX5_leastTenthsSeen_17 : decode cX5_leastTenthsSeen 17 = .ok (.iaload, 1) := by decide +kernel
theorem dX5_leastTenthsSeen_18 : decode cX5_leastTenthsSeen 18 = .ok (.aaload, 1) := by decide +kernel
theorem dX5_leastTenthsSeen_19 : decode cX5_leastTenthsSeen 19 = .ok (.getfield 59, 3) := by decide +kernel
theorem dX5_leastTenthsSeen_22 : decode cX5_leastTenthsSeen 22 = .ok (.ifCond .ne 7, 3) := by decide +kernel
theorem dX5_leastTenthsSeen_25 : decode cX5_leastTenthsSeen 25 = .ok (.ldc2_w 62, 3) := by decide +kernel
theorem dX5_leastTenthsSeen_28 : decode cX5_leastTenthsSeen 28 = .ok (.lreturn, 1) := by decide +kernel
theorem dX5_leastTenthsSeen_29 : decode cX5_leastTenthsSeen 29 = .ok (.aload_n 0, 1) := by decide +kernel
theorem dX5_leastTenthsSeen_30 : decode cX5_leastTenthsSeen 30 = .ok (.getfield 24, 3) := by decide +kernel
theorem dX5_leastTenthsSeen_33 : decode cX5_leastTenthsSeen 33 = .ok (.iload_n 1, 1) := by decide +kernel
theorem dX5_leastTenthsSeen_34 : decode cX5_leastTenthsSeen 34 = .ok (.iaload, 1) := by decide +kernel
theorem dX5_leastTenthsSeen_35 : decode cX5_leastTenthsSeen 35 = .ok (.i2l, 1) := by decide +kernel
theorem dX5_leastTenthsSeen_36 : decode cX5_leastTenthsSeen 36 = .ok (.aload_n 0, 1) := by decide +kernel
theorem dX5_leastTenthsSeen_37 : decode cX5_leastTenthsSeen 37 = .ok (.getfield 11, 3) := by decide +kernel
theorem dX5_leastTenthsSeen_40 : decode cX5_leastTenthsSeen 40 = .ok (.aload_n 0, 1) := by decide +kernel
theorem dX5_leastTenthsSeen_41 : decode cX5_leastTenthsSeen 41 = .ok (.getfield 17, 3) := by decide +kernel
theorem dX5_leastTenthsSeen_44 : decode cX5_leastTenthsSeen 44 = .ok (.iload_n 1, 1) := by decide +kernel
theorem dX5_leastTenthsSeen_45 : decode cX5_leastTenthsSeen 45 = .ok (.iaload, 1) := by decide +kernel
theorem dX5_leastTenthsSeen_46 : decode cX5_leastTenthsSeen 46 = .ok (.aaload, 1) := by decide +kernel
theorem dX5_leastTenthsSeen_47 : decode cX5_leastTenthsSeen 47 = .ok (.getfield 64, 3) := by decide +kernel
theorem dX5_leastTenthsSeen_50 : decode cX5_leastTenthsSeen 50 = .ok (.iconst 0, 1) := by decide +kernel
theorem dX5_leastTenthsSeen_51 : decode cX5_leastTenthsSeen 51 = .ok (.iaload, 1) := by decide +kernel
theorem dX5_leastTenthsSeen_52 : decode cX5_leastTenthsSeen 52 = .ok (.i2l, 1) := by decide +kernel
theorem dX5_leastTenthsSeen_53 : decode cX5_leastTenthsSeen 53 = .ok (.lmul, 1) := by decide +kernel
theorem dX5_leastTenthsSeen_54 : decode cX5_leastTenthsSeen 54 = .ok (.lreturn, 1) := by decide +kernel
theorem dX5_sumOfDials_0 : decode cX5_sumOfDials 0 = .ok (.iconst 0, 1) := by decide +kernel
theorem dX5_sumOfDials_1 : decode cX5_sumOfDials 1 = .ok (.istore_n 1, 1) := by decide +kernel
theorem dX5_sumOfDials_2 : decode cX5_sumOfDials 2 = .ok (.iconst 0, 1) := by decide +kernel
theorem dX5_sumOfDials_3 : decode cX5_sumOfDials 3 = .ok (.istore_n 2, 1) := by decide +kernel
theorem dX5_sumOfDials_4 : decode cX5_sumOfDials 4 = .ok (.iload_n 2, 1) := by decide +kernel
theorem dX5_sumOfDials_5 : decode cX5_sumOfDials 5 = .ok (.bipush 30, 2) := by decide +kernel
theorem dX5_sumOfDials_7 : decode cX5_sumOfDials 7 = .ok (.if_icmp .ge 30, 3) := by decide +kernel
theorem dX5_sumOfDials_10 : decode cX5_sumOfDials 10 = .ok (.iload_n 1, 1) := by decide +kernel
theorem dX5_sumOfDials_11 : decode cX5_sumOfDials 11 = .ok (.aload_n 0, 1) := by decide +kernel
theorem dX5_sumOfDials_12 : decode cX5_sumOfDials 12 = .ok (.iload_n 2, 1) := by decide +kernel
theorem dX5_sumOfDials_13 : decode cX5_sumOfDials 13 = .ok (.invokevirtual 55, 3) := by decide +kernel
theorem dX5_sumOfDials_16 : decode cX5_sumOfDials 16 = .ok (.ifCond .eq 12, 3) := by decide +kernel
theorem dX5_sumOfDials_19 : decode cX5_sumOfDials 19 = .ok (.aload_n 0, 1) := by decide +kernel
theorem dX5_sumOfDials_20 : decode cX5_sumOfDials 20 = .ok (.getfield 21, 3) := by decide +kernel
theorem dX5_sumOfDials_23 : decode cX5_sumOfDials 23 = .ok (.iload_n 2, 1) := by decide +kernel
theorem dX5_sumOfDials_24 : decode cX5_sumOfDials 24 = .ok (.iaload, 1) := by decide +kernel
theorem dX5_sumOfDials_25 : decode cX5_sumOfDials 25 = .ok (.goto 4, 3) := by decide +kernel
theorem dX5_sumOfDials_28 : decode cX5_sumOfDials 28 = .ok (.iconst 0, 1) := by decide +kernel
theorem dX5_sumOfDials_29 : decode cX5_sumOfDials 29 = .ok (.iadd, 1) := by decide +kernel
theorem dX5_sumOfDials_30 : decode cX5_sumOfDials 30 = .ok (.istore_n 1, 1) := by decide +kernel
theorem dX5_sumOfDials_31 : decode cX5_sumOfDials 31 = .ok (.iinc 2 1, 3) := by decide +kernel
theorem dX5_sumOfDials_34 : decode cX5_sumOfDials 34 = .ok (.goto (-30), 3) := by decide +kernel
theorem dX5_sumOfDials_37 : decode cX5_sumOfDials 37 = .ok (.iload_n 1, 1) := by decide +kernel
theorem dX5_sumOfDials_38 : decode cX5_sumOfDials 38 = .ok (.ireturn, 1) := by decide +kernel
theorem dX5_keepDialsAsGoal_0 : decode cX5_keepDialsAsGoal 0 = .ok (.iconst 0, 1) := by decide +kernel
theorem dX5_keepDialsAsGoal_1 : decode cX5_keepDialsAsGoal 1 = .ok (.istore_n 1, 1) := by decide +kernel
theorem dX5_keepDialsAsGoal_2 : decode cX5_keepDialsAsGoal 2 = .ok (.iconst 0, 1) := by decide +kernel
theorem dX5_keepDialsAsGoal_3 : decode cX5_keepDialsAsGoal 3 = .ok (.istore_n 2, 1) := by decide +kernel
theorem dX5_keepDialsAsGoal_4 : decode cX5_keepDialsAsGoal 4 = .ok (.iload_n 2, 1) := by decide +kernel
theorem dX5_keepDialsAsGoal_5 : decode cX5_keepDialsAsGoal 5 = .ok (.bipush 30, 2) := by decide +kernel
theorem dX5_keepDialsAsGoal_7 : decode cX5_keepDialsAsGoal 7 = .ok (.if_icmp .ge 49, 3) := by decide +kernel
theorem dX5_keepDialsAsGoal_10 : decode cX5_keepDialsAsGoal 10 = .ok (.aload_n 0, 1) := by decide +kernel
theorem dX5_keepDialsAsGoal_11 : decode cX5_keepDialsAsGoal 11 = .ok (.getfield 27, 3) := by decide +kernel
theorem dX5_keepDialsAsGoal_14 : decode cX5_keepDialsAsGoal 14 = .ok (.iload_n 2, 1) := by decide +kernel
theorem dX5_keepDialsAsGoal_15 : decode cX5_keepDialsAsGoal 15 = .ok (.aload_n 0, 1) := by decide +kernel
theorem dX5_keepDialsAsGoal_16 : decode cX5_keepDialsAsGoal 16 = .ok (.iload_n 2, 1) := by decide +kernel
theorem dX5_keepDialsAsGoal_17 : decode cX5_keepDialsAsGoal 17 = .ok (.invokevirtual 55, 3) := by decide +kernel
theorem dX5_keepDialsAsGoal_20 : decode cX5_keepDialsAsGoal 20 = .ok (.ifCond .eq 12, 3) := by decide +kernel
theorem dX5_keepDialsAsGoal_23 : decode cX5_keepDialsAsGoal 23 = .ok (.aload_n 0, 1) := by decide +kernel
theorem dX5_keepDialsAsGoal_24 : decode cX5_keepDialsAsGoal 24 = .ok (.getfield 21, 3) := by decide +kernel
theorem dX5_keepDialsAsGoal_27 : decode cX5_keepDialsAsGoal 27 = .ok (.iload_n 2, 1) := by decide +kernel
theorem dX5_keepDialsAsGoal_28 : decode cX5_keepDialsAsGoal 28 = .ok (.iaload, 1) := by decide +kernel
theorem dX5_keepDialsAsGoal_29 : decode cX5_keepDialsAsGoal 29 = .ok (.goto 4, 3) := by decide +kernel
theorem dX5_keepDialsAsGoal_32 : decode cX5_keepDialsAsGoal 32 = .ok (.iconst (-1), 1) := by decide +kernel
theorem dX5_keepDialsAsGoal_33 : decode cX5_keepDialsAsGoal 33 = .ok (.iastore, 1) := by decide +kernel
theorem dX5_keepDialsAsGoal_34 : decode cX5_keepDialsAsGoal 34 = .ok (.iload_n 1, 1) := by decide +kernel
theorem dX5_keepDialsAsGoal_35 : decode cX5_keepDialsAsGoal 35 = .ok (.aload_n 0, 1) := by decide +kernel
theorem dX5_keepDialsAsGoal_36 : decode cX5_keepDialsAsGoal 36 = .ok (.iload_n 2, 1) := by decide +kernel
theorem dX5_keepDialsAsGoal_37 : decode cX5_keepDialsAsGoal 37 = .ok (.invokevirtual 55, 3) := by decide +kernel
theorem dX5_keepDialsAsGoal_40 : decode cX5_keepDialsAsGoal 40 = .ok (.ifCond .eq 7, 3) := by decide +kernel
theorem dX5_keepDialsAsGoal_43 : decode cX5_keepDialsAsGoal 43 = .ok (.iconst 1, 1) := by decide +kernel
theorem dX5_keepDialsAsGoal_44 : decode cX5_keepDialsAsGoal 44 = .ok (.goto 4, 3) := by decide +kernel
theorem dX5_keepDialsAsGoal_47 : decode cX5_keepDialsAsGoal 47 = .ok (.iconst 0, 1) := by decide +kernel
theorem dX5_keepDialsAsGoal_48 : decode cX5_keepDialsAsGoal 48 = .ok (.iadd, 1) := by decide +kernel
theorem dX5_keepDialsAsGoal_49 : decode cX5_keepDialsAsGoal 49 = .ok (.istore_n 1, 1) := by decide +kernel
theorem dX5_keepDialsAsGoal_50 : decode cX5_keepDialsAsGoal 50 = .ok (.iinc 2 1, 3) := by decide +kernel
theorem dX5_keepDialsAsGoal_53 : decode cX5_keepDialsAsGoal 53 = .ok (.goto (-49), 3) := by decide +kernel
theorem dX5_keepDialsAsGoal_56 : decode cX5_keepDialsAsGoal 56 = .ok (.iload_n 1, 1) := by decide +kernel
theorem dX5_keepDialsAsGoal_57 : decode cX5_keepDialsAsGoal 57 = .ok (.ireturn, 1) := by decide +kernel
theorem dX6_init_0 : decode cX6_init 0 = .ok (.aload_n 0, 1) := by decide +kernel
theorem dX6_init_1 : decode cX6_init 1 = .ok (.invokespecial 3, 3) := by decide +kernel
theorem dX6_init_4 : decode cX6_init 4 = .ok (.aload_n 0, 1) := by decide +kernel
theorem dX6_init_5 : decode cX6_init 5 = .ok (.iconst 1, 1) := by decide +kernel
theorem dX6_init_6 : decode cX6_init 6 = .ok (.putfield 9, 3) := by decide +kernel
theorem dX6_init_9 : decode cX6_init 9 = .ok (.aload_n 0, 1) := by decide +kernel
theorem dX6_init_10 : decode cX6_init 10 = .ok (.ldc 15, 2) := by decide +kernel
theorem dX6_init_12 : decode cX6_init 12 = .ok (.putfield 16, 3) := by decide +kernel
theorem dX6_init_15 : decode cX6_init 15 = .ok (.aload_n 0, 1) := by decide +kernel
theorem dX6_init_16 : decode cX6_init 16 = .ok (.iconst 0, 1) := by decide +kernel
theorem dX6_init_17 : decode cX6_init 17 = .ok (.putfield 19, 3) := by decide +kernel
theorem dX6_init_20 : decode cX6_init 20 = .ok (.return_, 1) := by decide +kernel
theorem dX6_resistancesAsked_0 : decode cX6_resistancesAsked 0 = .ok (.aload_n 0, 1) := by decide +kernel
theorem dX6_resistancesAsked_1 : decode cX6_resistancesAsked 1 = .ok (.getfield 19, 3) := by decide +kernel
theorem dX6_resistancesAsked_4 : decode cX6_resistancesAsked 4 = .ok (.ifCond .ne 7, 3) := by decide +kernel
theorem dX6_resistancesAsked_7 : decode cX6_resistancesAsked 7 = .ok (.iconst 1, 1) := by decide +kernel
theorem dX6_resistancesAsked_8 : decode cX6_resistancesAsked 8 = .ok (.goto 4, 3) := by decide +kernel
theorem dX6_resistancesAsked_11 : decode cX6_resistancesAsked 11 = .ok (.iconst 2, 1) := by decide +kernel
theorem dX6_resistancesAsked_12 : decode cX6_resistancesAsked 12 = .ok (.ireturn, 1) := by decide +kernel
theorem dX6_resistanceAsked_0 : decode cX6_resistanceAsked 0 = .ok (.iload_n 1, 1) := by decide +kernel
theorem dX6_resistanceAsked_1 : decode cX6_resistanceAsked 1 = .ok (.ifCond .ne 7, 3) := by decide +kernel
theorem dX6_resistanceAsked_4 : decode cX6_resistanceAsked 4 = .ok (.iconst 0, 1) := by decide +kernel
theorem dX6_resistanceAsked_5 : decode cX6_resistanceAsked 5 = .ok (.goto 7, 3) := by decide +kernel
theorem dX6_resistanceAsked_8 : decode cX6_resistanceAsked 8 = .ok (.aload_n 0, 1) := by decide +kernel
theorem dX6_resistanceAsked_9 : decode cX6_resistanceAsked 9 = .ok (.getfield 19, 3) := by decide +kernel
theorem dX6_resistanceAsked_12 : decode cX6_resistanceAsked 12 = .ok (.ireturn, 1) := by decide +kernel
theorem dJ6_numberOfLeadingZeros_0f7a4_0 : decode cJ6_numberOfLeadingZeros_0f7a4 0 = .ok (.iload_n 0, 1) := by decide +kernel
theorem dJ6_numberOfLeadingZeros_0f7a4_1 : decode cJ6_numberOfLeadingZeros_0f7a4 1 = .ok (.ifCond .gt 14, 3) := by decide +kernel
theorem dJ6_numberOfLeadingZeros_0f7a4_4 : decode cJ6_numberOfLeadingZeros_0f7a4 4 = .ok (.iload_n 0, 1) := by decide +kernel
theorem dJ6_numberOfLeadingZeros_0f7a4_5 : decode cJ6_numberOfLeadingZeros_0f7a4 5 = .ok (.ifCond .ne 8, 3) := by decide +kernel
theorem dJ6_numberOfLeadingZeros_0f7a4_8 : decode cJ6_numberOfLeadingZeros_0f7a4 8 = .ok (.bipush 32, 2) := by decide +kernel
theorem dJ6_numberOfLeadingZeros_0f7a4_10 : decode cJ6_numberOfLeadingZeros_0f7a4 10 = .ok (.goto 4, 3) := by decide +kernel
theorem dJ6_numberOfLeadingZeros_0f7a4_13 : decode cJ6_numberOfLeadingZeros_0f7a4 13 = .ok (.iconst 0, 1) := by decide +kernel
theorem dJ6_numberOfLeadingZeros_0f7a4_14 : decode cJ6_numberOfLeadingZeros_0f7a4 14 = .ok (.ireturn, 1) := by decide +kernel
theorem dJ6_numberOfLeadingZeros_0f7a4_15 : decode cJ6_numberOfLeadingZeros_0f7a4 15 = .ok (.bipush 31, 2) := by decide +kernel
theorem dJ6_numberOfLeadingZeros_0f7a4_17 : decode cJ6_numberOfLeadingZeros_0f7a4 17 = .ok (.istore_n 1, 1) := by decide +kernel
theorem dJ6_numberOfLeadingZeros_0f7a4_18 : decode cJ6_numberOfLeadingZeros_0f7a4 18 = .ok (.iload_n 0, 1) := by decide +kernel
theorem dJ6_numberOfLeadingZeros_0f7a4_19 : decode cJ6_numberOfLeadingZeros_0f7a4 19 = .ok (.ldc_w 264, 3) := by decide +kernel
theorem dJ6_numberOfLeadingZeros_0f7a4_22 : decode cJ6_numberOfLeadingZeros_0f7a4 22 = .ok (.if_icmp .lt 11, 3) := by decide +kernel
theorem dJ6_numberOfLeadingZeros_0f7a4_25 : decode cJ6_numberOfLeadingZeros_0f7a4 25 = .ok (.iinc 1 (-16), 3) := by decide +kernel
theorem dJ6_numberOfLeadingZeros_0f7a4_28 : decode cJ6_numberOfLeadingZeros_0f7a4 28 = .ok (.iload_n 0, 1) := by decide +kernel
theorem dJ6_numberOfLeadingZeros_0f7a4_29 : decode cJ6_numberOfLeadingZeros_0f7a4 29 = .ok (.bipush 16, 2) := by decide +kernel
theorem dJ6_numberOfLeadingZeros_0f7a4_31 : decode cJ6_numberOfLeadingZeros_0f7a4 31 = .ok (.iushr, 1) := by decide +kernel
theorem dJ6_numberOfLeadingZeros_0f7a4_32 : decode cJ6_numberOfLeadingZeros_0f7a4 32 = .ok (.istore_n 0, 1) := by decide +kernel
theorem dJ6_numberOfLeadingZeros_0f7a4_33 : decode cJ6_numberOfLeadingZeros_0f7a4 33 = .ok (.iload_n 0, 1) := by decide +kernel
theorem dJ6_numberOfLeadingZeros_0f7a4_34 : decode cJ6_numberOfLeadingZeros_0f7a4 34 = .ok (.sipush 256, 3) := by decide +kernel
theorem dJ6_numberOfLeadingZeros_0f7a4_37 : decode cJ6_numberOfLeadingZeros_0f7a4 37 = .ok (.if_icmp .lt 11, 3) := by decide +kernel
theorem dJ6_numberOfLeadingZeros_0f7a4_40 : decode cJ6_numberOfLeadingZeros_0f7a4 40 = .ok (.iinc 1 (-8), 3) := by decide +kernel
theorem dJ6_numberOfLeadingZeros_0f7a4_43 : decode cJ6_numberOfLeadingZeros_0f7a4 43 = .ok (.iload_n 0, 1) := by decide +kernel
theorem dJ6_numberOfLeadingZeros_0f7a4_44 : decode cJ6_numberOfLeadingZeros_0f7a4 44 = .ok (.bipush 8, 2) := by decide +kernel
theorem dJ6_numberOfLeadingZeros_0f7a4_46 : decode cJ6_numberOfLeadingZeros_0f7a4 46 = .ok (.iushr, 1) := by decide +kernel
theorem dJ6_numberOfLeadingZeros_0f7a4_47 : decode cJ6_numberOfLeadingZeros_0f7a4 47 = .ok (.istore_n 0, 1) := by decide +kernel
theorem dJ6_numberOfLeadingZeros_0f7a4_48 : decode cJ6_numberOfLeadingZeros_0f7a4 48 = .ok (.iload_n 0, 1) := by decide +kernel
theorem dJ6_numberOfLeadingZeros_0f7a4_49 : decode cJ6_numberOfLeadingZeros_0f7a4 49 = .ok (.bipush 16, 2) := by decide +kernel
theorem dJ6_numberOfLeadingZeros_0f7a4_51 : decode cJ6_numberOfLeadingZeros_0f7a4 51 = .ok (.if_icmp .lt 10, 3) := by decide +kernel
theorem dJ6_numberOfLeadingZeros_0f7a4_54 : decode cJ6_numberOfLeadingZeros_0f7a4 54 = .ok (.iinc 1 (-4), 3) := by decide +kernel
theorem dJ6_numberOfLeadingZeros_0f7a4_57 : decode cJ6_numberOfLeadingZeros_0f7a4 57 = .ok (.iload_n 0, 1) := by decide +kernel
theorem dJ6_numberOfLeadingZeros_0f7a4_58 : decode cJ6_numberOfLeadingZeros_0f7a4 58 = .ok (.iconst 4, 1) := by decide +kernel
theorem dJ6_numberOfLeadingZeros_0f7a4_59 : decode cJ6_numberOfLeadingZeros_0f7a4 59 = .ok (.iushr, 1) := by decide +kernel
theorem dJ6_numberOfLeadingZeros_0f7a4_60 : decode cJ6_numberOfLeadingZeros_0f7a4 60 = .ok (.istore_n 0, 1) := by decide +kernel
theorem dJ6_numberOfLeadingZeros_0f7a4_61 : decode cJ6_numberOfLeadingZeros_0f7a4 61 = .ok (.iload_n 0, 1) := by decide +kernel
theorem dJ6_numberOfLeadingZeros_0f7a4_62 : decode cJ6_numberOfLeadingZeros_0f7a4 62 = .ok (.iconst 4, 1) := by decide +kernel
theorem dJ6_numberOfLeadingZeros_0f7a4_63 : decode cJ6_numberOfLeadingZeros_0f7a4 63 = .ok (.if_icmp .lt 10, 3) := by decide +kernel
theorem dJ6_numberOfLeadingZeros_0f7a4_66 : decode cJ6_numberOfLeadingZeros_0f7a4 66 = .ok (.iinc 1 (-2), 3) := by decide +kernel
theorem dJ6_numberOfLeadingZeros_0f7a4_69 : decode cJ6_numberOfLeadingZeros_0f7a4 69 = .ok (.iload_n 0, 1) := by decide +kernel
theorem dJ6_numberOfLeadingZeros_0f7a4_70 : decode cJ6_numberOfLeadingZeros_0f7a4 70 = .ok (.iconst 2, 1) := by decide +kernel
theorem dJ6_numberOfLeadingZeros_0f7a4_71 : decode cJ6_numberOfLeadingZeros_0f7a4 71 = .ok (.iushr, 1) := by decide +kernel
theorem dJ6_numberOfLeadingZeros_0f7a4_72 : decode cJ6_numberOfLeadingZeros_0f7a4 72 = .ok (.istore_n 0, 1) := by decide +kernel
theorem dJ6_numberOfLeadingZeros_0f7a4_73 : decode cJ6_numberOfLeadingZeros_0f7a4 73 = .ok (.iload_n 1, 1) := by decide +kernel
theorem dJ6_numberOfLeadingZeros_0f7a4_74 : decode cJ6_numberOfLeadingZeros_0f7a4 74 = .ok (.iload_n 0, 1) := by decide +kernel
theorem dJ6_numberOfLeadingZeros_0f7a4_75 : decode cJ6_numberOfLeadingZeros_0f7a4 75 = .ok (.iconst 1, 1) := by decide +kernel
theorem dJ6_numberOfLeadingZeros_0f7a4_76 : decode cJ6_numberOfLeadingZeros_0f7a4 76 = .ok (.iushr, 1) := by decide +kernel
theorem dJ6_numberOfLeadingZeros_0f7a4_77 : decode cJ6_numberOfLeadingZeros_0f7a4 77 = .ok (.isub, 1) := by decide +kernel
theorem dJ6_numberOfLeadingZeros_0f7a4_78 : decode cJ6_numberOfLeadingZeros_0f7a4 78 = .ok (.ireturn, 1) := by decide +kernel
theorem dJ6_bitCount_0f7a4_0 : decode cJ6_bitCount_0f7a4 0 = .ok (.iload_n 0, 1) := by decide +kernel
theorem dJ6_bitCount_0f7a4_1 : decode cJ6_bitCount_0f7a4 1 = .ok (.iload_n 0, 1) := by decide +kernel
theorem dJ6_bitCount_0f7a4_2 : decode cJ6_bitCount_0f7a4 2 = .ok (.iconst 1, 1) := by decide +kernel
theorem dJ6_bitCount_0f7a4_3 : decode cJ6_bitCount_0f7a4 3 = .ok (.iushr, 1) := by decide +kernel
theorem dJ6_bitCount_0f7a4_4 : decode cJ6_bitCount_0f7a4 4 = .ok (.ldc_w 265, 3) := by decide +kernel
theorem dJ6_bitCount_0f7a4_7 : decode cJ6_bitCount_0f7a4 7 = .ok (.iand, 1) := by decide +kernel
theorem dJ6_bitCount_0f7a4_8 : decode cJ6_bitCount_0f7a4 8 = .ok (.isub, 1) := by decide +kernel
theorem dJ6_bitCount_0f7a4_9 : decode cJ6_bitCount_0f7a4 9 = .ok (.istore_n 0, 1) := by decide +kernel
theorem dJ6_bitCount_0f7a4_10 : decode cJ6_bitCount_0f7a4 10 = .ok (.iload_n 0, 1) := by decide +kernel
theorem dJ6_bitCount_0f7a4_11 : decode cJ6_bitCount_0f7a4 11 = .ok (.ldc_w 266, 3) := by decide +kernel
theorem dJ6_bitCount_0f7a4_14 : decode cJ6_bitCount_0f7a4 14 = .ok (.iand, 1) := by decide +kernel
theorem dJ6_bitCount_0f7a4_15 : decode cJ6_bitCount_0f7a4 15 = .ok (.iload_n 0, 1) := by decide +kernel
theorem dJ6_bitCount_0f7a4_16 : decode cJ6_bitCount_0f7a4 16 = .ok (.iconst 2, 1) := by decide +kernel
theorem dJ6_bitCount_0f7a4_17 : decode cJ6_bitCount_0f7a4 17 = .ok (.iushr, 1) := by decide +kernel
theorem dJ6_bitCount_0f7a4_18 : decode cJ6_bitCount_0f7a4 18 = .ok (.ldc_w 266, 3) := by decide +kernel
theorem dJ6_bitCount_0f7a4_21 : decode cJ6_bitCount_0f7a4 21 = .ok (.iand, 1) := by decide +kernel
theorem dJ6_bitCount_0f7a4_22 : decode cJ6_bitCount_0f7a4 22 = .ok (.iadd, 1) := by decide +kernel
theorem dJ6_bitCount_0f7a4_23 : decode cJ6_bitCount_0f7a4 23 = .ok (.istore_n 0, 1) := by decide +kernel
theorem dJ6_bitCount_0f7a4_24 : decode cJ6_bitCount_0f7a4 24 = .ok (.iload_n 0, 1) := by decide +kernel
theorem dJ6_bitCount_0f7a4_25 : decode cJ6_bitCount_0f7a4 25 = .ok (.iload_n 0, 1) := by decide +kernel
theorem dJ6_bitCount_0f7a4_26 : decode cJ6_bitCount_0f7a4 26 = .ok (.iconst 4, 1) := by decide +kernel
theorem dJ6_bitCount_0f7a4_27 : decode cJ6_bitCount_0f7a4 27 = .ok (.iushr, 1) := by decide +kernel
theorem dJ6_bitCount_0f7a4_28 : decode cJ6_bitCount_0f7a4 28 = .ok (.iadd, 1) := by decide +kernel
theorem dJ6_bitCount_0f7a4_29 : decode cJ6_bitCount_0f7a4 29 = .ok (.ldc_w 267, 3) := by decide +kernel
theorem dJ6_bitCount_0f7a4_32 : decode cJ6_bitCount_0f7a4 32 = .ok (.iand, 1) := by decide +kernel
theorem dJ6_bitCount_0f7a4_33 : decode cJ6_bitCount_0f7a4 33 = .ok (.istore_n 0, 1) := by decide +kernel
theorem dJ6_bitCount_0f7a4_34 : decode cJ6_bitCount_0f7a4 34 = .ok (.iload_n 0, 1) := by decide +kernel
theorem dJ6_bitCount_0f7a4_35 : decode cJ6_bitCount_0f7a4 35 = .ok (.iload_n 0, 1) := by decide +kernel
theorem dJ6_bitCount_0f7a4_36 : decode cJ6_bitCount_0f7a4 36 = .ok (.bipush 8, 2) := by decide +kernel
theorem dJ6_bitCount_0f7a4_38 : decode cJ6_bitCount_0f7a4 38 = .ok (.iushr, 1) := by decide +kernel
theorem dJ6_bitCount_0f7a4_39 : decode cJ6_bitCount_0f7a4 39 = .ok (.iadd, 1) := by decide +kernel
theorem dJ6_bitCount_0f7a4_40 : decode cJ6_bitCount_0f7a4 40 = .ok (.istore_n 0, 1) := by decide +kernel
theorem dJ6_bitCount_0f7a4_41 : decode cJ6_bitCount_0f7a4 41 = .ok (.iload_n 0, 1) := by decide +kernel
theorem dJ6_bitCount_0f7a4_42 : decode cJ6_bitCount_0f7a4 42 = .ok (.iload_n 0, 1) := by decide +kernel
theorem dJ6_bitCount_0f7a4_43 : decode cJ6_bitCount_0f7a4 43 = .ok (.bipush 16, 2) := by decide +kernel
theorem dJ6_bitCount_0f7a4_45 : decode cJ6_bitCount_0f7a4 45 = .ok (.iushr, 1) := by decide +kernel
theorem dJ6_bitCount_0f7a4_46 : decode cJ6_bitCount_0f7a4 46 = .ok (.iadd, 1) := by decide +kernel
theorem dJ6_bitCount_0f7a4_47 : decode cJ6_bitCount_0f7a4 47 = .ok (.istore_n 0, 1) := by decide +kernel
theorem dJ6_bitCount_0f7a4_48 : decode cJ6_bitCount_0f7a4 48 = .ok (.iload_n 0, 1) := by decide +kernel
theorem dJ6_bitCount_0f7a4_49 : decode cJ6_bitCount_0f7a4 49 = .ok (.bipush 63, 2) := by decide +kernel
theorem dJ6_bitCount_0f7a4_51 : decode cJ6_bitCount_0f7a4 51 = .ok (.iand, 1) := by decide +kernel
theorem dJ6_bitCount_0f7a4_52 : decode cJ6_bitCount_0f7a4 52 = .ok (.ireturn, 1) := by decide +kernel
theorem dJ9_max_7cf53_0 : decode cJ9_max_7cf53 0 = .ok (.iload_n 0, 1) := by decide +kernel
theorem dJ9_max_7cf53_1 : decode cJ9_max_7cf53 1 = .ok (.iload_n 1, 1) := by decide +kernel
theorem dJ9_max_7cf53_2 : decode cJ9_max_7cf53 2 = .ok (.if_icmp .lt 7, 3) := by decide +kernel
theorem dJ9_max_7cf53_5 : decode cJ9_max_7cf53 5 = .ok (.iload_n 0, 1) := by decide +kernel
theorem dJ9_max_7cf53_6 : decode cJ9_max_7cf53 6 = .ok (.goto 4, 3) := by decide +kernel
theorem dJ9_max_7cf53_9 : decode cJ9_max_7cf53 9 = .ok (.iload_n 1, 1) := by decide +kernel
theorem dJ9_max_7cf53_10 : decode cJ9_max_7cf53 10 = .ok (.ireturn, 1) := by decide +kernel
theorem dJ9_max_f86c9_0 : decode cJ9_max_f86c9 0 = .ok (.lload_n 0, 1) := by decide +kernel
theorem dJ9_max_f86c9_1 : decode cJ9_max_f86c9 1 = .ok (.lload_n 2, 1) := by decide +kernel
theorem dJ9_max_f86c9_2 : decode cJ9_max_f86c9 2 = .ok (.lcmp, 1) := by decide +kernel
theorem dJ9_max_f86c9_3 : decode cJ9_max_f86c9 3 = .ok (.ifCond .lt 7, 3) := by decide +kernel
theorem dJ9_max_f86c9_6 : decode cJ9_max_f86c9 6 = .ok (.lload_n 0, 1) := by decide +kernel
theorem dJ9_max_f86c9_7 : decode cJ9_max_f86c9 7 = .ok (.goto 4, 3) := by decide +kernel
theorem dJ9_max_f86c9_10 : decode cJ9_max_f86c9 10 = .ok (.lload_n 2, 1) := by decide +kernel
theorem dJ9_max_f86c9_11 : decode cJ9_max_f86c9 11 = .ok (.lreturn, 1) := by decide +kernel
theorem dJ9_min_f86c9_0 : decode cJ9_min_f86c9 0 = .ok (.lload_n 0, 1) := by decide +kernel
theorem dJ9_min_f86c9_1 : decode cJ9_min_f86c9 1 = .ok (.lload_n 2, 1) := by decide +kernel
theorem dJ9_min_f86c9_2 : decode cJ9_min_f86c9 2 = .ok (.lcmp, 1) := by decide +kernel
theorem dJ9_min_f86c9_3 : decode cJ9_min_f86c9 3 = .ok (.ifCond .gt 7, 3) := by decide +kernel
theorem dJ9_min_f86c9_6 : decode cJ9_min_f86c9 6 = .ok (.lload_n 0, 1) := by decide +kernel
theorem dJ9_min_f86c9_7 : decode cJ9_min_f86c9 7 = .ok (.goto 4, 3) := by decide +kernel
theorem dJ9_min_f86c9_10 : decode cJ9_min_f86c9 10 = .ok (.lload_n 2, 1) := by decide +kernel
theorem dJ9_min_f86c9_11 : decode cJ9_min_f86c9 11 = .ok (.lreturn, 1) := by decide +kernel
end
section
theorem dX7_init_0 : decode cX7_init 0 = .ok (.aload_n 0, 1) := by decide +kernel
theorem dX7_init_1 : decode cX7_init 1 = .ok (.invokespecial 1, 3) := by decide +kernel
theorem dX7_init_4 : decode cX7_init 4 = .ok (.aload_n 0, 1) := by decide +kernel
theorem dX7_init_5 : decode cX7_init 5 = .ok (.new 7, 3) := by decide +kernel
theorem dX7_init_8 : decode cX7_init 8 = .ok (.dup, 1) := by decide +kernel
theorem dX7_init_9 : decode cX7_init 9 = .ok (.invokespecial 9, 3) := by decide +kernel
theorem dX7_init_12 : decode cX7_init 12 = .ok (.putfield 10, 3) := by decide +kernel
theorem dX7_init_15 : decode cX7_init 15 = .ok (.aload_n 0, 1) := by decide +kernel
theorem dX7_init_16 : decode cX7_init 16 = .ok (.new 16, 3) := by decide +kernel
theorem dX7_init_19 : decode cX7_init 19 = .ok (.dup, 1) := by decide +kernel
theorem dX7_init_20 : decode cX7_init 20 = .ok (.invokespecial 18, 3) := by decide +kernel
theorem dX7_init_23 : decode cX7_init 23 = .ok (.putfield 19, 3) := by decide +kernel
theorem dX7_init_26 : decode cX7_init 26 = .ok (.aload_n 0, 1) := by decide +kernel
theorem dX7_init_27 : decode cX7_init 27 = .ok (.new 23, 3) := by decide +kernel
theorem dX7_init_30 : decode cX7_init 30 = .ok (.dup, 1) := by decide +kernel
theorem dX7_init_31 : decode cX7_init 31 = .ok (.invokespecial 25, 3) := by decide +kernel
theorem dX7_init_34 : decode cX7_init 34 = .ok (.putfield 26, 3) := by decide +kernel
theorem dX7_init_37 : decode cX7_init 37 = .ok (.aload_n 0, 1) := by decide +kernel
theorem dX7_init_38 : decode cX7_init 38 = .ok (.new 30, 3) := by decide +kernel
theorem dX7_init_41 : decode cX7_init 41 = .ok (.dup, 1) := by decide +kernel
theorem dX7_init_42 : decode cX7_init 42 = .ok (.aload_n 0, 1) := by decide +kernel
theorem dX7_init_43 : decode cX7_init 43 = .ok (.getfield 10, 3) := by decide +kernel
theorem dX7_init_46 : decode cX7_init 46 = .ok (.aload_n 0, 1) := by decide +kernel
theorem dX7_init_47 : decode cX7_init 47 = .ok (.getfield 19, 3) := by decide +kernel
theorem dX7_init_50 : decode cX7_init 50 = .ok (.aload_n 0, 1) := by decide +kernel
theorem dX7_init_51 : decode cX7_init 51 = .ok (.getfield 26, 3) := by decide +kernel
theorem dX7_init_54 : decode cX7_init 54 = .ok (.invokespecial 32, 3) := by decide +kernel
theorem dX7_init_57 : decode cX7_init 57 = .ok (.putfield 35, 3) := by decide +kernel
theorem dX7_init_60 : decode cX7_init 60 = .ok (.aload_n 0, 1) := by decide +kernel
theorem dX7_init_61 : decode cX7_init 61 = .ok (.new 39, 3) := by decide +kernel
theorem dX7_init_64 : decode cX7_init 64 = .ok (.dup, 1) := by decide +kernel
theorem dX7_init_65 : decode cX7_init 65 = .ok (.aload_n 0, 1) := by decide +kernel
theorem dX7_init_66 : decode cX7_init 66 = .ok (.getfield 10, 3) := by decide +kernel
theorem dX7_init_69 : decode cX7_init 69 = .ok (.aload_n 0, 1) := by decide +kernel
theorem dX7_init_70 : decode cX7_init 70 = .ok (.getfield 19, 3) := by decide +kernel
theorem dX7_init_73 : decode cX7_init 73 = .ok (.aload_n 0, 1) := by decide +kernel
theorem dX7_init_74 : decode cX7_init 74 = .ok (.getfield 26, 3) := by decide +kernel
theorem dX7_init_77 : decode cX7_init 77 = .ok (.invokespecial 41, 3) := by decide +kernel
theorem dX7_init_80 : decode cX7_init 80 = .ok (.putfield 42, 3) := by decide +kernel
theorem dX7_init_83 : decode cX7_init 83 = .ok (.aload_n 0, 1) := by decide +kernel
theorem dX7_init_84 : decode cX7_init 84 = .ok (.new 46, 3) := by decide +kernel
theorem dX7_init_87 : decode cX7_init 87 = .ok (.dup, 1) := by decide +kernel
theorem dX7_init_88 : decode cX7_init 88 = .ok (.aload_n 0, 1) := by decide +kernel
theorem dX7_init_89 : decode cX7_init 89 = .ok (.getfield 19, 3) := by decide +kernel
theorem dX7_init_92 : decode cX7_init 92 = .ok (.aload_n 0, 1) := by decide +kernel
theorem dX7_init_93 : decode cX7_init 93 = .ok (.getfield 42, 3) := by decide +kernel
theorem dX7_init_96 : decode cX7_init 96 = .ok (.invokespecial 48, 3) := by decide +kernel
theorem dX7_init_99 : decode cX7_init 99 = .ok (.putfield 51, 3) := by decide +kernel
theorem dX7_init_102 : decode cX7_init 102 = .ok (.aload_n 0, 1) := by decide +kernel
theorem dX7_init_103 : decode cX7_init 103 = .ok (.bipush 30, 2) := by decide +kernel
theorem dX7_init_105 : decode cX7_init 105 = .ok (.newarray .int, 2) := by decide +kernel
theorem dX7_init_107 : decode cX7_init 107 = .ok (.putfield 55, 3) := by decide +kernel
theorem dX7_init_110 : decode cX7_init 110 = .ok (.aload_n 0, 1) := by decide +kernel
theorem dX7_init_111 : decode cX7_init 111 = .ok (.bipush 30, 2) := by decide +kernel
theorem dX7_init_113 : decode cX7_init 113 = .ok (.newarray .int, 2) := by decide +kernel
theorem dX7_init_115 : decode cX7_init 115 = .ok (.putfield 59, 3) := by decide +kernel
theorem dX7_init_118 : decode cX7_init 118 = .ok (.return_, 1) := by decide +kernel
theorem dX7_source_0 : decode cX7_source 0 = .ok (.iload_n 1, 1) := by decide +kernel
theorem dX7_source_1 : decode cX7_source 1 = .ok (.iconst 1, 1) := by decide +kernel
theorem dX7_source_2 : decode cX7_source 2 = .ok (.sipush 10000, 3) := by decide +kernel
theorem dX7_source_5 : decode cX7_source 5 = .ok (.invokestatic 62, 3) := by decide +kernel
theorem dX7_source_8 : decode cX7_source 8 = .ok (.ifCond .eq 14, 3) := by decide +kernel
theorem dX7_source_11 : decode cX7_source 11 = .ok (.iload_n 2, 1) := by decide +kernel
theorem dX7_source_12 : decode cX7_source 12 = .ok (.iconst 1, 1) := by decide +kernel
theorem dX7_source_13 : decode cX7_source 13 = .ok (.sipush 1000, 3) := by decide +kernel
theorem dX7_source_16 : decode cX7_source 16 = .ok (.invokestatic 62, 3) := by decide +kernel
theorem dX7_source_19 : decode cX7_source 19 = .ok (.ifCond .ne 5, 3) := by decide +kernel
theorem dX7_source_22 : decode cX7_source 22 = .ok (.iconst 0, 1) := by decide +kernel
theorem dX7_source_23 : decode cX7_source 23 = .ok (.ireturn, 1) := by decide +kernel
theorem dX7_source_24 : decode cX7_source 24 = .ok (.aload_n 0, 1) := by decide +kernel
theorem dX7_source_25 : decode cX7_source 25 = .ok (.getfield 10, 3) := by decide +kernel
theorem dX7_source_28 : decode cX7_source 28 = .ok (.iload_n 1, 1) := by decide +kernel
theorem dX7_source_29 : decode cX7_source 29 = .ok (.putfield 66, 3) := by decide +kernel
theorem dX7_source_32 : decode cX7_source 32 = .ok (.aload_n 0, 1) := by decide +kernel
theorem dX7_source_33 : decode cX7_source 33 = .ok (.getfield 10, 3) := by decide +kernel
theorem dX7_source_36 : decode cX7_source 36 = .ok (.iload_n 2, 1) := by decide +kernel
theorem dX7_source_37 : decode cX7_source 37 = .ok (.putfield 70, 3) := by decide +kernel
theorem dX7_source_40 : decode cX7_source 40 = .ok (.aload_n 0, 1) := by decide +kernel
theorem dX7_source_41 : decode cX7_source 41 = .ok (.iconst 0, 1) := by decide +kernel
theorem dX7_source_42 : decode cX7_source 42 = .ok (.putfield 73, 3) := by decide +kernel
theorem dX7_source_45 : decode cX7_source 45 = .ok (.iconst 1, 1) := by decide +kernel
theorem dX7_source_46 : decode cX7_source 46 = .ok (.ireturn, 1) := by decide +kernel
theorem dX7_line_0 : decode cX7_line 0 = .ok (.aload_n 0, 1) := by decide +kernel
theorem dX7_line_1 : decode cX7_line 1 = .ok (.getfield 10, 3) := by decide +kernel
theorem dX7_line_4 : decode cX7_line 4 = .ok (.iload_n 1, 1) := by decide +kernel
theorem dX7_line_5 : decode cX7_line 5 = .ok (.invokevirtual 77, 3) := by decide +kernel
theorem dX7_line_8 : decode cX7_line 8 = .ok (.ifCond .eq 26, 3) := by decide +kernel
theorem dX7_line_11 : decode cX7_line 11 = .ok (.iload_n 2, 1) := by decide +kernel
theorem dX7_line_12 : decode cX7_line 12 = .ok (.iconst 1, 1) := by decide +kernel
theorem dX7_line_13 : decode cX7_line 13 = .ok (.sipush 1000, 3) := by decide +kernel
theorem dX7_line_16 : decode cX7_line 16 = .ok (.invokestatic 62, 3) := by decide +kernel
theorem dX7_line_19 : decode cX7_line 19 = .ok (.ifCond .eq 15, 3) := by decide +kernel
theorem dX7_line_22 : decode cX7_line 22 = .ok (.aload_n 0, 1) := by decide +kernel
theorem dX7_line_23 : decode cX7_line 23 = .ok (.getfield 10, 3) := by decide +kernel
theorem dX7_line_26 : decode cX7_line 26 = .ok (.getfield 81, 3) := by decide +kernel
theorem dX7_line_29 : decode cX7_line 29 = .ok (.bipush 30, 2) := by decide +kernel
theorem dX7_line_31 : decode cX7_line 31 = .ok (.if_icmp .lt 5, 3) := by decide +kernel
theorem dX7_line_34 : decode cX7_line 34 = .ok (.iconst (-1), 1) := by decide +kernel
theorem dX7_line_35 : decode cX7_line 35 = .ok (.ireturn, 1) := by decide +kernel
theorem dX7_line_36 : decode cX7_line 36 = .ok (.aload_n 0, 1) := by decide +kernel
theorem dX7_line_37 : decode cX7_line 37 = .ok (.iconst 0, 1) := by decide +kernel
theorem dX7_line_38 : decode cX7_line 38 = .ok (.putfield 73, 3) := by decide +kernel
theorem dX7_line_41 : decode cX7_line 41 = .ok (.aload_n 0, 1) := by decide +kernel
theorem dX7_line_42 : decode cX7_line 42 = .ok (.getfield 10, 3) := by decide +kernel
theorem dX7_line_45 : decode cX7_line 45 = .ok (.iload_n 1, 1) := by decide +kernel
theorem dX7_line_46 : decode cX7_line 46 = .ok (.iload_n 2, 1) := by decide +kernel
theorem dX7_line_47 : decode cX7_line 47 = .ok (.invokevirtual 84, 3) := by decide +kernel
theorem dX7_line_50 : decode cX7_line 50 = .ok (.ireturn, 1) := by decide +kernel
theorem dX7_load_0 : decode cX7_load 0 = .ok (.aload_n 0, 1) := by decide +kernel
theorem dX7_load_1 : decode cX7_load 1 = .ok (.getfield 10, 3) := by decide +kernel
theorem dX7_load_4 : decode cX7_load 4 = .ok (.iload_n 1, 1) := by decide +kernel
theorem dX7_load_5 : decode cX7_load 5 = .ok (.invokevirtual 77, 3) := by decide +kernel
theorem dX7_load_8 : decode cX7_load 8 = .ok (.ifCond .eq 14, 3) := by decide +kernel
theorem dX7_load_11 : decode cX7_load 11 = .ok (.iload_n 2, 1) := by decide +kernel
theorem dX7_load_12 : decode cX7_load 12 = .ok (.iconst 0, 1) := by decide +kernel
theorem dX7_load_13 : decode cX7_load 13 = .ok (.sipush 1000, 3) := by decide +kernel
theorem dX7_load_16 : decode cX7_load 16 = .ok (.invokestatic 62, 3) := by decide +kernel
theorem dX7_load_19 : decode cX7_load 19 = .ok (.ifCond .ne 5, 3) := by decide +kernel
theorem dX7_load_22 : decode cX7_load 22 = .ok (.iconst 0, 1) := by decide +kernel
theorem dX7_load_23 : decode cX7_load 23 = .ok (.ireturn, 1) := by decide +kernel
theorem dX7_load_24 : decode cX7_load 24 = .ok (.aload_n 0, 1) := by decide +kernel
theorem dX7_load_25 : decode cX7_load 25 = .ok (.getfield 10, 3) := by decide +kernel
theorem dX7_load_28 : decode cX7_load 28 = .ok (.getfield 88, 3) := by decide +kernel
theorem dX7_load_31 : decode cX7_load 31 = .ok (.iload_n 1, 1) := by decide +kernel
theorem dX7_load_32 : decode cX7_load 32 = .ok (.iload_n 2, 1) := by decide +kernel
theorem dX7_load_33 : decode cX7_load 33 = .ok (.iastore, 1) := by decide +kernel
theorem dX7_load_34 : decode cX7_load 34 = .ok (.aload_n 0, 1) := by decide +kernel
theorem dX7_load_35 : decode cX7_load 35 = .ok (.iconst 0, 1) := by decide +kernel
theorem dX7_load_36 : decode cX7_load 36 = .ok (.putfield 73, 3) := by decide +kernel
theorem dX7_load_39 : decode cX7_load 39 = .ok (.iconst 1, 1) := by decide +kernel
theorem dX7_load_40 : decode cX7_load 40 = .ok (.ireturn, 1) := by decide +kernel
theorem dX7_corner_0 : decode cX7_corner 0 = .ok (.iload_n 1, 1) := by decide +kernel
theorem dX7_corner_1 : decode cX7_corner 1 = .ok (.iconst 0, 1) := by decide +kernel
theorem dX7_corner_2 : decode cX7_corner 2 = .ok (.bipush 7, 2) := by decide +kernel
theorem dX7_corner_4 : decode cX7_corner 4 = .ok (.invokestatic 62, 3) := by decide +kernel
theorem dX7_corner_7 : decode cX7_corner 7 = .ok (.ifCond .ne 5, 3) := by decide +kernel
theorem dX7_corner_10 : decode cX7_corner 10 = .ok (.iconst (-1), 1) := by decide +kernel
theorem dX7_corner_11 : decode cX7_corner 11 = .ok (.ireturn, 1) := by decide +kernel
theorem dX7_corner_12 : decode cX7_corner 12 = .ok (.aload_n 0, 1) := by decide +kernel
theorem dX7_corner_13 : decode cX7_corner 13 = .ok (.getfield 19, 3) := by decide +kernel
theorem dX7_corner_16 : decode cX7_corner 16 = .ok (.getfield 91, 3) := by decide +kernel
theorem dX7_corner_19 : decode cX7_corner 19 = .ok (.iload_n 1, 1) := by decide +kernel
theorem dX7_corner_20 : decode cX7_corner 20 = .ok (.aaload, 1) := by decide +kernel
theorem dX7_corner_21 : decode cX7_corner 21 = .ok (.iload_n 2, 1) := by decide +kernel
theorem dX7_corner_22 : decode cX7_corner 22 = .ok (.iload_n 3, 1) := by decide +kernel
theorem dX7_corner_23 : decode cX7_corner 23 = .ok (.invokevirtual 95, 3) := by decide +kernel
theorem dX7_corner_26 : decode cX7_corner 26 = .ok (.istore 4, 2) := by decide +kernel
theorem dX7_corner_28 : decode cX7_corner 28 = .ok (.iload 4, 2) := by decide +kernel
theorem dX7_corner_30 : decode cX7_corner 30 = .ok (.iconst (-1), 1) := by decide +kernel
theorem dX7_corner_31 : decode cX7_corner 31 = .ok (.if_icmp .eq 8, 3) := by decide +kernel
theorem dX7_corner_34 : decode cX7_corner 34 = .ok (.aload_n 0, 1) := by decide +kernel
theorem dX7_corner_35 : decode cX7_corner 35 = .ok (.iconst 0, 1) := by decide +kernel
theorem dX7_corner_36 : decode cX7_corner 36 = .ok (.putfield 73, 3) := by decide +kernel
theorem dX7_corner_39 : decode cX7_corner 39 = .ok (.iload 4, 2) := by decide +kernel
theorem dX7_corner_41 : decode cX7_corner 41 = .ok (.ireturn, 1) := by decide +kernel
theorem dX7_breaker_0 : decode cX7_breaker 0 = .ok (.aload_n 0, 1) := by decide +kernel
theorem dX7_breaker_1 : decode cX7_breaker 1 = .ok (.getfield 10, 3) := by decide +kernel
theorem dX7_breaker_4 : decode cX7_breaker 4 = .ok (.iload_n 1, 1) := by decide +kernel
theorem dX7_breaker_5 : decode cX7_breaker 5 = .ok (.invokevirtual 100, 3) := by decide +kernel
theorem dX7_breaker_8 : decode cX7_breaker 8 = .ok (.ifCond .eq 35, 3) := by decide +kernel
theorem dX7_breaker_11 : decode cX7_breaker 11 = .ok (.iload_n 2, 1) := by decide +kernel
theorem dX7_breaker_12 : decode cX7_breaker 12 = .ok (.iconst 0, 1) := by decide +kernel
theorem dX7_breaker_13 : decode cX7_breaker 13 = .ok (.bipush 7, 2) := by decide +kernel
theorem dX7_breaker_15 : decode cX7_breaker 15 = .ok (.invokestatic 62, 3) := by decide +kernel
theorem dX7_breaker_18 : decode cX7_breaker 18 = .ok (.ifCond .eq 25, 3) := by decide +kernel
theorem dX7_breaker_21 : decode cX7_breaker 21 = .ok (.iload_n 3, 1) := by decide +kernel
theorem dX7_breaker_22 : decode cX7_breaker 22 = .ok (.iconst 1, 1) := by decide +kernel
theorem dX7_breaker_23 : decode cX7_breaker 23 = .ok (.bipush 40, 2) := by decide +kernel
theorem dX7_breaker_25 : decode cX7_breaker 25 = .ok (.invokestatic 62, 3) := by decide +kernel
theorem dX7_breaker_28 : decode cX7_breaker 28 = .ok (.ifCond .eq 15, 3) := by decide +kernel
theorem dX7_breaker_31 : decode cX7_breaker 31 = .ok (.iload 4, 2) := by decide +kernel
theorem dX7_breaker_33 : decode cX7_breaker 33 = .ok (.iconst 1, 1) := by decide +kernel
theorem dX7_breaker_34 : decode cX7_breaker 34 = .ok (.sipush 10000, 3) := by decide +kernel
theorem dX7_breaker_37 : decode cX7_breaker 37 = .ok (.invokestatic 62, 3) := by decide +kernel
theorem dX7_breaker_40 : decode cX7_breaker 40 = .ok (.ifCond .ne 5, 3) := by decide +kernel
theorem dX7_breaker_43 : decode cX7_breaker 43 = .ok (.iconst 0, 1) := by decide +kernel
theorem dX7_breaker_44 : decode cX7_breaker 44 = .ok (.ireturn, 1) := by decide +kernel
theorem dX7_breaker_45 : decode cX7_breaker 45 = .ok (.aload_n 0, 1) := by decide +kernel
theorem dX7_breaker_46 : decode cX7_breaker 46 = .ok (.getfield 19, 3) := by decide +kernel
theorem dX7_breaker_49 : decode cX7_breaker 49 = .ok (.iload_n 1, 1) := by decide +kernel
theorem dX7_breaker_50 : decode cX7_breaker 50 = .ok (.iload_n 2, 1) := by decide +kernel
theorem dX7_breaker_51 : decode cX7_breaker 51 = .ok (.iload_n 3, 1) := by decide +kernel
theorem dX7_breaker_52 : decode cX7_breaker 52 = .ok (.iload 4, 2) := by decide +kernel
theorem dX7_breaker_54 : decode cX7_breaker 54 = .ok (.invokevirtual 103, 3) := by decide +kernel
theorem dX7_breaker_57 : decode cX7_breaker 57 = .ok (.aload_n 0, 1) := by decide +kernel
theorem dX7_breaker_58 : decode cX7_breaker 58 = .ok (.iconst 0, 1) := by decide +kernel
theorem dX7_breaker_59 : decode cX7_breaker 59 = .ok (.putfield 73, 3) := by decide +kernel
theorem dX7_breaker_62 : decode cX7_breaker 62 = .ok (.iconst 1, 1) := by decide +kernel
theorem dX7_breaker_63 : decode cX7_breaker 63 = .ok (.ireturn, 1) := by decide +kernel
theorem dX7_remove_0 : decode cX7_remove 0 = .ok (.aload_n 0, 1) := by decide +kernel
theorem dX7_remove_1 : decode cX7_remove 1 = .ok (.getfield 19, 3) := by decide +kernel
theorem dX7_remove_4 : decode cX7_remove 4 = .ok (.iload_n 1, 1) := by decide +kernel
theorem dX7_remove_5 : decode cX7_remove 5 = .ok (.invokevirtual 107, 3) := by decide +kernel
theorem dX7_remove_8 : decode cX7_remove 8 = .ok (.ifCond .ne 5, 3) := by decide +kernel
theorem dX7_remove_11 : decode cX7_remove 11 = .ok (.iconst 0, 1) := by decide +kernel
theorem dX7_remove_12 : decode cX7_remove 12 = .ok (.ireturn, 1) := by decide +kernel
theorem dX7_remove_13 : decode cX7_remove 13 = .ok (.aload_n 0, 1) := by decide +kernel
theorem dX7_remove_14 : decode cX7_remove 14 = .ok (.getfield 19, 3) := by decide +kernel
theorem dX7_remove_17 : decode cX7_remove 17 = .ok (.iload_n 1, 1) := by decide +kernel
theorem dX7_remove_18 : decode cX7_remove 18 = .ok (.invokevirtual 110, 3) := by decide +kernel
theorem dX7_remove_21 : decode cX7_remove 21 = .ok (.aload_n 0, 1) := by decide +kernel
theorem dX7_remove_22 : decode cX7_remove 22 = .ok (.iconst 0, 1) := by decide +kernel
theorem dX7_remove_23 : decode cX7_remove 23 = .ok (.putfield 73, 3) := by decide +kernel
theorem dX7_remove_26 : decode cX7_remove 26 = .ok (.iconst 1, 1) := by decide +kernel
theorem dX7_remove_27 : decode cX7_remove 27 = .ok (.ireturn, 1) := by decide +kernel
theorem dX7_dial_0 : decode cX7_dial 0 = .ok (.aload_n 0, 1) := by decide +kernel
theorem dX7_dial_1 : decode cX7_dial 1 = .ok (.getfield 19, 3) := by decide +kernel
theorem dX7_dial_4 : decode cX7_dial 4 = .ok (.iload_n 1, 1) := by decide +kernel
theorem dX7_dial_5 : decode cX7_dial 5 = .ok (.invokevirtual 107, 3) := by decide +kernel
theorem dX7_dial_8 : decode cX7_dial 8 = .ok (.ifCond .eq 13, 3) := by decide +kernel
theorem dX7_dial_11 : decode cX7_dial 11 = .ok (.iload_n 2, 1) := by decide +kernel
theorem dX7_dial_12 : decode cX7_dial 12 = .ok (.iconst 1, 1) := by decide +kernel
theorem dX7_dial_13 : decode cX7_dial 13 = .ok (.bipush 40, 2) := by decide +kernel
theorem dX7_dial_15 : decode cX7_dial 15 = .ok (.invokestatic 62, 3) := by decide +kernel
theorem dX7_dial_18 : decode cX7_dial 18 = .ok (.ifCond .ne 5, 3) := by decide +kernel
theorem dX7_dial_21 : decode cX7_dial 21 = .ok (.iconst 0, 1) := by decide +kernel
theorem dX7_dial_22 : decode cX7_dial 22 = .ok (.ireturn, 1) := by decide +kernel
theorem dX7_dial_23 : decode cX7_dial 23 = .ok (.aload_n 0, 1) := by decide +kernel
theorem dX7_dial_24 : decode cX7_dial 24 = .ok (.getfield 19, 3) := by decide +kernel
theorem dX7_dial_27 : decode cX7_dial 27 = .ok (.getfield 114, 3) := by decide +kernel
theorem dX7_dial_30 : decode cX7_dial 30 = .ok (.iload_n 1, 1) := by decide +kernel
theorem dX7_dial_31 : decode cX7_dial 31 = .ok (.iload_n 2, 1) := by decide +kernel
theorem dX7_dial_32 : decode cX7_dial 32 = .ok (.iastore, 1) := by decide +kernel
theorem dX7_dial_33 : decode cX7_dial 33 = .ok (.aload_n 0, 1) := by decide +kernel
theorem dX7_dial_34 : decode cX7_dial 34 = .ok (.iconst 0, 1) := by decide +kernel
theorem dX7_dial_35 : decode cX7_dial 35 = .ok (.putfield 73, 3) := by decide +kernel
theorem dX7_dial_38 : decode cX7_dial 38 = .ok (.iconst 1, 1) := by decide +kernel
theorem dX7_dial_39 : decode cX7_dial 39 = .ok (.ireturn, 1) := by decide +kernel
theorem dX7_fails_0 : decode cX7_fails 0 = .ok (.aload_n 0, 1) := by decide +kernel
theorem dX7_fails_1 : decode cX7_fails 1 = .ok (.getfield 19, 3) := by decide +kernel
theorem dX7_fails_4 : decode cX7_fails 4 = .ok (.iload_n 1, 1) := by decide +kernel
theorem dX7_fails_5 : decode cX7_fails 5 = .ok (.invokevirtual 107, 3) := by decide +kernel
theorem dX7_fails_8 : decode cX7_fails 8 = .ok (.ifCond .ne 5, 3) := by decide +kernel
theorem dX7_fails_11 : decode cX7_fails 11 = .ok (.iconst 0, 1) := by decide +kernel
theorem dX7_fails_12 : decode cX7_fails 12 = .ok (.ireturn, 1) := by decide +kernel
theorem dX7_fails_13 : decode cX7_fails 13 = .ok (.aload_n 0, 1) := by decide +kernel
theorem dX7_fails_14 : decode cX7_fails 14 = .ok (.getfield 19, 3) := by decide +kernel
theorem dX7_fails_17 : decode cX7_fails 17 = .ok (.iload_n 1, 1) := by decide +kernel
theorem dX7_fails_18 : decode cX7_fails 18 = .ok (.iload_n 2, 1) := by decide +kernel
theorem dX7_fails_19 : decode cX7_fails 19 = .ok (.invokevirtual 117, 3) := by decide +kernel
theorem dX7_fails_22 : decode cX7_fails 22 = .ok (.aload_n 0, 1) := by decide +kernel
theorem dX7_fails_23 : decode cX7_fails 23 = .ok (.iconst 0, 1) := by decide +kernel
theorem dX7_fails_24 : decode cX7_fails 24 = .ok (.putfield 73, 3) := by decide +kernel
theorem dX7_fails_27 : decode cX7_fails 27 = .ok (.iconst 1, 1) := by decide +kernel
theorem dX7_fails_28 : decode cX7_fails 28 = .ok (.ireturn, 1) := by decide +kernel
theorem dX7_told_0 : decode cX7_told 0 = .ok (.iload_n 1, 1) := by decide +kernel
theorem dX7_told_1 : decode cX7_told 1 = .ok (.iconst 1, 1) := by decide +kernel
theorem dX7_told_2 : decode cX7_told 2 = .ok (.sipush 10000, 3) := by decide +kernel
theorem dX7_told_5 : decode cX7_told 5 = .ok (.invokestatic 62, 3) := by decide +kernel
theorem dX7_told_8 : decode cX7_told 8 = .ok (.ifCond .eq 24, 3) := by decide +kernel
theorem dX7_told_11 : decode cX7_told 11 = .ok (.iload_n 2, 1) := by decide +kernel
theorem dX7_told_12 : decode cX7_told 12 = .ok (.iconst 1, 1) := by decide +kernel
theorem dX7_told_13 : decode cX7_told 13 = .ok (.ldc 121, 2) := by decide +kernel
theorem dX7_told_15 : decode cX7_told 15 = .ok (.invokestatic 62, 3) := by decide +kernel
theorem dX7_told_18 : decode cX7_told 18 = .ok (.ifCond .eq 14, 3) := by decide +kernel
theorem dX7_told_21 : decode cX7_told 21 = .ok (.iload_n 3, 1) := by decide +kernel
theorem dX7_told_22 : decode cX7_told 22 = .ok (.iconst 0, 1) := by decide +kernel
theorem dX7_told_23 : decode cX7_told 23 = .ok (.sipush 1000, 3) := by decide +kernel
theorem dX7_told_26 : decode cX7_told 26 = .ok (.invokestatic 62, 3) := by decide +kernel
theorem dX7_told_29 : decode cX7_told 29 = .ok (.ifCond .ne 5, 3) := by decide +kernel
theorem dX7_told_32 : decode cX7_told 32 = .ok (.iconst 0, 1) := by decide +kernel
theorem dX7_told_33 : decode cX7_told 33 = .ok (.ireturn, 1) := by decide +kernel
theorem dX7_told_34 : decode cX7_told 34 = .ok (.aload_n 0, 1) := by decide +kernel
theorem dX7_told_35 : decode cX7_told 35 = .ok (.getfield 26, 3) := by decide +kernel
theorem dX7_told_38 : decode cX7_told 38 = .ok (.iload_n 1, 1) := by decide +kernel
theorem dX7_told_39 : decode cX7_told 39 = .ok (.putfield 122, 3) := by decide +kernel
theorem dX7_told_42 : decode cX7_told 42 = .ok (.aload_n 0, 1) := by decide +kernel
theorem dX7_told_43 : decode cX7_told 43 = .ok (.getfield 26, 3) := by decide +kernel
theorem dX7_told_46 : decode cX7_told 46 = .ok (.iload_n 2, 1) := by decide +kernel
theorem dX7_told_47 : decode cX7_told 47 = .ok (.putfield 125, 3) := by decide +kernel
theorem dX7_told_50 : decode cX7_told 50 = .ok (.aload_n 0, 1) := by decide +kernel
theorem dX7_told_51 : decode cX7_told 51 = .ok (.getfield 26, 3) := by decide +kernel
theorem dX7_told_54 : decode cX7_told 54 = .ok (.iload_n 3, 1) := by decide +kernel
theorem dX7_told_55 : decode cX7_told 55 = .ok (.putfield 128, 3) := by decide +kernel
theorem dX7_told_58 : decode cX7_told 58 = .ok (.aload_n 0, 1) := by decide +kernel
theorem dX7_told_59 : decode cX7_told 59 = .ok (.iconst 0, 1) := by decide +kernel
theorem dX7_told_60 : decode cX7_told 60 = .ok (.putfield 73, 3) := by decide +kernel
theorem dX7_told_63 : decode cX7_told 63 = .ok (.iconst 1, 1) := by decide +kernel
theorem dX7_told_64 : decode cX7_told 64 = .ok (.ireturn, 1) := by decide +kernel
theorem dX7_lineOf_0 : decode cX7_lineOf 0 = .ok (.aload_n 0, 1) := by decide +kernel
theorem dX7_lineOf_1 : decode cX7_lineOf 1 = .ok (.getfield 10, 3) := by decide +kernel
theorem dX7_lineOf_4 : decode cX7_lineOf 4 = .ok (.iload_n 1, 1) := by decide +kernel
theorem dX7_lineOf_5 : decode cX7_lineOf 5 = .ok (.invokevirtual 100, 3) := by decide +kernel
theorem dX7_lineOf_8 : decode cX7_lineOf 8 = .ok (.ifCond .ne 5, 3) := by decide +kernel
theorem dX7_lineOf_11 : decode cX7_lineOf 11 = .ok (.iconst (-1), 1) := by decide +kernel
theorem dX7_lineOf_12 : decode cX7_lineOf 12 = .ok (.ireturn, 1) := by decide +kernel
theorem dX7_lineOf_13 : decode cX7_lineOf 13 = .ok (.iload_n 2, 1) := by decide +kernel
theorem dX7_lineOf_14 : decode cX7_lineOf 14 = .ok (.tableswitch 99 0 4 #[34, 44, 64, 73, 82], 34) := by decide +kernel
theorem dX7_lineOf_48 : decode cX7_lineOf 48 = .ok (.aload_n 0, 1) := by decide +kernel
theorem dX7_lineOf_49 : decode cX7_lineOf 49 = .ok (.getfield 10, 3) := by decide +kernel
theorem dX7_lineOf_52 : decode cX7_lineOf 52 = .ok (.getfield 131, 3) := by decide +kernel
theorem dX7_lineOf_55 : decode cX7_lineOf 55 = .ok (.iload_n 1, 1) := by decide +kernel
theorem dX7_lineOf_56 : decode cX7_lineOf 56 = .ok (.iaload, 1) := by decide +kernel
theorem dX7_lineOf_57 : decode cX7_lineOf 57 = .ok (.ireturn, 1) := by decide +kernel
theorem dX7_lineOf_58 : decode cX7_lineOf 58 = .ok (.aload_n 0, 1) := by decide +kernel
theorem dX7_lineOf_59 : decode cX7_lineOf 59 = .ok (.getfield 19, 3) := by decide +kernel
theorem dX7_lineOf_62 : decode cX7_lineOf 62 = .ok (.aload_n 0, 1) := by decide +kernel
theorem dX7_lineOf_63 : decode cX7_lineOf 63 = .ok (.getfield 10, 3) := by decide +kernel
theorem dX7_lineOf_66 : decode cX7_lineOf 66 = .ok (.getfield 134, 3) := by decide +kernel
theorem dX7_lineOf_69 : decode cX7_lineOf 69 = .ok (.iload_n 1, 1) := by decide +kernel
theorem dX7_lineOf_70 : decode cX7_lineOf 70 = .ok (.iaload, 1) := by decide +kernel
theorem dX7_lineOf_71 : decode cX7_lineOf 71 = .ok (.invokevirtual 137, 3) := by decide +kernel
theorem dX7_lineOf_74 : decode cX7_lineOf 74 = .ok (.invokestatic 141, 3) := by decide +kernel
theorem dX7_lineOf_77 : decode cX7_lineOf 77 = .ok (.ireturn, 1) := by decide +kernel
theorem dX7_lineOf_78 : decode cX7_lineOf 78 = .ok (.aload_n 0, 1) := by decide +kernel
theorem dX7_lineOf_79 : decode cX7_lineOf 79 = .ok (.iload_n 1, 1) := by decide +kernel
theorem dX7_lineOf_80 : decode cX7_lineOf 80 = .ok (.invokevirtual 144, 3) := by decide +kernel
theorem dX7_lineOf_83 : decode cX7_lineOf 83 = .ok (.invokestatic 141, 3) := by decide +kernel
theorem dX7_lineOf_86 : decode cX7_lineOf 86 = .ok (.ireturn, 1) := by decide +kernel
theorem dX7_lineOf_87 : decode cX7_lineOf 87 = .ok (.aload_n 0, 1) := by decide +kernel
theorem dX7_lineOf_88 : decode cX7_lineOf 88 = .ok (.getfield 10, 3) := by decide +kernel
theorem dX7_lineOf_91 : decode cX7_lineOf 91 = .ok (.iload_n 1, 1) := by decide +kernel
theorem dX7_lineOf_92 : decode cX7_lineOf 92 = .ok (.invokevirtual 147, 3) := by decide +kernel
theorem dX7_lineOf_95 : decode cX7_lineOf 95 = .ok (.ireturn, 1) := by decide +kernel
theorem dX7_lineOf_96 : decode cX7_lineOf 96 = .ok (.aload_n 0, 1) := by decide +kernel
theorem dX7_lineOf_97 : decode cX7_lineOf 97 = .ok (.getfield 19, 3) := by decide +kernel
theorem dX7_lineOf_100 : decode cX7_lineOf 100 = .ok (.iload_n 1, 1) := by decide +kernel
theorem dX7_lineOf_101 : decode cX7_lineOf 101 = .ok (.invokevirtual 107, 3) := by decide +kernel
theorem dX7_lineOf_104 : decode cX7_lineOf 104 = .ok (.ifCond .eq 7, 3) := by decide +kernel
theorem dX7_lineOf_107 : decode cX7_lineOf 107 = .ok (.iconst 1, 1) := by decide +kernel
theorem dX7_lineOf_108 : decode cX7_lineOf 108 = .ok (.goto 4, 3) := by decide +kernel
theorem dX7_lineOf_111 : decode cX7_lineOf 111 = .ok (.iconst 0, 1) := by decide +kernel
theorem dX7_lineOf_112 : decode cX7_lineOf 112 = .ok (.ireturn, 1) := by decide +kernel
theorem dX7_lineOf_113 : decode cX7_lineOf 113 = .ok (.aload_n 0, 1) := by decide +kernel
theorem dX7_lineOf_114 : decode cX7_lineOf 114 = .ok (.iload_n 1, 1) := by decide +kernel
theorem dX7_lineOf_115 : decode cX7_lineOf 115 = .ok (.iload_n 2, 1) := by decide +kernel
theorem dX7_lineOf_116 : decode cX7_lineOf 116 = .ok (.invokevirtual 150, 3) := by decide +kernel
theorem dX7_lineOf_119 : decode cX7_lineOf 119 = .ok (.ireturn, 1) := by decide +kernel
theorem dX7_fault_0 : decode cX7_fault 0 = .ok (.aload_n 0, 1) := by decide +kernel
theorem dX7_fault_1 : decode cX7_fault 1 = .ok (.getfield 10, 3) := by decide +kernel
theorem dX7_fault_4 : decode cX7_fault 4 = .ok (.iload_n 1, 1) := by decide +kernel
theorem dX7_fault_5 : decode cX7_fault 5 = .ok (.iload_n 2, 1) := by decide +kernel
theorem dX7_fault_6 : decode cX7_fault 6 = .ok (.iload_n 3, 1) := by decide +kernel
theorem dX7_fault_7 : decode cX7_fault 7 = .ok (.invokevirtual 153, 3) := by decide +kernel
theorem dX7_fault_10 : decode cX7_fault 10 = .ok (.ifCond .ne 7, 3) := by decide +kernel
theorem dX7_fault_13 : decode cX7_fault 13 = .ok (.ldc2_w 156, 3) := by decide +kernel
theorem dX7_fault_16 : decode cX7_fault 16 = .ok (.lreturn, 1) := by decide +kernel
theorem dX7_fault_17 : decode cX7_fault 17 = .ok (.aload_n 0, 1) := by decide +kernel
theorem dX7_fault_18 : decode cX7_fault 18 = .ok (.getfield 10, 3) := by decide +kernel
theorem dX7_fault_21 : decode cX7_fault 21 = .ok (.iload_n 1, 1) := by decide +kernel
theorem dX7_fault_22 : decode cX7_fault 22 = .ok (.iload_n 2, 1) := by decide +kernel
theorem dX7_fault_23 : decode cX7_fault 23 = .ok (.iload_n 3, 1) := by decide +kernel
theorem dX7_fault_24 : decode cX7_fault 24 = .ok (.invokevirtual 158, 3) := by decide +kernel
theorem dX7_fault_27 : decode cX7_fault 27 = .ok (.lstore 5, 2) := by decide +kernel
theorem dX7_fault_29 : decode cX7_fault 29 = .ok (.iload 4, 2) := by decide +kernel
theorem dX7_fault_31 : decode cX7_fault 31 = .ok (.ifCond .ne 6, 3) := by decide +kernel
theorem dX7_fault_34 : decode cX7_fault 34 = .ok (.lload 5, 2) := by decide +kernel
theorem dX7_fault_36 : decode cX7_fault 36 = .ok (.lreturn, 1) := by decide +kernel
theorem dX7_fault_37 : decode cX7_fault 37 = .ok (.iload 4, 2) := by decide +kernel
theorem dX7_fault_39 : decode cX7_fault 39 = .ok (.iconst 1, 1) := by decide +kernel
theorem dX7_fault_40 : decode cX7_fault 40 = .ok (.if_icmp .ne 25, 3) := by decide +kernel
theorem dX7_fault_43 : decode cX7_fault 43 = .ok (.lload 5, 2) := by decide +kernel
theorem dX7_fault_45 : decode cX7_fault 45 = .ok (.lconst 0, 1) := by decide +kernel
theorem dX7_fault_46 : decode cX7_fault 46 = .ok (.lcmp, 1) := by decide +kernel
theorem dX7_fault_47 : decode cX7_fault 47 = .ok (.ifCond .le 18, 3) := by decide +kernel
theorem dX7_fault_50 : decode cX7_fault 50 = .ok (.ldc2_w 162, 3) := by decide +kernel
theorem dX7_fault_53 : decode cX7_fault 53 = .ok (.aload_n 0, 1) := by decide +kernel
theorem dX7_fault_54 : decode cX7_fault 54 = .ok (.getfield 10, 3) := by decide +kernel
theorem dX7_fault_57 : decode cX7_fault 57 = .ok (.invokevirtual 164, 3) := by decide +kernel
theorem dX7_fault_60 : decode cX7_fault 60 = .ok (.lmul, 1) := by decide +kernel
theorem dX7_fault_61 : decode cX7_fault 61 = .ok (.lload 5, 2) := by decide +kernel
theorem dX7_fault_63 : decode cX7_fault 63 = .ok (.ldiv, 1) := by decide +kernel
theorem dX7_fault_64 : decode cX7_fault 64 = .ok (.lreturn, 1) := by decide +kernel
theorem dX7_fault_65 : decode cX7_fault 65 = .ok (.ldc2_w 156, 3) := by decide +kernel
theorem dX7_fault_68 : decode cX7_fault 68 = .ok (.lreturn, 1) := by decide +kernel
theorem dX7_waits_0 : decode cX7_waits 0 = .ok (.aload_n 0, 1) := by decide +kernel
theorem dX7_waits_1 : decode cX7_waits 1 = .ok (.getfield 10, 3) := by decide +kernel
theorem dX7_waits_4 : decode cX7_waits 4 = .ok (.iload_n 2, 1) := by decide +kernel
theorem dX7_waits_5 : decode cX7_waits 5 = .ok (.iload_n 3, 1) := by decide +kernel
theorem dX7_waits_6 : decode cX7_waits 6 = .ok (.iload 4, 2) := by decide +kernel
theorem dX7_waits_8 : decode cX7_waits 8 = .ok (.invokevirtual 153, 3) := by decide +kernel
theorem dX7_waits_11 : decode cX7_waits 11 = .ok (.ifCond .eq 15, 3) := by decide +kernel
theorem dX7_waits_14 : decode cX7_waits 14 = .ok (.aload_n 0, 1) := by decide +kernel
theorem dX7_waits_15 : decode cX7_waits 15 = .ok (.getfield 10, 3) := by decide +kernel
theorem dX7_waits_18 : decode cX7_waits 18 = .ok (.iload_n 1, 1) := by decide +kernel
theorem dX7_waits_19 : decode cX7_waits 19 = .ok (.iload_n 2, 1) := by decide +kernel
theorem dX7_waits_20 : decode cX7_waits 20 = .ok (.invokevirtual 168, 3) := by decide +kernel
theorem dX7_waits_23 : decode cX7_waits 23 = .ok (.ifCond .ne 5, 3) := by decide +kernel
theorem dX7_waits_26 : decode cX7_waits 26 = .ok (.iconst (-1), 1) := by decide +kernel
theorem dX7_waits_27 : decode cX7_waits 27 = .ok (.ireturn, 1) := by decide +kernel
theorem dX7_waits_28 : decode cX7_waits 28 = .ok (.aload_n 0, 1) := by decide +kernel
theorem dX7_waits_29 : decode cX7_waits 29 = .ok (.getfield 19, 3) := by decide +kernel
theorem dX7_waits_32 : decode cX7_waits 32 = .ok (.iload_n 1, 1) := by decide +kernel
theorem dX7_waits_33 : decode cX7_waits 33 = .ok (.aload_n 0, 1) := by decide +kernel
theorem dX7_waits_34 : decode cX7_waits 34 = .ok (.getfield 10, 3) := by decide +kernel
theorem dX7_waits_37 : decode cX7_waits 37 = .ok (.invokevirtual 164, 3) := by decide +kernel
theorem dX7_waits_40 : decode cX7_waits 40 = .ok (.aload_n 0, 1) := by decide +kernel
theorem dX7_waits_41 : decode cX7_waits 41 = .ok (.getfield 10, 3) := by decide +kernel
theorem dX7_waits_44 : decode cX7_waits 44 = .ok (.iload_n 2, 1) := by decide +kernel
theorem dX7_waits_45 : decode cX7_waits 45 = .ok (.iload_n 3, 1) := by decide +kernel
theorem dX7_waits_46 : decode cX7_waits 46 = .ok (.iload 4, 2) := by decide +kernel
theorem dX7_waits_48 : decode cX7_waits 48 = .ok (.invokevirtual 158, 3) := by decide +kernel
theorem dX7_waits_51 : decode cX7_waits 51 = .ok (.invokevirtual 172, 3) := by decide +kernel
theorem dX7_waits_54 : decode cX7_waits 54 = .ok (.ireturn, 1) := by decide +kernel
theorem dX7_run_0 : decode cX7_run 0 = .ok (.aload_n 0, 1) := by decide +kernel
theorem dX7_run_1 : decode cX7_run 1 = .ok (.getfield 10, 3) := by decide +kernel
theorem dX7_run_4 : decode cX7_run 4 = .ok (.iload_n 1, 1) := by decide +kernel
theorem dX7_run_5 : decode cX7_run 5 = .ok (.iload_n 2, 1) := by decide +kernel
theorem dX7_run_6 : decode cX7_run 6 = .ok (.iload_n 3, 1) := by decide +kernel
theorem dX7_run_7 : decode cX7_run 7 = .ok (.invokevirtual 153, 3) := by decide +kernel
theorem dX7_run_10 : decode cX7_run 10 = .ok (.ifCond .ne 5, 3) := by decide +kernel
theorem dX7_run_13 : decode cX7_run 13 = .ok (.iconst (-1), 1) := by decide +kernel
theorem dX7_run_14 : decode cX7_run 14 = .ok (.ireturn, 1) := by decide +kernel
theorem dX7_run_15 : decode cX7_run 15 = .ok (.aload_n 0, 1) := by decide +kernel
theorem dX7_run_16 : decode cX7_run 16 = .ok (.iload_n 1, 1) := by decide +kernel
theorem dX7_run_17 : decode cX7_run 17 = .ok (.iload_n 2, 1) := by decide +kernel
theorem dX7_run_18 : decode cX7_run 18 = .ok (.iload_n 3, 1) := by decide +kernel
theorem dX7_run_19 : decode cX7_run 19 = .ok (.invokevirtual 176, 3) := by decide +kernel
theorem dX7_run_22 : decode cX7_run 22 = .ok (.istore 4, 2) := by decide +kernel
theorem dX7_run_24 : decode cX7_run 24 = .ok (.aload_n 0, 1) := by decide +kernel
theorem dX7_run_25 : decode cX7_run 25 = .ok (.aload_n 0, 1) := by decide +kernel
theorem dX7_run_26 : decode cX7_run 26 = .ok (.iload_n 1, 1) := by decide +kernel
theorem dX7_run_27 : decode cX7_run 27 = .ok (.iload_n 2, 1) := by decide +kernel
theorem dX7_run_28 : decode cX7_run 28 = .ok (.iload_n 3, 1) := by decide +kernel
theorem dX7_run_29 : decode cX7_run 29 = .ok (.iload 4, 2) := by decide +kernel
theorem dX7_run_31 : decode cX7_run 31 = .ok (.invokevirtual 180, 3) := by decide +kernel
theorem dX7_run_34 : decode cX7_run 34 = .ok (.putfield 184, 3) := by decide +kernel
theorem dX7_run_37 : decode cX7_run 37 = .ok (.aload_n 0, 1) := by decide +kernel
theorem dX7_run_38 : decode cX7_run 38 = .ok (.iconst 1, 1) := by decide +kernel
theorem dX7_run_39 : decode cX7_run 39 = .ok (.putfield 73, 3) := by decide +kernel
theorem dX7_run_42 : decode cX7_run 42 = .ok (.iload 4, 2) := by decide +kernel
theorem dX7_run_44 : decode cX7_run 44 = .ok (.ireturn, 1) := by decide +kernel
theorem dX7_ran_0 : decode cX7_ran 0 = .ok (.aload_n 0, 1) := by decide +kernel
theorem dX7_ran_1 : decode cX7_ran 1 = .ok (.getfield 73, 3) := by decide +kernel
theorem dX7_ran_4 : decode cX7_ran 4 = .ok (.ifCond .ne 5, 3) := by decide +kernel
theorem dX7_ran_7 : decode cX7_ran 7 = .ok (.iconst (-1), 1) := by decide +kernel
theorem dX7_ran_8 : decode cX7_ran 8 = .ok (.ireturn, 1) := by decide +kernel
theorem dX7_ran_9 : decode cX7_ran 9 = .ok (.iload_n 2, 1) := by decide +kernel
theorem dX7_ran_10 : decode cX7_ran 10 = .ok (.ifCond .ne 23, 3) := by decide +kernel
theorem dX7_ran_13 : decode cX7_ran 13 = .ok (.aload_n 0, 1) := by decide +kernel
theorem dX7_ran_14 : decode cX7_ran 14 = .ok (.getfield 19, 3) := by decide +kernel
theorem dX7_ran_17 : decode cX7_ran 17 = .ok (.iload_n 1, 1) := by decide +kernel
theorem dX7_ran_18 : decode cX7_ran 18 = .ok (.invokevirtual 107, 3) := by decide +kernel
theorem dX7_ran_21 : decode cX7_ran 21 = .ok (.ifCond .eq 12, 3) := by decide +kernel
theorem dX7_ran_24 : decode cX7_ran 24 = .ok (.aload_n 0, 1) := by decide +kernel
theorem dX7_ran_25 : decode cX7_ran 25 = .ok (.getfield 184, 3) := by decide +kernel
theorem dX7_ran_28 : decode cX7_ran 28 = .ok (.iload_n 1, 1) := by decide +kernel
theorem dX7_ran_29 : decode cX7_ran 29 = .ok (.ishr, 1) := by decide +kernel
theorem dX7_ran_30 : decode cX7_ran 30 = .ok (.iconst 1, 1) := by decide +kernel
theorem dX7_ran_31 : decode cX7_ran 31 = .ok (.iand, 1) := by decide +kernel
theorem dX7_ran_32 : decode cX7_ran 32 = .ok (.ireturn, 1) := by decide +kernel
theorem dX7_ran_33 : decode cX7_ran 33 = .ok (.iload_n 2, 1) := by decide +kernel
theorem dX7_ran_34 : decode cX7_ran 34 = .ok (.iconst 1, 1) := by decide +kernel
theorem dX7_ran_35 : decode cX7_ran 35 = .ok (.if_icmp .ne 37, 3) := by decide +kernel
theorem dX7_ran_38 : decode cX7_ran 38 = .ok (.aload_n 0, 1) := by decide +kernel
theorem dX7_ran_39 : decode cX7_ran 39 = .ok (.getfield 10, 3) := by decide +kernel
theorem dX7_ran_42 : decode cX7_ran 42 = .ok (.iload_n 1, 1) := by decide +kernel
theorem dX7_ran_43 : decode cX7_ran 43 = .ok (.invokevirtual 77, 3) := by decide +kernel
theorem dX7_ran_46 : decode cX7_ran 46 = .ok (.ifCond .eq 26, 3) := by decide +kernel
theorem dX7_ran_49 : decode cX7_ran 49 = .ok (.aload_n 0, 1) := by decide +kernel
theorem dX7_ran_50 : decode cX7_ran 50 = .ok (.getfield 10, 3) := by decide +kernel
theorem dX7_ran_53 : decode cX7_ran 53 = .ok (.getfield 134, 3) := by decide +kernel
theorem dX7_ran_56 : decode cX7_ran 56 = .ok (.iload_n 1, 1) := by decide +kernel
theorem dX7_ran_57 : decode cX7_ran 57 = .ok (.iaload, 1) := by decide +kernel
theorem dX7_ran_58 : decode cX7_ran 58 = .ok (.aload_n 0, 1) := by decide +kernel
theorem dX7_ran_59 : decode cX7_ran 59 = .ok (.getfield 184, 3) := by decide +kernel
theorem dX7_ran_62 : decode cX7_ran 62 = .ok (.iand, 1) := by decide +kernel
theorem dX7_ran_63 : decode cX7_ran 63 = .ok (.ifCond .eq 7, 3) := by decide +kernel
theorem dX7_ran_66 : decode cX7_ran 66 = .ok (.iconst 1, 1) := by decide +kernel
theorem dX7_ran_67 : decode cX7_ran 67 = .ok (.goto 4, 3) := by decide +kernel
theorem dX7_ran_70 : decode cX7_ran 70 = .ok (.iconst 0, 1) := by decide +kernel
theorem dX7_ran_71 : decode cX7_ran 71 = .ok (.ireturn, 1) := by decide +kernel
theorem dX7_ran_72 : decode cX7_ran 72 = .ok (.iconst (-1), 1) := by decide +kernel
theorem dX7_ran_73 : decode cX7_ran 73 = .ok (.ireturn, 1) := by decide +kernel
theorem dX7_right_0 : decode cX7_right 0 = .ok (.iload_n 1, 1) := by decide +kernel
theorem dX7_right_1 : decode cX7_right 1 = .ok (.iconst 0, 1) := by decide +kernel
theorem dX7_right_2 : decode cX7_right 2 = .ok (.iconst 3, 1) := by decide +kernel
theorem dX7_right_3 : decode cX7_right 3 = .ok (.invokestatic 62, 3) := by decide +kernel
theorem dX7_right_6 : decode cX7_right 6 = .ok (.ifCond .ne 5, 3) := by decide +kernel
theorem dX7_right_9 : decode cX7_right 9 = .ok (.iconst (-1), 1) := by decide +kernel
theorem dX7_right_10 : decode cX7_right 10 = .ok (.ireturn, 1) := by decide +kernel
theorem dX7_right_11 : decode cX7_right 11 = .ok (.aload_n 0, 1) := by decide +kernel
theorem dX7_right_12 : decode cX7_right 12 = .ok (.getfield 35, 3) := by decide +kernel
theorem dX7_right_15 : decode cX7_right 15 = .ok (.invokevirtual 187, 3) := by decide +kernel
theorem dX7_right_18 : decode cX7_right 18 = .ok (.iload_n 1, 1) := by decide +kernel
theorem dX7_right_19 : decode cX7_right 19 = .ok (.tableswitch 49 0 2 #[25, 33, 41], 25) := by decide +kernel
theorem dX7_right_44 : decode cX7_right 44 = .ok (.aload_n 0, 1) := by decide +kernel
theorem dX7_right_45 : decode cX7_right 45 = .ok (.getfield 35, 3) := by decide +kernel
theorem dX7_right_48 : decode cX7_right 48 = .ok (.getfield 190, 3) := by decide +kernel
theorem dX7_right_51 : decode cX7_right 51 = .ok (.ireturn, 1) := by decide +kernel
theorem dX7_right_52 : decode cX7_right 52 = .ok (.aload_n 0, 1) := by decide +kernel
theorem dX7_right_53 : decode cX7_right 53 = .ok (.getfield 35, 3) := by decide +kernel
theorem dX7_right_56 : decode cX7_right 56 = .ok (.getfield 193, 3) := by decide +kernel
theorem dX7_right_59 : decode cX7_right 59 = .ok (.ireturn, 1) := by decide +kernel
theorem dX7_right_60 : decode cX7_right 60 = .ok (.aload_n 0, 1) := by decide +kernel
theorem dX7_right_61 : decode cX7_right 61 = .ok (.getfield 35, 3) := by decide +kernel
theorem dX7_right_64 : decode cX7_right 64 = .ok (.getfield 196, 3) := by decide +kernel
theorem dX7_right_67 : decode cX7_right 67 = .ok (.ireturn, 1) := by decide +kernel
theorem dX7_right_68 : decode cX7_right 68 = .ok (.aload_n 0, 1) := by decide +kernel
theorem dX7_right_69 : decode cX7_right 69 = .ok (.getfield 35, 3) := by decide +kernel
theorem dX7_right_72 : decode cX7_right 72 = .ok (.getfield 198, 3) := by decide +kernel
theorem dX7_right_75 : decode cX7_right 75 = .ok (.ireturn, 1) := by decide +kernel
theorem dX7_fit_0 : decode cX7_fit 0 = .ok (.aload_n 0, 1) := by decide +kernel
theorem dX7_fit_1 : decode cX7_fit 1 = .ok (.invokevirtual 201, 3) := by decide +kernel
theorem dX7_fit_4 : decode cX7_fit 4 = .ok (.ifCond .ne 5, 3) := by decide +kernel
theorem dX7_fit_7 : decode cX7_fit 7 = .ok (.iconst (-1), 1) := by decide +kernel
theorem dX7_fit_8 : decode cX7_fit 8 = .ok (.ireturn, 1) := by decide +kernel
theorem dX7_fit_9 : decode cX7_fit 9 = .ok (.aload_n 0, 1) := by decide +kernel
theorem dX7_fit_10 : decode cX7_fit 10 = .ok (.getfield 19, 3) := by decide +kernel
theorem dX7_fit_13 : decode cX7_fit 13 = .ok (.getfield 114, 3) := by decide +kernel
theorem dX7_fit_16 : decode cX7_fit 16 = .ok (.iconst 0, 1) := by decide +kernel
theorem dX7_fit_17 : decode cX7_fit 17 = .ok (.aload_n 0, 1) := by decide +kernel
theorem dX7_fit_18 : decode cX7_fit 18 = .ok (.getfield 59, 3) := by decide +kernel
theorem dX7_fit_21 : decode cX7_fit 21 = .ok (.iconst 0, 1) := by decide +kernel
theorem dX7_fit_22 : decode cX7_fit 22 = .ok (.bipush 30, 2) := by decide +kernel
theorem dX7_fit_24 : decode cX7_fit 24 = .ok (.invokestatic 205, 3) := by decide +kernel
theorem dX7_fit_27 : decode cX7_fit 27 = .ok (.aload_n 0, 1) := by decide +kernel
theorem dX7_fit_28 : decode cX7_fit 28 = .ok (.getfield 55, 3) := by decide +kernel
theorem dX7_fit_31 : decode cX7_fit 31 = .ok (.iconst 0, 1) := by decide +kernel
theorem dX7_fit_32 : decode cX7_fit 32 = .ok (.aload_n 0, 1) := by decide +kernel
theorem dX7_fit_33 : decode cX7_fit 33 = .ok (.getfield 19, 3) := by decide +kernel
theorem dX7_fit_36 : decode cX7_fit 36 = .ok (.getfield 114, 3) := by decide +kernel
theorem dX7_fit_39 : decode cX7_fit 39 = .ok (.iconst 0, 1) := by decide +kernel
theorem dX7_fit_40 : decode cX7_fit 40 = .ok (.bipush 30, 2) := by decide +kernel
theorem dX7_fit_42 : decode cX7_fit 42 = .ok (.invokestatic 205, 3) := by decide +kernel
theorem dX7_fit_45 : decode cX7_fit 45 = .ok (.aload_n 0, 1) := by decide +kernel
theorem dX7_fit_46 : decode cX7_fit 46 = .ok (.getfield 35, 3) := by decide +kernel
theorem dX7_fit_49 : decode cX7_fit 49 = .ok (.invokevirtual 187, 3) := by decide +kernel
theorem dX7_fit_52 : decode cX7_fit 52 = .ok (.aload_n 0, 1) := by decide +kernel
theorem dX7_fit_53 : decode cX7_fit 53 = .ok (.getfield 35, 3) := by decide +kernel
theorem dX7_fit_56 : decode cX7_fit 56 = .ok (.getfield 190, 3) := by decide +kernel
theorem dX7_fit_59 : decode cX7_fit 59 = .ok (.ifCond .eq 23, 3) := by decide +kernel
theorem dX7_fit_62 : decode cX7_fit 62 = .ok (.aload_n 0, 1) := by decide +kernel
theorem dX7_fit_63 : decode cX7_fit 63 = .ok (.getfield 59, 3) := by decide +kernel
theorem dX7_fit_66 : decode cX7_fit 66 = .ok (.iconst 0, 1) := by decide +kernel
theorem dX7_fit_67 : decode cX7_fit 67 = .ok (.aload_n 0, 1) := by decide +kernel
theorem dX7_fit_68 : decode cX7_fit 68 = .ok (.getfield 19, 3) := by decide +kernel
theorem dX7_fit_71 : decode cX7_fit 71 = .ok (.getfield 114, 3) := by decide +kernel
theorem dX7_fit_74 : decode cX7_fit 74 = .ok (.iconst 0, 1) := by decide +kernel
theorem dX7_fit_75 : decode cX7_fit 75 = .ok (.bipush 30, 2) := by decide +kernel
theorem dX7_fit_77 : decode cX7_fit 77 = .ok (.invokestatic 205, 3) := by decide +kernel
theorem dX7_fit_80 : decode cX7_fit 80 = .ok (.iconst (-1), 1) := by decide +kernel
theorem dX7_fit_81 : decode cX7_fit 81 = .ok (.ireturn, 1) := by decide +kernel
theorem dX7_fit_82 : decode cX7_fit 82 = .ok (.aload_n 0, 1) := by decide +kernel
theorem dX7_fit_83 : decode cX7_fit 83 = .ok (.iconst 0, 1) := by decide +kernel
theorem dX7_fit_84 : decode cX7_fit 84 = .ok (.putfield 73, 3) := by decide +kernel
theorem dX7_fit_87 : decode cX7_fit 87 = .ok (.aload_n 0, 1) := by decide +kernel
theorem dX7_fit_88 : decode cX7_fit 88 = .ok (.getfield 19, 3) := by decide +kernel
theorem dX7_fit_91 : decode cX7_fit 91 = .ok (.invokevirtual 211, 3) := by decide +kernel
theorem dX7_fit_94 : decode cX7_fit 94 = .ok (.ireturn, 1) := by decide +kernel
theorem dX7_arc_0 : decode cX7_arc 0 = .ok (.aload_n 0, 1) := by decide +kernel
theorem dX7_arc_1 : decode cX7_arc 1 = .ok (.getfield 10, 3) := by decide +kernel
theorem dX7_arc_4 : decode cX7_arc 4 = .ok (.iload_n 1, 1) := by decide +kernel
theorem dX7_arc_5 : decode cX7_arc 5 = .ok (.iload_n 2, 1) := by decide +kernel
theorem dX7_arc_6 : decode cX7_arc 6 = .ok (.iload_n 3, 1) := by decide +kernel
theorem dX7_arc_7 : decode cX7_arc 7 = .ok (.invokevirtual 153, 3) := by decide +kernel
theorem dX7_arc_10 : decode cX7_arc 10 = .ok (.ifCond .ne 7, 3) := by decide +kernel
theorem dX7_arc_13 : decode cX7_arc 13 = .ok (.ldc2_w 156, 3) := by decide +kernel
theorem dX7_arc_16 : decode cX7_arc 16 = .ok (.lreturn, 1) := by decide +kernel
theorem dX7_arc_17 : decode cX7_arc 17 = .ok (.aload_n 0, 1) := by decide +kernel
theorem dX7_arc_18 : decode cX7_arc 18 = .ok (.iload_n 1, 1) := by decide +kernel
theorem dX7_arc_19 : decode cX7_arc 19 = .ok (.iload_n 2, 1) := by decide +kernel
theorem dX7_arc_20 : decode cX7_arc 20 = .ok (.iload_n 3, 1) := by decide +kernel
theorem dX7_arc_21 : decode cX7_arc 21 = .ok (.invokevirtual 215, 3) := by decide +kernel
theorem dX7_arc_24 : decode cX7_arc 24 = .ok (.lreturn, 1) := by decide +kernel
theorem dX7_worst_0 : decode cX7_worst 0 = .ok (.lconst 0, 1) := by decide +kernel
theorem dX7_worst_1 : decode cX7_worst 1 = .ok (.lstore_n 1, 1) := by decide +kernel
theorem dX7_worst_2 : decode cX7_worst 2 = .ok (.iconst 1, 1) := by decide +kernel
theorem dX7_worst_3 : decode cX7_worst 3 = .ok (.istore_n 3, 1) := by decide +kernel
theorem dX7_worst_4 : decode cX7_worst 4 = .ok (.iload_n 3, 1) := by decide +kernel
theorem dX7_worst_5 : decode cX7_worst 5 = .ok (.aload_n 0, 1) := by decide +kernel
theorem dX7_worst_6 : decode cX7_worst 6 = .ok (.getfield 10, 3) := by decide +kernel
theorem dX7_worst_9 : decode cX7_worst 9 = .ok (.getfield 81, 3) := by decide +kernel
theorem dX7_worst_12 : decode cX7_worst 12 = .ok (.if_icmp .ge 36, 3) := by decide +kernel
theorem dX7_worst_15 : decode cX7_worst 15 = .ok (.aload_n 0, 1) := by decide +kernel
theorem dX7_worst_16 : decode cX7_worst 16 = .ok (.iload_n 3, 1) := by decide +kernel
theorem dX7_worst_17 : decode cX7_worst 17 = .ok (.invokevirtual 218, 3) := by decide +kernel
theorem dX7_worst_20 : decode cX7_worst 20 = .ok (.lstore 4, 2) := by decide +kernel
theorem dX7_worst_22 : decode cX7_worst 22 = .ok (.lload 4, 2) := by decide +kernel
theorem dX7_worst_24 : decode cX7_worst 24 = .ok (.ldc2_w 156, 3) := by decide +kernel
theorem dX7_worst_27 : decode cX7_worst 27 = .ok (.lcmp, 1) := by decide +kernel
theorem dX7_worst_28 : decode cX7_worst 28 = .ok (.ifCond .ne 7, 3) := by decide +kernel
theorem dX7_worst_31 : decode cX7_worst 31 = .ok (.ldc2_w 156, 3) := by decide +kernel
theorem dX7_worst_34 : decode cX7_worst 34 = .ok (.lreturn, 1) := by decide +kernel
theorem dX7_worst_35 : decode cX7_worst 35 = .ok (.lload_n 1, 1) := by decide +kernel
theorem dX7_worst_36 : decode cX7_worst 36 = .ok (.lload 4, 2) := by decide +kernel
theorem dX7_worst_38 : decode cX7_worst 38 = .ok (.invokestatic 222, 3) := by decide +kernel
theorem dX7_worst_41 : decode cX7_worst 41 = .ok (.lstore_n 1, 1) := by decide +kernel
theorem dX7_worst_42 : decode cX7_worst 42 = .ok (.iinc 3 1, 3) := by decide +kernel
theorem dX7_worst_45 : decode cX7_worst 45 = .ok (.goto (-41), 3) := by decide +kernel
theorem dX7_worst_48 : decode cX7_worst 48 = .ok (.lload_n 1, 1) := by decide +kernel
theorem dX7_worst_49 : decode cX7_worst 49 = .ok (.lreturn, 1) := by decide +kernel
theorem dX7_growth_0 : decode cX7_growth 0 = .ok (.ldc2_w 228, 3) := by decide +kernel
theorem dX7_growth_3 : decode cX7_growth 3 = .ok (.lstore_n 1, 1) := by decide +kernel
theorem dX7_growth_4 : decode cX7_growth 4 = .ok (.iconst 1, 1) := by decide +kernel
theorem dX7_growth_5 : decode cX7_growth 5 = .ok (.istore_n 3, 1) := by decide +kernel
theorem dX7_growth_6 : decode cX7_growth 6 = .ok (.iload_n 3, 1) := by decide +kernel
theorem dX7_growth_7 : decode cX7_growth 7 = .ok (.aload_n 0, 1) := by decide +kernel
theorem dX7_growth_8 : decode cX7_growth 8 = .ok (.getfield 10, 3) := by decide +kernel
theorem dX7_growth_11 : decode cX7_growth 11 = .ok (.getfield 81, 3) := by decide +kernel
theorem dX7_growth_14 : decode cX7_growth 14 = .ok (.if_icmp .ge 19, 3) := by decide +kernel
theorem dX7_growth_17 : decode cX7_growth 17 = .ok (.lload_n 1, 1) := by decide +kernel
theorem dX7_growth_18 : decode cX7_growth 18 = .ok (.aload_n 0, 1) := by decide +kernel
theorem dX7_growth_19 : decode cX7_growth 19 = .ok (.iload_n 3, 1) := by decide +kernel
theorem dX7_growth_20 : decode cX7_growth 20 = .ok (.invokevirtual 230, 3) := by decide +kernel
theorem dX7_growth_23 : decode cX7_growth 23 = .ok (.invokestatic 233, 3) := by decide +kernel
theorem dX7_growth_26 : decode cX7_growth 26 = .ok (.lstore_n 1, 1) := by decide +kernel
theorem dX7_growth_27 : decode cX7_growth 27 = .ok (.iinc 3 1, 3) := by decide +kernel
theorem dX7_growth_30 : decode cX7_growth 30 = .ok (.goto (-24), 3) := by decide +kernel
theorem dX7_growth_33 : decode cX7_growth 33 = .ok (.lload_n 1, 1) := by decide +kernel
theorem dX7_growth_34 : decode cX7_growth 34 = .ok (.l2i, 1) := by decide +kernel
theorem dX7_growth_35 : decode cX7_growth 35 = .ok (.ireturn, 1) := by decide +kernel
theorem dX7_goal_0 : decode cX7_goal 0 = .ok (.aload_n 0, 1) := by decide +kernel
theorem dX7_goal_1 : decode cX7_goal 1 = .ok (.iconst 1, 1) := by decide +kernel
theorem dX7_goal_2 : decode cX7_goal 2 = .ok (.putfield 236, 3) := by decide +kernel
theorem dX7_goal_5 : decode cX7_goal 5 = .ok (.aload_n 0, 1) := by decide +kernel
theorem dX7_goal_6 : decode cX7_goal 6 = .ok (.getfield 19, 3) := by decide +kernel
theorem dX7_goal_9 : decode cX7_goal 9 = .ok (.invokevirtual 239, 3) := by decide +kernel
theorem dX7_goal_12 : decode cX7_goal 12 = .ok (.ireturn, 1) := by decide +kernel
theorem dX7_change_0 : decode cX7_change 0 = .ok (.aload_n 0, 1) := by decide +kernel
theorem dX7_change_1 : decode cX7_change 1 = .ok (.getfield 236, 3) := by decide +kernel
theorem dX7_change_4 : decode cX7_change 4 = .ok (.ifCond .eq 13, 3) := by decide +kernel
theorem dX7_change_7 : decode cX7_change 7 = .ok (.aload_n 0, 1) := by decide +kernel
theorem dX7_change_8 : decode cX7_change 8 = .ok (.getfield 51, 3) := by decide +kernel
theorem dX7_change_11 : decode cX7_change 11 = .ok (.invokevirtual 242, 3) := by decide +kernel
theorem dX7_change_14 : decode cX7_change 14 = .ok (.ifCond .ne 5, 3) := by decide +kernel
theorem dX7_change_17 : decode cX7_change 17 = .ok (.iconst (-1), 1) := by decide +kernel
theorem dX7_change_18 : decode cX7_change 18 = .ok (.ireturn, 1) := by decide +kernel
theorem dX7_change_19 : decode cX7_change 19 = .ok (.aload_n 0, 1) := by decide +kernel
theorem dX7_change_20 : decode cX7_change 20 = .ok (.getfield 35, 3) := by decide +kernel
theorem dX7_change_23 : decode cX7_change 23 = .ok (.invokevirtual 187, 3) := by decide +kernel
theorem dX7_change_26 : decode cX7_change 26 = .ok (.aload_n 0, 1) := by decide +kernel
theorem dX7_change_27 : decode cX7_change 27 = .ok (.getfield 35, 3) := by decide +kernel
theorem dX7_change_30 : decode cX7_change 30 = .ok (.getfield 190, 3) := by decide +kernel
theorem dX7_change_33 : decode cX7_change 33 = .ok (.ifCond .eq 5, 3) := by decide +kernel
theorem dX7_change_36 : decode cX7_change 36 = .ok (.iconst (-1), 1) := by decide +kernel
theorem dX7_change_37 : decode cX7_change 37 = .ok (.ireturn, 1) := by decide +kernel
theorem dX7_change_38 : decode cX7_change 38 = .ok (.aload_n 0, 1) := by decide +kernel
theorem dX7_change_39 : decode cX7_change 39 = .ok (.getfield 42, 3) := by decide +kernel
theorem dX7_change_42 : decode cX7_change 42 = .ok (.invokevirtual 245, 3) := by decide +kernel
theorem dX7_change_45 : decode cX7_change 45 = .ok (.aload_n 0, 1) := by decide +kernel
theorem dX7_change_46 : decode cX7_change 46 = .ok (.getfield 51, 3) := by decide +kernel
theorem dX7_change_49 : decode cX7_change 49 = .ok (.invokevirtual 248, 3) := by decide +kernel
theorem dX7_change_52 : decode cX7_change 52 = .ok (.ireturn, 1) := by decide +kernel
theorem dX7_step_0 : decode cX7_step 0 = .ok (.iload_n 1, 1) := by decide +kernel
theorem dX7_step_1 : decode cX7_step 1 = .ok (.iconst 0, 1) := by decide +kernel
theorem dX7_step_2 : decode cX7_step 2 = .ok (.aload_n 0, 1) := by decide +kernel
theorem dX7_step_3 : decode cX7_step 3 = .ok (.getfield 51, 3) := by decide +kernel
theorem dX7_step_6 : decode cX7_step 6 = .ok (.getfield 251, 3) := by decide +kernel
theorem dX7_step_9 : decode cX7_step 9 = .ok (.iconst 1, 1) := by decide +kernel
theorem dX7_step_10 : decode cX7_step 10 = .ok (.isub, 1) := by decide +kernel
theorem dX7_step_11 : decode cX7_step 11 = .ok (.invokestatic 62, 3) := by decide +kernel
theorem dX7_step_14 : decode cX7_step 14 = .ok (.ifCond .eq 15, 3) := by decide +kernel
theorem dX7_step_17 : decode cX7_step 17 = .ok (.aload_n 0, 1) := by decide +kernel
theorem dX7_step_18 : decode cX7_step 18 = .ok (.getfield 51, 3) := by decide +kernel
theorem dX7_step_21 : decode cX7_step 21 = .ok (.getfield 254, 3) := by decide +kernel
theorem dX7_step_24 : decode cX7_step 24 = .ok (.iload_n 1, 1) := by decide +kernel
theorem dX7_step_25 : decode cX7_step 25 = .ok (.iaload, 1) := by decide +kernel
theorem dX7_step_26 : decode cX7_step 26 = .ok (.goto 4, 3) := by decide +kernel
theorem dX7_step_29 : decode cX7_step 29 = .ok (.iconst (-1), 1) := by decide +kernel
theorem dX7_step_30 : decode cX7_step 30 = .ok (.ireturn, 1) := by decide +kernel
theorem dX7_about_0 : decode cX7_about 0 = .ok (.iload_n 1, 1) := by decide +kernel
theorem dX7_about_1 : decode cX7_about 1 = .ok (.tableswitch 131 0 8 #[51, 59, 70, 78, 86, 94, 102, 110, 123], 51) := by decide +kernel
theorem dX7_about_52 : decode cX7_about 52 = .ok (.aload_n 0, 1) := by decide +kernel
theorem dX7_about_53 : decode cX7_about 53 = .ok (.getfield 10, 3) := by decide +kernel
theorem dX7_about_56 : decode cX7_about 56 = .ok (.getfield 81, 3) := by decide +kernel
theorem dX7_about_59 : decode cX7_about 59 = .ok (.ireturn, 1) := by decide +kernel
theorem dX7_about_60 : decode cX7_about 60 = .ok (.aload_n 0, 1) := by decide +kernel
theorem dX7_about_61 : decode cX7_about 61 = .ok (.getfield 19, 3) := by decide +kernel
theorem dX7_about_64 : decode cX7_about 64 = .ok (.getfield 257, 3) := by decide +kernel
theorem dX7_about_67 : decode cX7_about 67 = .ok (.invokestatic 260, 3) := by decide +kernel
theorem dX7_about_70 : decode cX7_about 70 = .ok (.ireturn, 1) := by decide +kernel
theorem dX7_about_71 : decode cX7_about 71 = .ok (.aload_n 0, 1) := by decide +kernel
theorem dX7_about_72 : decode cX7_about 72 = .ok (.getfield 10, 3) := by decide +kernel
theorem dX7_about_75 : decode cX7_about 75 = .ok (.getfield 66, 3) := by decide +kernel
theorem dX7_about_78 : decode cX7_about 78 = .ok (.ireturn, 1) := by decide +kernel
theorem dX7_about_79 : decode cX7_about 79 = .ok (.aload_n 0, 1) := by decide +kernel
theorem dX7_about_80 : decode cX7_about 80 = .ok (.getfield 10, 3) := by decide +kernel
theorem dX7_about_83 : decode cX7_about 83 = .ok (.getfield 70, 3) := by decide +kernel
theorem dX7_about_86 : decode cX7_about 86 = .ok (.ireturn, 1) := by decide +kernel
theorem dX7_about_87 : decode cX7_about 87 = .ok (.aload_n 0, 1) := by decide +kernel
theorem dX7_about_88 : decode cX7_about 88 = .ok (.getfield 26, 3) := by decide +kernel
theorem dX7_about_91 : decode cX7_about 91 = .ok (.getfield 122, 3) := by decide +kernel
theorem dX7_about_94 : decode cX7_about 94 = .ok (.ireturn, 1) := by decide +kernel
theorem dX7_about_95 : decode cX7_about 95 = .ok (.aload_n 0, 1) := by decide +kernel
theorem dX7_about_96 : decode cX7_about 96 = .ok (.getfield 26, 3) := by decide +kernel
theorem dX7_about_99 : decode cX7_about 99 = .ok (.getfield 125, 3) := by decide +kernel
theorem dX7_about_102 : decode cX7_about 102 = .ok (.ireturn, 1) := by decide +kernel
theorem dX7_about_103 : decode cX7_about 103 = .ok (.aload_n 0, 1) := by decide +kernel
theorem dX7_about_104 : decode cX7_about 104 = .ok (.getfield 26, 3) := by decide +kernel
theorem dX7_about_107 : decode cX7_about 107 = .ok (.getfield 128, 3) := by decide +kernel
theorem dX7_about_110 : decode cX7_about 110 = .ok (.ireturn, 1) := by decide +kernel
theorem dX7_about_111 : decode cX7_about 111 = .ok (.aload_n 0, 1) := by decide +kernel
theorem dX7_about_112 : decode cX7_about 112 = .ok (.getfield 236, 3) := by decide +kernel
theorem dX7_about_115 : decode cX7_about 115 = .ok (.ifCond .eq 7, 3) := by decide +kernel
theorem dX7_about_118 : decode cX7_about 118 = .ok (.iconst 1, 1) := by decide +kernel
theorem dX7_about_119 : decode cX7_about 119 = .ok (.goto 4, 3) := by decide +kernel
theorem dX7_about_122 : decode cX7_about 122 = .ok (.iconst 0, 1) := by decide +kernel
theorem dX7_about_123 : decode cX7_about 123 = .ok (.ireturn, 1) := by decide +kernel
theorem dX7_about_124 : decode cX7_about 124 = .ok (.aload_n 0, 1) := by decide +kernel
theorem dX7_about_125 : decode cX7_about 125 = .ok (.getfield 51, 3) := by decide +kernel
theorem dX7_about_128 : decode cX7_about 128 = .ok (.getfield 251, 3) := by decide +kernel
theorem dX7_about_131 : decode cX7_about 131 = .ok (.ireturn, 1) := by decide +kernel
theorem dX7_about_132 : decode cX7_about 132 = .ok (.iconst (-1), 1) := by decide +kernel
theorem dX7_about_133 : decode cX7_about 133 = .ok (.ireturn, 1) := by decide +kernel
theorem dX7_isWithin_0 : decode cX7_isWithin 0 = .ok (.iload_n 0, 1) := by decide +kernel
theorem dX7_isWithin_1 : decode cX7_isWithin 1 = .ok (.iload_n 1, 1) := by decide +kernel
theorem dX7_isWithin_2 : decode cX7_isWithin 2 = .ok (.if_icmp .lt 12, 3) := by decide +kernel
theorem dX7_isWithin_5 : decode cX7_isWithin 5 = .ok (.iload_n 0, 1) := by decide +kernel
theorem dX7_isWithin_6 : decode cX7_isWithin 6 = .ok (.iload_n 2, 1) := by decide +kernel
theorem dX7_isWithin_7 : decode cX7_isWithin 7 = .ok (.if_icmp .gt 7, 3) := by decide +kernel
theorem dX7_isWithin_10 : decode cX7_isWithin 10 = .ok (.iconst 1, 1) := by decide +kernel
theorem dX7_isWithin_11 : decode cX7_isWithin 11 = .ok (.goto 4, 3) := by decide +kernel
theorem dX7_isWithin_14 : decode cX7_isWithin 14 = .ok (.iconst 0, 1) := by decide +kernel
theorem dX7_isWithin_15 : decode cX7_isWithin 15 = .ok (.ireturn, 1) := by decide +kernel
theorem dX7_lineOrNone_0 : decode cX7_lineOrNone 0 = .ok (.iload_n 0, 1) := by decide +kernel
theorem dX7_lineOrNone_1 : decode cX7_lineOrNone 1 = .ok (.ifCond .le 7, 3) := by decide +kernel
theorem dX7_lineOrNone_4 : decode cX7_lineOrNone 4 = .ok (.iload_n 0, 1) := by decide +kernel
theorem dX7_lineOrNone_5 : decode cX7_lineOrNone 5 = .ok (.goto 4, 3) := by decide +kernel
theorem dX7_lineOrNone_8 : decode cX7_lineOrNone 8 = .ok (.iconst (-1), 1) := by decide +kernel
theorem dX7_lineOrNone_9 : decode cX7_lineOrNone 9 = .ok (.ireturn, 1) := by decide +kernel
theorem dX7_holds_0 : decode cX7_holds 0 = .ok (.iload_n 1, 1) := by decide +kernel
theorem dX7_holds_1 : decode cX7_holds 1 = .ok (.ifCond .lt 21, 3) := by decide +kernel
theorem dX7_holds_4 : decode cX7_holds 4 = .ok (.iload_n 1, 1) := by decide +kernel
theorem dX7_holds_5 : decode cX7_holds 5 = .ok (.bipush 30, 2) := by decide +kernel
theorem dX7_holds_7 : decode cX7_holds 7 = .ok (.if_icmp .ge 15, 3) := by decide +kernel
theorem dX7_holds_10 : decode cX7_holds 10 = .ok (.iload_n 0, 1) := by decide +kernel
theorem dX7_holds_11 : decode cX7_holds 11 = .ok (.iload_n 1, 1) := by decide +kernel
theorem dX7_holds_12 : decode cX7_holds 12 = .ok (.ishr, 1) := by decide +kernel
theorem dX7_holds_13 : decode cX7_holds 13 = .ok (.iconst 1, 1) := by decide +kernel
theorem dX7_holds_14 : decode cX7_holds 14 = .ok (.iand, 1) := by decide +kernel
theorem dX7_holds_15 : decode cX7_holds 15 = .ok (.ifCond .eq 7, 3) := by decide +kernel
theorem dX7_holds_18 : decode cX7_holds 18 = .ok (.iconst 1, 1) := by decide +kernel
theorem dX7_holds_19 : decode cX7_holds 19 = .ok (.goto 4, 3) := by decide +kernel
theorem dX7_holds_22 : decode cX7_holds 22 = .ok (.iconst 0, 1) := by decide +kernel
theorem dX7_holds_23 : decode cX7_holds 23 = .ok (.ireturn, 1) := by decide +kernel
theorem dX7_nextOf_0 : decode cX7_nextOf 0 = .ok (.aload_n 0, 1) := by decide +kernel
theorem dX7_nextOf_1 : decode cX7_nextOf 1 = .ok (.getfield 19, 3) := by decide +kernel
theorem dX7_nextOf_4 : decode cX7_nextOf 4 = .ok (.aload_n 0, 1) := by decide +kernel
theorem dX7_nextOf_5 : decode cX7_nextOf 5 = .ok (.getfield 10, 3) := by decide +kernel
theorem dX7_nextOf_8 : decode cX7_nextOf 8 = .ok (.getfield 134, 3) := by decide +kernel
theorem dX7_nextOf_11 : decode cX7_nextOf 11 = .ok (.iload_n 1, 1) := by decide +kernel
theorem dX7_nextOf_12 : decode cX7_nextOf 12 = .ok (.iaload, 1) := by decide +kernel
theorem dX7_nextOf_13 : decode cX7_nextOf 13 = .ok (.invokevirtual 137, 3) := by decide +kernel
theorem dX7_nextOf_16 : decode cX7_nextOf 16 = .ok (.istore_n 2, 1) := by decide +kernel
theorem dX7_nextOf_17 : decode cX7_nextOf 17 = .ok (.aload_n 0, 1) := by decide +kernel
theorem dX7_nextOf_18 : decode cX7_nextOf 18 = .ok (.getfield 19, 3) := by decide +kernel
theorem dX7_nextOf_21 : decode cX7_nextOf 21 = .ok (.aload_n 0, 1) := by decide +kernel
theorem dX7_nextOf_22 : decode cX7_nextOf 22 = .ok (.getfield 10, 3) := by decide +kernel
theorem dX7_nextOf_25 : decode cX7_nextOf 25 = .ok (.getfield 134, 3) := by decide +kernel
theorem dX7_nextOf_28 : decode cX7_nextOf 28 = .ok (.iload_n 2, 1) := by decide +kernel
theorem dX7_nextOf_29 : decode cX7_nextOf 29 = .ok (.iaload, 1) := by decide +kernel
theorem dX7_nextOf_30 : decode cX7_nextOf 30 = .ok (.iconst 1, 1) := by decide +kernel
theorem dX7_nextOf_31 : decode cX7_nextOf 31 = .ok (.iload_n 2, 1) := by decide +kernel
theorem dX7_nextOf_32 : decode cX7_nextOf 32 = .ok (.ishl, 1) := by decide +kernel
theorem dX7_nextOf_33 : decode cX7_nextOf 33 = .ok (.iconst (-1), 1) := by decide +kernel
theorem dX7_nextOf_34 : decode cX7_nextOf 34 = .ok (.ixor, 1) := by decide +kernel
theorem dX7_nextOf_35 : decode cX7_nextOf 35 = .ok (.iand, 1) := by decide +kernel
theorem dX7_nextOf_36 : decode cX7_nextOf 36 = .ok (.invokevirtual 137, 3) := by decide +kernel
theorem dX7_nextOf_39 : decode cX7_nextOf 39 = .ok (.ireturn, 1) := by decide +kernel
theorem dX7_breakerOf_0 : decode cX7_breakerOf 0 = .ok (.aload_n 0, 1) := by decide +kernel
theorem dX7_breakerOf_1 : decode cX7_breakerOf 1 = .ok (.getfield 19, 3) := by decide +kernel
theorem dX7_breakerOf_4 : decode cX7_breakerOf 4 = .ok (.iload_n 1, 1) := by decide +kernel
theorem dX7_breakerOf_5 : decode cX7_breakerOf 5 = .ok (.invokevirtual 107, 3) := by decide +kernel
theorem dX7_breakerOf_8 : decode cX7_breakerOf 8 = .ok (.ifCond .ne 5, 3) := by decide +kernel
theorem dX7_breakerOf_11 : decode cX7_breakerOf 11 = .ok (.iconst (-1), 1) := by decide +kernel
theorem dX7_breakerOf_12 : decode cX7_breakerOf 12 = .ok (.ireturn, 1) := by decide +kernel
theorem dX7_breakerOf_13 : decode cX7_breakerOf 13 = .ok (.iload_n 2, 1) := by decide +kernel
theorem dX7_breakerOf_14 : decode cX7_breakerOf 14 = .ok (.tableswitch 94 5 9 #[34, 44, 54, 64, 84], 34) := by decide +kernel
theorem dX7_breakerOf_48 : decode cX7_breakerOf 48 = .ok (.aload_n 0, 1) := by decide +kernel
theorem dX7_breakerOf_49 : decode cX7_breakerOf 49 = .ok (.getfield 19, 3) := by decide +kernel
theorem dX7_breakerOf_52 : decode cX7_breakerOf 52 = .ok (.getfield 265, 3) := by decide +kernel
theorem dX7_breakerOf_55 : decode cX7_breakerOf 55 = .ok (.iload_n 1, 1) := by decide +kernel
theorem dX7_breakerOf_56 : decode cX7_breakerOf 56 = .ok (.iaload, 1) := by decide +kernel
theorem dX7_breakerOf_57 : decode cX7_breakerOf 57 = .ok (.ireturn, 1) := by decide +kernel
theorem dX7_breakerOf_58 : decode cX7_breakerOf 58 = .ok (.aload_n 0, 1) := by decide +kernel
theorem dX7_breakerOf_59 : decode cX7_breakerOf 59 = .ok (.getfield 19, 3) := by decide +kernel
theorem dX7_breakerOf_62 : decode cX7_breakerOf 62 = .ok (.getfield 114, 3) := by decide +kernel
theorem dX7_breakerOf_65 : decode cX7_breakerOf 65 = .ok (.iload_n 1, 1) := by decide +kernel
theorem dX7_breakerOf_66 : decode cX7_breakerOf 66 = .ok (.iaload, 1) := by decide +kernel
theorem dX7_breakerOf_67 : decode cX7_breakerOf 67 = .ok (.ireturn, 1) := by decide +kernel
theorem dX7_breakerOf_68 : decode cX7_breakerOf 68 = .ok (.aload_n 0, 1) := by decide +kernel
theorem dX7_breakerOf_69 : decode cX7_breakerOf 69 = .ok (.getfield 19, 3) := by decide +kernel
theorem dX7_breakerOf_72 : decode cX7_breakerOf 72 = .ok (.getfield 268, 3) := by decide +kernel
theorem dX7_breakerOf_75 : decode cX7_breakerOf 75 = .ok (.iload_n 1, 1) := by decide +kernel
theorem dX7_breakerOf_76 : decode cX7_breakerOf 76 = .ok (.iaload, 1) := by decide +kernel
theorem dX7_breakerOf_77 : decode cX7_breakerOf 77 = .ok (.ireturn, 1) := by decide +kernel
theorem dX7_breakerOf_78 : decode cX7_breakerOf 78 = .ok (.aload_n 0, 1) := by decide +kernel
theorem dX7_breakerOf_79 : decode cX7_breakerOf 79 = .ok (.getfield 19, 3) := by decide +kernel
theorem dX7_breakerOf_82 : decode cX7_breakerOf 82 = .ok (.getfield 271, 3) := by decide +kernel
theorem dX7_breakerOf_85 : decode cX7_breakerOf 85 = .ok (.iload_n 1, 1) := by decide +kernel
theorem dX7_breakerOf_86 : decode cX7_breakerOf 86 = .ok (.invokestatic 274, 3) := by decide +kernel
theorem dX7_breakerOf_89 : decode cX7_breakerOf 89 = .ok (.ifCond .eq 7, 3) := by decide +kernel
theorem dX7_breakerOf_92 : decode cX7_breakerOf 92 = .ok (.iconst 1, 1) := by decide +kernel
theorem dX7_breakerOf_93 : decode cX7_breakerOf 93 = .ok (.goto 4, 3) := by decide +kernel
theorem dX7_breakerOf_96 : decode cX7_breakerOf 96 = .ok (.iconst 0, 1) := by decide +kernel
theorem dX7_breakerOf_97 : decode cX7_breakerOf 97 = .ok (.ireturn, 1) := by decide +kernel
theorem dX7_breakerOf_98 : decode cX7_breakerOf 98 = .ok (.aload_n 0, 1) := by decide +kernel
theorem dX7_breakerOf_99 : decode cX7_breakerOf 99 = .ok (.getfield 19, 3) := by decide +kernel
theorem dX7_breakerOf_102 : decode cX7_breakerOf 102 = .ok (.getfield 277, 3) := by decide +kernel
theorem dX7_breakerOf_105 : decode cX7_breakerOf 105 = .ok (.iload_n 1, 1) := by decide +kernel
theorem dX7_breakerOf_106 : decode cX7_breakerOf 106 = .ok (.iaload, 1) := by decide +kernel
theorem dX7_breakerOf_107 : decode cX7_breakerOf 107 = .ok (.ireturn, 1) := by decide +kernel
theorem dX7_breakerOf_108 : decode cX7_breakerOf 108 = .ok (.iconst (-1), 1) := by decide +kernel
theorem dX7_breakerOf_109 : decode cX7_breakerOf 109 = .ok (.ireturn, 1) := by decide +kernel
theorem dX7_ableOn_0 : decode cX7_ableOn 0 = .ok (.aload_n 0, 1) := by decide +kernel
theorem dX7_ableOn_1 : decode cX7_ableOn 1 = .ok (.getfield 10, 3) := by decide +kernel
theorem dX7_ableOn_4 : decode cX7_ableOn 4 = .ok (.getfield 134, 3) := by decide +kernel
theorem dX7_ableOn_7 : decode cX7_ableOn 7 = .ok (.iload_n 1, 1) := by decide +kernel
theorem dX7_ableOn_8 : decode cX7_ableOn 8 = .ok (.iaload, 1) := by decide +kernel
theorem dX7_ableOn_9 : decode cX7_ableOn 9 = .ok (.aload_n 0, 1) := by decide +kernel
theorem dX7_ableOn_10 : decode cX7_ableOn 10 = .ok (.getfield 19, 3) := by decide +kernel
theorem dX7_ableOn_13 : decode cX7_ableOn 13 = .ok (.getfield 257, 3) := by decide +kernel
theorem dX7_ableOn_16 : decode cX7_ableOn 16 = .ok (.iand, 1) := by decide +kernel
theorem dX7_ableOn_17 : decode cX7_ableOn 17 = .ok (.aload_n 0, 1) := by decide +kernel
theorem dX7_ableOn_18 : decode cX7_ableOn 18 = .ok (.getfield 19, 3) := by decide +kernel
theorem dX7_ableOn_21 : decode cX7_ableOn 21 = .ok (.getfield 271, 3) := by decide +kernel
theorem dX7_ableOn_24 : decode cX7_ableOn 24 = .ok (.iconst (-1), 1) := by decide +kernel
theorem dX7_ableOn_25 : decode cX7_ableOn 25 = .ok (.ixor, 1) := by decide +kernel
theorem dX7_ableOn_26 : decode cX7_ableOn 26 = .ok (.iand, 1) := by decide +kernel
theorem dX7_ableOn_27 : decode cX7_ableOn 27 = .ok (.ireturn, 1) := by decide +kernel
theorem dX7_clearTick_0 : decode cX7_clearTick 0 = .ok (.aload_n 0, 1) := by decide +kernel
theorem dX7_clearTick_1 : decode cX7_clearTick 1 = .ok (.iload_n 1, 1) := by decide +kernel
theorem dX7_clearTick_2 : decode cX7_clearTick 2 = .ok (.invokevirtual 280, 3) := by decide +kernel
theorem dX7_clearTick_5 : decode cX7_clearTick 5 = .ok (.istore 4, 2) := by decide +kernel
theorem dX7_clearTick_7 : decode cX7_clearTick 7 = .ok (.aload_n 0, 1) := by decide +kernel
theorem dX7_clearTick_8 : decode cX7_clearTick 8 = .ok (.getfield 10, 3) := by decide +kernel
theorem dX7_clearTick_11 : decode cX7_clearTick 11 = .ok (.iload_n 1, 1) := by decide +kernel
theorem dX7_clearTick_12 : decode cX7_clearTick 12 = .ok (.iload_n 2, 1) := by decide +kernel
theorem dX7_clearTick_13 : decode cX7_clearTick 13 = .ok (.iload_n 3, 1) := by decide +kernel
theorem dX7_clearTick_14 : decode cX7_clearTick 14 = .ok (.invokevirtual 158, 3) := by decide +kernel
theorem dX7_clearTick_17 : decode cX7_clearTick 17 = .ok (.lstore 5, 2) := by decide +kernel
theorem dX7_clearTick_19 : decode cX7_clearTick 19 = .ok (.iconst (-1), 1) := by decide +kernel
theorem dX7_clearTick_20 : decode cX7_clearTick 20 = .ok (.istore 7, 2) := by decide +kernel
theorem dX7_clearTick_22 : decode cX7_clearTick 22 = .ok (.iload_n 1, 1) := by decide +kernel
theorem dX7_clearTick_23 : decode cX7_clearTick 23 = .ok (.istore 8, 2) := by decide +kernel
theorem dX7_clearTick_25 : decode cX7_clearTick 25 = .ok (.iload 8, 2) := by decide +kernel
theorem dX7_clearTick_27 : decode cX7_clearTick 27 = .ok (.iconst 1, 1) := by decide +kernel
theorem dX7_clearTick_28 : decode cX7_clearTick 28 = .ok (.if_icmp .lt 66, 3) := by decide +kernel
theorem dX7_clearTick_31 : decode cX7_clearTick 31 = .ok (.iload 4, 2) := by decide +kernel
theorem dX7_clearTick_33 : decode cX7_clearTick 33 = .ok (.iload 8, 2) := by decide +kernel
theorem dX7_clearTick_35 : decode cX7_clearTick 35 = .ok (.invokestatic 274, 3) := by decide +kernel
theorem dX7_clearTick_38 : decode cX7_clearTick 38 = .ok (.ifCond .eq 24, 3) := by decide +kernel
theorem dX7_clearTick_41 : decode cX7_clearTick 41 = .ok (.aload_n 0, 1) := by decide +kernel
theorem dX7_clearTick_42 : decode cX7_clearTick 42 = .ok (.getfield 19, 3) := by decide +kernel
theorem dX7_clearTick_45 : decode cX7_clearTick 45 = .ok (.iload 8, 2) := by decide +kernel
theorem dX7_clearTick_47 : decode cX7_clearTick 47 = .ok (.aload_n 0, 1) := by decide +kernel
theorem dX7_clearTick_48 : decode cX7_clearTick 48 = .ok (.getfield 10, 3) := by decide +kernel
theorem dX7_clearTick_51 : decode cX7_clearTick 51 = .ok (.invokevirtual 164, 3) := by decide +kernel
theorem dX7_clearTick_54 : decode cX7_clearTick 54 = .ok (.lload 5, 2) := by decide +kernel
theorem dX7_clearTick_56 : decode cX7_clearTick 56 = .ok (.invokevirtual 172, 3) := by decide +kernel
theorem dX7_clearTick_59 : decode cX7_clearTick 59 = .ok (.goto 4, 3) := by decide +kernel
theorem dX7_clearTick_62 : decode cX7_clearTick 62 = .ok (.iconst (-1), 1) := by decide +kernel
theorem dX7_clearTick_63 : decode cX7_clearTick 63 = .ok (.istore 9, 2) := by decide +kernel
theorem dX7_clearTick_65 : decode cX7_clearTick 65 = .ok (.iload 9, 2) := by decide +kernel
theorem dX7_clearTick_67 : decode cX7_clearTick 67 = .ok (.iconst (-1), 1) := by decide +kernel
theorem dX7_clearTick_68 : decode cX7_clearTick 68 = .ok (.if_icmp .eq 20, 3) := by decide +kernel
theorem dX7_clearTick_71 : decode cX7_clearTick 71 = .ok (.iload 7, 2) := by decide +kernel
theorem dX7_clearTick_73 : decode cX7_clearTick 73 = .ok (.iconst (-1), 1) := by decide +kernel
theorem dX7_clearTick_74 : decode cX7_clearTick 74 = .ok (.if_icmp .eq 10, 3) := by decide +kernel
theorem dX7_clearTick_77 : decode cX7_clearTick 77 = .ok (.iload 9, 2) := by decide +kernel
theorem dX7_clearTick_79 : decode cX7_clearTick 79 = .ok (.iload 7, 2) := by decide +kernel
theorem dX7_clearTick_81 : decode cX7_clearTick 81 = .ok (.if_icmp .ge 7, 3) := by decide +kernel
theorem dX7_clearTick_84 : decode cX7_clearTick 84 = .ok (.iload 9, 2) := by decide +kernel
theorem dX7_clearTick_86 : decode cX7_clearTick 86 = .ok (.istore 7, 2) := by decide +kernel
theorem dX7_clearTick_88 : decode cX7_clearTick 88 = .ok (.iinc 8 (-1), 3) := by decide +kernel
theorem dX7_clearTick_91 : decode cX7_clearTick 91 = .ok (.goto (-66), 3) := by decide +kernel
theorem dX7_clearTick_94 : decode cX7_clearTick 94 = .ok (.iload 7, 2) := by decide +kernel
theorem dX7_clearTick_96 : decode cX7_clearTick 96 = .ok (.ireturn, 1) := by decide +kernel
theorem dX7_openersAt_0 : decode cX7_openersAt 0 = .ok (.iload 4, 2) := by decide +kernel
theorem dX7_openersAt_2 : decode cX7_openersAt 2 = .ok (.iconst (-1), 1) := by decide +kernel
theorem dX7_openersAt_3 : decode cX7_openersAt 3 = .ok (.if_icmp .ne 5, 3) := by decide +kernel
theorem dX7_openersAt_6 : decode cX7_openersAt 6 = .ok (.iconst 0, 1) := by decide +kernel
theorem dX7_openersAt_7 : decode cX7_openersAt 7 = .ok (.ireturn, 1) := by decide +kernel
theorem dX7_openersAt_8 : decode cX7_openersAt 8 = .ok (.aload_n 0, 1) := by decide +kernel
theorem dX7_openersAt_9 : decode cX7_openersAt 9 = .ok (.iload_n 1, 1) := by decide +kernel
theorem dX7_openersAt_10 : decode cX7_openersAt 10 = .ok (.invokevirtual 280, 3) := by decide +kernel
theorem dX7_openersAt_13 : decode cX7_openersAt 13 = .ok (.istore 5, 2) := by decide +kernel
theorem dX7_openersAt_15 : decode cX7_openersAt 15 = .ok (.aload_n 0, 1) := by decide +kernel
theorem dX7_openersAt_16 : decode cX7_openersAt 16 = .ok (.getfield 10, 3) := by decide +kernel
theorem dX7_openersAt_19 : decode cX7_openersAt 19 = .ok (.iload_n 1, 1) := by decide +kernel
theorem dX7_openersAt_20 : decode cX7_openersAt 20 = .ok (.iload_n 2, 1) := by decide +kernel
theorem dX7_openersAt_21 : decode cX7_openersAt 21 = .ok (.iload_n 3, 1) := by decide +kernel
theorem dX7_openersAt_22 : decode cX7_openersAt 22 = .ok (.invokevirtual 158, 3) := by decide +kernel
theorem dX7_openersAt_25 : decode cX7_openersAt 25 = .ok (.lstore 6, 2) := by decide +kernel
theorem dX7_openersAt_27 : decode cX7_openersAt 27 = .ok (.iconst 0, 1) := by decide +kernel
theorem dX7_openersAt_28 : decode cX7_openersAt 28 = .ok (.istore 8, 2) := by decide +kernel
theorem dX7_openersAt_30 : decode cX7_openersAt 30 = .ok (.iload_n 1, 1) := by decide +kernel
theorem dX7_openersAt_31 : decode cX7_openersAt 31 = .ok (.istore 9, 2) := by decide +kernel
theorem dX7_openersAt_33 : decode cX7_openersAt 33 = .ok (.iload 9, 2) := by decide +kernel
theorem dX7_openersAt_35 : decode cX7_openersAt 35 = .ok (.iconst 1, 1) := by decide +kernel
theorem dX7_openersAt_36 : decode cX7_openersAt 36 = .ok (.if_icmp .lt 51, 3) := by decide +kernel
theorem dX7_openersAt_39 : decode cX7_openersAt 39 = .ok (.iload 5, 2) := by decide +kernel
theorem dX7_openersAt_41 : decode cX7_openersAt 41 = .ok (.iload 9, 2) := by decide +kernel
theorem dX7_openersAt_43 : decode cX7_openersAt 43 = .ok (.invokestatic 274, 3) := by decide +kernel
theorem dX7_openersAt_46 : decode cX7_openersAt 46 = .ok (.ifCond .eq 35, 3) := by decide +kernel
theorem dX7_openersAt_49 : decode cX7_openersAt 49 = .ok (.aload_n 0, 1) := by decide +kernel
theorem dX7_openersAt_50 : decode cX7_openersAt 50 = .ok (.getfield 19, 3) := by decide +kernel
theorem dX7_openersAt_53 : decode cX7_openersAt 53 = .ok (.iload 9, 2) := by decide +kernel
theorem dX7_openersAt_55 : decode cX7_openersAt 55 = .ok (.aload_n 0, 1) := by decide +kernel
theorem dX7_openersAt_56 : decode cX7_openersAt 56 = .ok (.getfield 10, 3) := by decide +kernel
theorem dX7_openersAt_59 : decode cX7_openersAt 59 = .ok (.invokevirtual 164, 3) := by decide +kernel
theorem dX7_openersAt_62 : decode cX7_openersAt 62 = .ok (.lload 6, 2) := by decide +kernel
theorem dX7_openersAt_64 : decode cX7_openersAt 64 = .ok (.invokevirtual 172, 3) := by decide +kernel
theorem dX7_openersAt_67 : decode cX7_openersAt 67 = .ok (.iload 4, 2) := by decide +kernel
theorem dX7_openersAt_69 : decode cX7_openersAt 69 = .ok (.if_icmp .ne 12, 3) := by decide +kernel
theorem dX7_openersAt_72 : decode cX7_openersAt 72 = .ok (.iload 8, 2) := by decide +kernel
theorem dX7_openersAt_74 : decode cX7_openersAt 74 = .ok (.iconst 1, 1) := by decide +kernel
theorem dX7_openersAt_75 : decode cX7_openersAt 75 = .ok (.iload 9, 2) := by decide +kernel
theorem dX7_openersAt_77 : decode cX7_openersAt 77 = .ok (.ishl, 1) := by decide +kernel
theorem dX7_openersAt_78 : decode cX7_openersAt 78 = .ok (.ior, 1) := by decide +kernel
theorem dX7_openersAt_79 : decode cX7_openersAt 79 = .ok (.istore 8, 2) := by decide +kernel
theorem dX7_openersAt_81 : decode cX7_openersAt 81 = .ok (.iinc 9 (-1), 3) := by decide +kernel
theorem dX7_openersAt_84 : decode cX7_openersAt 84 = .ok (.goto (-51), 3) := by decide +kernel
theorem dX7_openersAt_87 : decode cX7_openersAt 87 = .ok (.iload 8, 2) := by decide +kernel
theorem dX7_openersAt_89 : decode cX7_openersAt 89 = .ok (.ireturn, 1) := by decide +kernel
theorem dX7_arcOf_0 : decode cX7_arcOf 0 = .ok (.aload_n 0, 1) := by decide +kernel
theorem dX7_arcOf_1 : decode cX7_arcOf 1 = .ok (.iload_n 1, 1) := by decide +kernel
theorem dX7_arcOf_2 : decode cX7_arcOf 2 = .ok (.iload_n 2, 1) := by decide +kernel
theorem dX7_arcOf_3 : decode cX7_arcOf 3 = .ok (.iload_n 3, 1) := by decide +kernel
theorem dX7_arcOf_4 : decode cX7_arcOf 4 = .ok (.invokevirtual 176, 3) := by decide +kernel
theorem dX7_arcOf_7 : decode cX7_arcOf 7 = .ok (.istore 4, 2) := by decide +kernel
theorem dX7_arcOf_9 : decode cX7_arcOf 9 = .ok (.aload_n 0, 1) := by decide +kernel
theorem dX7_arcOf_10 : decode cX7_arcOf 10 = .ok (.getfield 10, 3) := by decide +kernel
theorem dX7_arcOf_13 : decode cX7_arcOf 13 = .ok (.iload_n 1, 1) := by decide +kernel
theorem dX7_arcOf_14 : decode cX7_arcOf 14 = .ok (.iload_n 2, 1) := by decide +kernel
theorem dX7_arcOf_15 : decode cX7_arcOf 15 = .ok (.iload_n 3, 1) := by decide +kernel
theorem dX7_arcOf_16 : decode cX7_arcOf 16 = .ok (.invokevirtual 158, 3) := by decide +kernel
theorem dX7_arcOf_19 : decode cX7_arcOf 19 = .ok (.lstore 5, 2) := by decide +kernel
theorem dX7_arcOf_21 : decode cX7_arcOf 21 = .ok (.iload 4, 2) := by decide +kernel
theorem dX7_arcOf_23 : decode cX7_arcOf 23 = .ok (.iconst (-1), 1) := by decide +kernel
theorem dX7_arcOf_24 : decode cX7_arcOf 24 = .ok (.if_icmp .eq 10, 3) := by decide +kernel
theorem dX7_arcOf_27 : decode cX7_arcOf 27 = .ok (.lload 5, 2) := by decide +kernel
theorem dX7_arcOf_29 : decode cX7_arcOf 29 = .ok (.lconst 1, 1) := by decide +kernel
theorem dX7_arcOf_30 : decode cX7_arcOf 30 = .ok (.lcmp, 1) := by decide +kernel
theorem dX7_arcOf_31 : decode cX7_arcOf 31 = .ok (.ifCond .ge 7, 3) := by decide +kernel
theorem dX7_arcOf_34 : decode cX7_arcOf 34 = .ok (.ldc2_w 156, 3) := by decide +kernel
theorem dX7_arcOf_37 : decode cX7_arcOf 37 = .ok (.lreturn, 1) := by decide +kernel
theorem dX7_arcOf_38 : decode cX7_arcOf 38 = .ok (.aload_n 0, 1) := by decide +kernel
theorem dX7_arcOf_39 : decode cX7_arcOf 39 = .ok (.getfield 10, 3) := by decide +kernel
theorem dX7_arcOf_42 : decode cX7_arcOf 42 = .ok (.invokevirtual 164, 3) := by decide +kernel
theorem dX7_arcOf_45 : decode cX7_arcOf 45 = .ok (.lstore 7, 2) := by decide +kernel
theorem dX7_arcOf_47 : decode cX7_arcOf 47 = .ok (.lload 7, 2) := by decide +kernel
theorem dX7_arcOf_49 : decode cX7_arcOf 49 = .ok (.lload 7, 2) := by decide +kernel
theorem dX7_arcOf_51 : decode cX7_arcOf 51 = .ok (.lmul, 1) := by decide +kernel
theorem dX7_arcOf_52 : decode cX7_arcOf 52 = .ok (.iload 4, 2) := by decide +kernel
theorem dX7_arcOf_54 : decode cX7_arcOf 54 = .ok (.i2l, 1) := by decide +kernel
theorem dX7_arcOf_55 : decode cX7_arcOf 55 = .ok (.lmul, 1) := by decide +kernel
theorem dX7_arcOf_56 : decode cX7_arcOf 56 = .ok (.lload 5, 2) := by decide +kernel
theorem dX7_arcOf_58 : decode cX7_arcOf 58 = .ok (.lload 5, 2) := by decide +kernel
theorem dX7_arcOf_60 : decode cX7_arcOf 60 = .ok (.lmul, 1) := by decide +kernel
theorem dX7_arcOf_61 : decode cX7_arcOf 61 = .ok (.ldiv, 1) := by decide +kernel
theorem dX7_arcOf_62 : decode cX7_arcOf 62 = .ok (.lreturn, 1) := by decide +kernel
theorem dX7_worstOf_0 : decode cX7_worstOf 0 = .ok (.lconst 0, 1) := by decide +kernel
theorem dX7_worstOf_1 : decode cX7_worstOf 1 = .ok (.lstore_n 2, 1) := by decide +kernel
theorem dX7_worstOf_2 : decode cX7_worstOf 2 = .ok (.iconst 0, 1) := by decide +kernel
theorem dX7_worstOf_3 : decode cX7_worstOf 3 = .ok (.istore 4, 2) := by decide +kernel
theorem dX7_worstOf_5 : decode cX7_worstOf 5 = .ok (.iload 4, 2) := by decide +kernel
theorem dX7_worstOf_7 : decode cX7_worstOf 7 = .ok (.bipush 16, 2) := by decide +kernel
theorem dX7_worstOf_9 : decode cX7_worstOf 9 = .ok (.if_icmp .gt 68, 3) := by decide +kernel
theorem dX7_worstOf_12 : decode cX7_worstOf 12 = .ok (.iconst 0, 1) := by decide +kernel
theorem dX7_worstOf_13 : decode cX7_worstOf 13 = .ok (.istore 5, 2) := by decide +kernel
theorem dX7_worstOf_15 : decode cX7_worstOf 15 = .ok (.iload 5, 2) := by decide +kernel
theorem dX7_worstOf_17 : decode cX7_worstOf 17 = .ok (.aload_n 0, 1) := by decide +kernel
theorem dX7_worstOf_18 : decode cX7_worstOf 18 = .ok (.getfield 26, 3) := by decide +kernel
theorem dX7_worstOf_21 : decode cX7_worstOf 21 = .ok (.invokevirtual 283, 3) := by decide +kernel
theorem dX7_worstOf_24 : decode cX7_worstOf 24 = .ok (.if_icmp .ge 47, 3) := by decide +kernel
theorem dX7_worstOf_27 : decode cX7_worstOf 27 = .ok (.aload_n 0, 1) := by decide +kernel
theorem dX7_worstOf_28 : decode cX7_worstOf 28 = .ok (.iload_n 1, 1) := by decide +kernel
theorem dX7_worstOf_29 : decode cX7_worstOf 29 = .ok (.iload 4, 2) := by decide +kernel
theorem dX7_worstOf_31 : decode cX7_worstOf 31 = .ok (.aload_n 0, 1) := by decide +kernel
theorem dX7_worstOf_32 : decode cX7_worstOf 32 = .ok (.getfield 26, 3) := by decide +kernel
theorem dX7_worstOf_35 : decode cX7_worstOf 35 = .ok (.iload 5, 2) := by decide +kernel
theorem dX7_worstOf_37 : decode cX7_worstOf 37 = .ok (.invokevirtual 286, 3) := by decide +kernel
theorem dX7_worstOf_40 : decode cX7_worstOf 40 = .ok (.invokevirtual 215, 3) := by decide +kernel
theorem dX7_worstOf_43 : decode cX7_worstOf 43 = .ok (.lstore 6, 2) := by decide +kernel
theorem dX7_worstOf_45 : decode cX7_worstOf 45 = .ok (.lload 6, 2) := by decide +kernel
theorem dX7_worstOf_47 : decode cX7_worstOf 47 = .ok (.ldc2_w 156, 3) := by decide +kernel
theorem dX7_worstOf_50 : decode cX7_worstOf 50 = .ok (.lcmp, 1) := by decide +kernel
theorem dX7_worstOf_51 : decode cX7_worstOf 51 = .ok (.ifCond .ne 7, 3) := by decide +kernel
theorem dX7_worstOf_54 : decode cX7_worstOf 54 = .ok (.ldc2_w 156, 3) := by decide +kernel
theorem dX7_worstOf_57 : decode cX7_worstOf 57 = .ok (.lreturn, 1) := by decide +kernel
theorem dX7_worstOf_58 : decode cX7_worstOf 58 = .ok (.lload_n 2, 1) := by decide +kernel
theorem dX7_worstOf_59 : decode cX7_worstOf 59 = .ok (.lload 6, 2) := by decide +kernel
theorem dX7_worstOf_61 : decode cX7_worstOf 61 = .ok (.invokestatic 222, 3) := by decide +kernel
theorem dX7_worstOf_64 : decode cX7_worstOf 64 = .ok (.lstore_n 2, 1) := by decide +kernel
theorem dX7_worstOf_65 : decode cX7_worstOf 65 = .ok (.iinc 5 1, 3) := by decide +kernel
theorem dX7_worstOf_68 : decode cX7_worstOf 68 = .ok (.goto (-53), 3) := by decide +kernel
theorem dX7_worstOf_71 : decode cX7_worstOf 71 = .ok (.iinc 4 1, 3) := by decide +kernel
theorem dX7_worstOf_74 : decode cX7_worstOf 74 = .ok (.goto (-69), 3) := by decide +kernel
theorem dX7_worstOf_77 : decode cX7_worstOf 77 = .ok (.lload_n 2, 1) := by decide +kernel
theorem dX7_worstOf_78 : decode cX7_worstOf 78 = .ok (.lreturn, 1) := by decide +kernel
theorem dX7_growthOf_0 : decode cX7_growthOf 0 = .ok (.aload_n 0, 1) := by decide +kernel
theorem dX7_growthOf_1 : decode cX7_growthOf 1 = .ok (.getfield 10, 3) := by decide +kernel
theorem dX7_growthOf_4 : decode cX7_growthOf 4 = .ok (.iload_n 1, 1) := by decide +kernel
theorem dX7_growthOf_5 : decode cX7_growthOf 5 = .ok (.invokevirtual 147, 3) := by decide +kernel
theorem dX7_growthOf_8 : decode cX7_growthOf 8 = .ok (.i2l, 1) := by decide +kernel
theorem dX7_growthOf_9 : decode cX7_growthOf 9 = .ok (.lstore_n 2, 1) := by decide +kernel
theorem dX7_growthOf_10 : decode cX7_growthOf 10 = .ok (.aload_n 0, 1) := by decide +kernel
theorem dX7_growthOf_11 : decode cX7_growthOf 11 = .ok (.getfield 19, 3) := by decide +kernel
theorem dX7_growthOf_14 : decode cX7_growthOf 14 = .ok (.iload_n 1, 1) := by decide +kernel
theorem dX7_growthOf_15 : decode cX7_growthOf 15 = .ok (.invokevirtual 289, 3) := by decide +kernel
theorem dX7_growthOf_18 : decode cX7_growthOf 18 = .ok (.lstore 4, 2) := by decide +kernel
theorem dX7_growthOf_20 : decode cX7_growthOf 20 = .ok (.lload_n 2, 1) := by decide +kernel
theorem dX7_growthOf_21 : decode cX7_growthOf 21 = .ok (.lconst 1, 1) := by decide +kernel
theorem dX7_growthOf_22 : decode cX7_growthOf 22 = .ok (.lcmp, 1) := by decide +kernel
theorem dX7_growthOf_23 : decode cX7_growthOf 23 = .ok (.ifCond .lt 12, 3) := by decide +kernel
theorem dX7_growthOf_26 : decode cX7_growthOf 26 = .ok (.lload 4, 2) := by decide +kernel
theorem dX7_growthOf_28 : decode cX7_growthOf 28 = .ok (.ldc2_w 156, 3) := by decide +kernel
theorem dX7_growthOf_31 : decode cX7_growthOf 31 = .ok (.lcmp, 1) := by decide +kernel
theorem dX7_growthOf_32 : decode cX7_growthOf 32 = .ok (.ifCond .ne 7, 3) := by decide +kernel
theorem dX7_growthOf_35 : decode cX7_growthOf 35 = .ok (.ldc2_w 228, 3) := by decide +kernel
theorem dX7_growthOf_38 : decode cX7_growthOf 38 = .ok (.lreturn, 1) := by decide +kernel
theorem dX7_growthOf_39 : decode cX7_growthOf 39 = .ok (.ldc2_w 292, 3) := by decide +kernel
theorem dX7_growthOf_42 : decode cX7_growthOf 42 = .ok (.lload 4, 2) := by decide +kernel
theorem dX7_growthOf_44 : decode cX7_growthOf 44 = .ok (.lmul, 1) := by decide +kernel
theorem dX7_growthOf_45 : decode cX7_growthOf 45 = .ok (.lconst 1, 1) := by decide +kernel
theorem dX7_growthOf_46 : decode cX7_growthOf 46 = .ok (.lsub, 1) := by decide +kernel
theorem dX7_growthOf_47 : decode cX7_growthOf 47 = .ok (.lload_n 2, 1) := by decide +kernel
theorem dX7_growthOf_48 : decode cX7_growthOf 48 = .ok (.ldiv, 1) := by decide +kernel
theorem dX7_growthOf_49 : decode cX7_growthOf 49 = .ok (.lreturn, 1) := by decide +kernel
theorem dX7_findLeastDials_0 : decode cX7_findLeastDials 0 = .ok (.aload_n 0, 1) := by decide +kernel
theorem dX7_findLeastDials_1 : decode cX7_findLeastDials 1 = .ok (.getfield 42, 3) := by decide +kernel
theorem dX7_findLeastDials_4 : decode cX7_findLeastDials 4 = .ok (.invokevirtual 245, 3) := by decide +kernel
theorem dX7_findLeastDials_7 : decode cX7_findLeastDials 7 = .ok (.aload_n 0, 1) := by decide +kernel
theorem dX7_findLeastDials_8 : decode cX7_findLeastDials 8 = .ok (.getfield 19, 3) := by decide +kernel
theorem dX7_findLeastDials_11 : decode cX7_findLeastDials 11 = .ok (.getfield 114, 3) := by decide +kernel
theorem dX7_findLeastDials_14 : decode cX7_findLeastDials 14 = .ok (.iconst 0, 1) := by decide +kernel
theorem dX7_findLeastDials_15 : decode cX7_findLeastDials 15 = .ok (.aload_n 0, 1) := by decide +kernel
theorem dX7_findLeastDials_16 : decode cX7_findLeastDials 16 = .ok (.getfield 55, 3) := by decide +kernel
theorem dX7_findLeastDials_19 : decode cX7_findLeastDials 19 = .ok (.iconst 0, 1) := by decide +kernel
theorem dX7_findLeastDials_20 : decode cX7_findLeastDials 20 = .ok (.bipush 30, 2) := by decide +kernel
theorem dX7_findLeastDials_22 : decode cX7_findLeastDials 22 = .ok (.invokestatic 205, 3) := by decide +kernel
theorem dX7_findLeastDials_25 : decode cX7_findLeastDials 25 = .ok (.aload_n 0, 1) := by decide +kernel
theorem dX7_findLeastDials_26 : decode cX7_findLeastDials 26 = .ok (.getfield 10, 3) := by decide +kernel
theorem dX7_findLeastDials_29 : decode cX7_findLeastDials 29 = .ok (.getfield 81, 3) := by decide +kernel
theorem dX7_findLeastDials_32 : decode cX7_findLeastDials 32 = .ok (.iconst 1, 1) := by decide +kernel
theorem dX7_findLeastDials_33 : decode cX7_findLeastDials 33 = .ok (.isub, 1) := by decide +kernel
theorem dX7_findLeastDials_34 : decode cX7_findLeastDials 34 = .ok (.istore_n 1, 1) := by decide +kernel
theorem dX7_findLeastDials_35 : decode cX7_findLeastDials 35 = .ok (.iload_n 1, 1) := by decide +kernel
theorem dX7_findLeastDials_36 : decode cX7_findLeastDials 36 = .ok (.iconst 1, 1) := by decide +kernel
theorem dX7_findLeastDials_37 : decode cX7_findLeastDials 37 = .ok (.if_icmp .lt 51, 3) := by decide +kernel
theorem dX7_findLeastDials_40 : decode cX7_findLeastDials 40 = .ok (.aload_n 0, 1) := by decide +kernel
theorem dX7_findLeastDials_41 : decode cX7_findLeastDials 41 = .ok (.getfield 19, 3) := by decide +kernel
theorem dX7_findLeastDials_44 : decode cX7_findLeastDials 44 = .ok (.iload_n 1, 1) := by decide +kernel
theorem dX7_findLeastDials_45 : decode cX7_findLeastDials 45 = .ok (.invokevirtual 107, 3) := by decide +kernel
theorem dX7_findLeastDials_48 : decode cX7_findLeastDials 48 = .ok (.ifCond .eq 34, 3) := by decide +kernel
theorem dX7_findLeastDials_51 : decode cX7_findLeastDials 51 = .ok (.aload_n 0, 1) := by decide +kernel
theorem dX7_findLeastDials_52 : decode cX7_findLeastDials 52 = .ok (.getfield 42, 3) := by decide +kernel
theorem dX7_findLeastDials_55 : decode cX7_findLeastDials 55 = .ok (.iload_n 1, 1) := by decide +kernel
theorem dX7_findLeastDials_56 : decode cX7_findLeastDials 56 = .ok (.aload_n 0, 1) := by decide +kernel
theorem dX7_findLeastDials_57 : decode cX7_findLeastDials 57 = .ok (.getfield 55, 3) := by decide +kernel
theorem dX7_findLeastDials_60 : decode cX7_findLeastDials 60 = .ok (.invokevirtual 294, 3) := by decide +kernel
theorem dX7_findLeastDials_63 : decode cX7_findLeastDials 63 = .ok (.lstore_n 2, 1) := by decide +kernel
theorem dX7_findLeastDials_64 : decode cX7_findLeastDials 64 = .ok (.lload_n 2, 1) := by decide +kernel
theorem dX7_findLeastDials_65 : decode cX7_findLeastDials 65 = .ok (.ldc2_w 298, 3) := by decide +kernel
theorem dX7_findLeastDials_68 : decode cX7_findLeastDials 68 = .ok (.lcmp, 1) := by decide +kernel
theorem dX7_findLeastDials_69 : decode cX7_findLeastDials 69 = .ok (.ifCond .le 5, 3) := by decide +kernel
theorem dX7_findLeastDials_72 : decode cX7_findLeastDials 72 = .ok (.iconst 0, 1) := by decide +kernel
theorem dX7_findLeastDials_73 : decode cX7_findLeastDials 73 = .ok (.ireturn, 1) := by decide +kernel
theorem dX7_findLeastDials_74 : decode cX7_findLeastDials 74 = .ok (.aload_n 0, 1) := by decide +kernel
theorem dX7_findLeastDials_75 : decode cX7_findLeastDials 75 = .ok (.getfield 55, 3) := by decide +kernel
theorem dX7_findLeastDials_78 : decode cX7_findLeastDials 78 = .ok (.iload_n 1, 1) := by decide +kernel
theorem dX7_findLeastDials_79 : decode cX7_findLeastDials 79 = .ok (.lload_n 2, 1) := by decide +kernel
theorem dX7_findLeastDials_80 : decode cX7_findLeastDials 80 = .ok (.l2i, 1) := by decide +kernel
theorem dX7_findLeastDials_81 : decode cX7_findLeastDials 81 = .ok (.iastore, 1) := by decide +kernel
theorem dX7_findLeastDials_82 : decode cX7_findLeastDials 82 = .ok (.iinc 1 (-1), 3) := by decide +kernel
theorem dX7_findLeastDials_85 : decode cX7_findLeastDials 85 = .ok (.goto (-50), 3) := by decide +kernel
theorem dX7_findLeastDials_88 : decode cX7_findLeastDials 88 = .ok (.iconst 1, 1) := by decide +kernel
theorem dX7_findLeastDials_89 : decode cX7_findLeastDials 89 = .ok (.ireturn, 1) := by decide +kernel
end
section
theorem dX8_init_0 : decode cX8_init 0 = .ok (.aload_n 0, 1) := by decide +kernel
theorem dX8_init_1 : decode cX8_init 1 = .ok (.invokespecial 1, 3) := by decide +kernel
theorem dX8_init_4 : decode cX8_init 4 = .ok (.aload_n 0, 1) := by decide +kernel
theorem dX8_init_5 : decode cX8_init 5 = .ok (.iconst 1, 1) := by decide +kernel
theorem dX8_init_6 : decode cX8_init 6 = .ok (.putfield 7, 3) := by decide +kernel
theorem dX8_init_9 : decode cX8_init 9 = .ok (.aload_n 0, 1) := by decide +kernel
theorem dX8_init_10 : decode cX8_init 10 = .ok (.sipush 1000, 3) := by decide +kernel
theorem dX8_init_13 : decode cX8_init 13 = .ok (.putfield 13, 3) := by decide +kernel
theorem dX8_init_16 : decode cX8_init 16 = .ok (.aload_n 0, 1) := by decide +kernel
theorem dX8_init_17 : decode cX8_init 17 = .ok (.iconst 1, 1) := by decide +kernel
theorem dX8_init_18 : decode cX8_init 18 = .ok (.putfield 16, 3) := by decide +kernel
theorem dX8_init_21 : decode cX8_init 21 = .ok (.aload_n 0, 1) := by decide +kernel
theorem dX8_init_22 : decode cX8_init 22 = .ok (.iconst 1, 1) := by decide +kernel
theorem dX8_init_23 : decode cX8_init 23 = .ok (.putfield 19, 3) := by decide +kernel
theorem dX8_init_26 : decode cX8_init 26 = .ok (.aload_n 0, 1) := by decide +kernel
theorem dX8_init_27 : decode cX8_init 27 = .ok (.ldc 22, 2) := by decide +kernel
theorem dX8_init_29 : decode cX8_init 29 = .ok (.putfield 23, 3) := by decide +kernel
theorem dX8_init_32 : decode cX8_init 32 = .ok (.aload_n 0, 1) := by decide +kernel
theorem dX8_init_33 : decode cX8_init 33 = .ok (.bipush 30, 2) := by decide +kernel
theorem dX8_init_35 : decode cX8_init 35 = .ok (.newarray .int, 2) := by decide +kernel
theorem dX8_init_37 : decode cX8_init 37 = .ok (.putfield 26, 3) := by decide +kernel
theorem dX8_init_40 : decode cX8_init 40 = .ok (.aload_n 0, 1) := by decide +kernel
theorem dX8_init_41 : decode cX8_init 41 = .ok (.bipush 30, 2) := by decide +kernel
theorem dX8_init_43 : decode cX8_init 43 = .ok (.newarray .int, 2) := by decide +kernel
theorem dX8_init_45 : decode cX8_init 45 = .ok (.putfield 30, 3) := by decide +kernel
theorem dX8_init_48 : decode cX8_init 48 = .ok (.aload_n 0, 1) := by decide +kernel
theorem dX8_init_49 : decode cX8_init 49 = .ok (.bipush 30, 2) := by decide +kernel
theorem dX8_init_51 : decode cX8_init 51 = .ok (.newarray .int, 2) := by decide +kernel
theorem dX8_init_53 : decode cX8_init 53 = .ok (.putfield 33, 3) := by decide +kernel
theorem dX8_init_56 : decode cX8_init 56 = .ok (.aload_n 0, 1) := by decide +kernel
theorem dX8_init_57 : decode cX8_init 57 = .ok (.bipush 8, 2) := by decide +kernel
theorem dX8_init_59 : decode cX8_init 59 = .ok (.newarray .int, 2) := by decide +kernel
theorem dX8_init_61 : decode cX8_init 61 = .ok (.putfield 36, 3) := by decide +kernel
theorem dX8_init_64 : decode cX8_init 64 = .ok (.aload_n 0, 1) := by decide +kernel
theorem dX8_init_65 : decode cX8_init 65 = .ok (.bipush 64, 2) := by decide +kernel
theorem dX8_init_67 : decode cX8_init 67 = .ok (.newarray .int, 2) := by decide +kernel
theorem dX8_init_69 : decode cX8_init 69 = .ok (.putfield 39, 3) := by decide +kernel
theorem dX8_init_72 : decode cX8_init 72 = .ok (.aload_n 0, 1) := by decide +kernel
theorem dX8_init_73 : decode cX8_init 73 = .ok (.bipush 64, 2) := by decide +kernel
theorem dX8_init_75 : decode cX8_init 75 = .ok (.newarray .int, 2) := by decide +kernel
theorem dX8_init_77 : decode cX8_init 77 = .ok (.putfield 42, 3) := by decide +kernel
theorem dX8_init_80 : decode cX8_init 80 = .ok (.aload_n 0, 1) := by decide +kernel
theorem dX8_init_81 : decode cX8_init 81 = .ok (.bipush 30, 2) := by decide +kernel
theorem dX8_init_83 : decode cX8_init 83 = .ok (.newarray .boolean, 2) := by decide +kernel
theorem dX8_init_85 : decode cX8_init 85 = .ok (.putfield 45, 3) := by decide +kernel
theorem dX8_init_88 : decode cX8_init 88 = .ok (.aload_n 0, 1) := by decide +kernel
theorem dX8_init_89 : decode cX8_init 89 = .ok (.bipush 30, 2) := by decide +kernel
theorem dX8_init_91 : decode cX8_init 91 = .ok (.newarray .int, 2) := by decide +kernel
theorem dX8_init_93 : decode cX8_init 93 = .ok (.putfield 49, 3) := by decide +kernel
theorem dX8_init_96 : decode cX8_init 96 = .ok (.aload_n 0, 1) := by decide +kernel
theorem dX8_init_97 : decode cX8_init 97 = .ok (.bipush 30, 2) := by decide +kernel
theorem dX8_init_99 : decode cX8_init 99 = .ok (.newarray .int, 2) := by decide +kernel
theorem dX8_init_101 : decode cX8_init 101 = .ok (.putfield 52, 3) := by decide +kernel
theorem dX8_init_104 : decode cX8_init 104 = .ok (.aload_n 0, 1) := by decide +kernel
theorem dX8_init_105 : decode cX8_init 105 = .ok (.bipush 30, 2) := by decide +kernel
theorem dX8_init_107 : decode cX8_init 107 = .ok (.newarray .int, 2) := by decide +kernel
theorem dX8_init_109 : decode cX8_init 109 = .ok (.putfield 55, 3) := by decide +kernel
theorem dX8_init_112 : decode cX8_init 112 = .ok (.aload_n 0, 1) := by decide +kernel
theorem dX8_init_113 : decode cX8_init 113 = .ok (.bipush 30, 2) := by decide +kernel
theorem dX8_init_115 : decode cX8_init 115 = .ok (.newarray .boolean, 2) := by decide +kernel
theorem dX8_init_117 : decode cX8_init 117 = .ok (.putfield 58, 3) := by decide +kernel
theorem dX8_init_120 : decode cX8_init 120 = .ok (.aload_n 0, 1) := by decide +kernel
theorem dX8_init_121 : decode cX8_init 121 = .ok (.bipush 30, 2) := by decide +kernel
theorem dX8_init_123 : decode cX8_init 123 = .ok (.newarray .int, 2) := by decide +kernel
theorem dX8_init_125 : decode cX8_init 125 = .ok (.putfield 61, 3) := by decide +kernel
theorem dX8_init_128 : decode cX8_init 128 = .ok (.aload_n 0, 1) := by decide +kernel
theorem dX8_init_129 : decode cX8_init 129 = .ok (.bipush 30, 2) := by decide +kernel
theorem dX8_init_131 : decode cX8_init 131 = .ok (.newarray .boolean, 2) := by decide +kernel
theorem dX8_init_133 : decode cX8_init 133 = .ok (.putfield 64, 3) := by decide +kernel
theorem dX8_init_136 : decode cX8_init 136 = .ok (.aload_n 0, 1) := by decide +kernel
theorem dX8_init_137 : decode cX8_init 137 = .ok (.bipush 30, 2) := by decide +kernel
theorem dX8_init_139 : decode cX8_init 139 = .ok (.newarray .boolean, 2) := by decide +kernel
theorem dX8_init_141 : decode cX8_init 141 = .ok (.putfield 67, 3) := by decide +kernel
theorem dX8_init_144 : decode cX8_init 144 = .ok (.aload_n 0, 1) := by decide +kernel
theorem dX8_init_145 : decode cX8_init 145 = .ok (.bipush 10, 2) := by decide +kernel
theorem dX8_init_147 : decode cX8_init 147 = .ok (.newarray .int, 2) := by decide +kernel
theorem dX8_init_149 : decode cX8_init 149 = .ok (.putfield 70, 3) := by decide +kernel
theorem dX8_init_152 : decode cX8_init 152 = .ok (.aload_n 0, 1) := by decide +kernel
theorem dX8_init_153 : decode cX8_init 153 = .ok (.bipush 30, 2) := by decide +kernel
theorem dX8_init_155 : decode cX8_init 155 = .ok (.newarray .int, 2) := by decide +kernel
theorem dX8_init_157 : decode cX8_init 157 = .ok (.putfield 73, 3) := by decide +kernel
theorem dX8_init_160 : decode cX8_init 160 = .ok (.aload_n 0, 1) := by decide +kernel
theorem dX8_init_161 : decode cX8_init 161 = .ok (.bipush 30, 2) := by decide +kernel
theorem dX8_init_163 : decode cX8_init 163 = .ok (.newarray .int, 2) := by decide +kernel
theorem dX8_init_165 : decode cX8_init 165 = .ok (.putfield 76, 3) := by decide +kernel
theorem dX8_init_168 : decode cX8_init 168 = .ok (.aload_n 0, 1) := by decide +kernel
theorem dX8_init_169 : decode cX8_init 169 = .ok (.sipush 1024, 3) := by decide +kernel
theorem dX8_init_172 : decode cX8_init 172 = .ok (.newarray .byte, 2) := by decide +kernel
theorem dX8_init_174 : decode cX8_init 174 = .ok (.putfield 79, 3) := by decide +kernel
theorem dX8_init_177 : decode cX8_init 177 = .ok (.iconst 0, 1) := by decide +kernel
theorem dX8_init_178 : decode cX8_init 178 = .ok (.istore_n 1, 1) := by decide +kernel
theorem dX8_init_179 : decode cX8_init 179 = .ok (.iload_n 1, 1) := by decide +kernel
theorem dX8_init_180 : decode cX8_init 180 = .ok (.bipush 30, 2) := by decide +kernel
theorem dX8_init_182 : decode cX8_init 182 = .ok (.if_icmp .ge 16, 3) := by decide +kernel
theorem dX8_init_185 : decode cX8_init 185 = .ok (.aload_n 0, 1) := by decide +kernel
theorem dX8_init_186 : decode cX8_init 186 = .ok (.getfield 61, 3) := by decide +kernel
theorem dX8_init_189 : decode cX8_init 189 = .ok (.iload_n 1, 1) := by decide +kernel
theorem dX8_init_190 : decode cX8_init 190 = .ok (.iconst (-1), 1) := by decide +kernel
theorem dX8_init_191 : decode cX8_init 191 = .ok (.iastore, 1) := by decide +kernel
theorem dX8_init_192 : decode cX8_init 192 = .ok (.iinc 1 1, 3) := by decide +kernel
theorem dX8_init_195 : decode cX8_init 195 = .ok (.goto (-16), 3) := by decide +kernel
theorem dX8_init_198 : decode cX8_init 198 = .ok (.return_, 1) := by decide +kernel
theorem dX8_isIn_0 : decode cX8_isIn 0 = .ok (.iload_n 0, 1) := by decide +kernel
theorem dX8_isIn_1 : decode cX8_isIn 1 = .ok (.iload_n 1, 1) := by decide +kernel
theorem dX8_isIn_2 : decode cX8_isIn 2 = .ok (.if_icmp .lt 12, 3) := by decide +kernel
theorem dX8_isIn_5 : decode cX8_isIn 5 = .ok (.iload_n 0, 1) := by decide +kernel
theorem dX8_isIn_6 : decode cX8_isIn 6 = .ok (.iload_n 2, 1) := by decide +kernel
theorem dX8_isIn_7 : decode cX8_isIn 7 = .ok (.if_icmp .gt 7, 3) := by decide +kernel
theorem dX8_isIn_10 : decode cX8_isIn 10 = .ok (.iconst 1, 1) := by decide +kernel
theorem dX8_isIn_11 : decode cX8_isIn 11 = .ok (.goto 4, 3) := by decide +kernel
theorem dX8_isIn_14 : decode cX8_isIn 14 = .ok (.iconst 0, 1) := by decide +kernel
theorem dX8_isIn_15 : decode cX8_isIn 15 = .ok (.ireturn, 1) := by decide +kernel
theorem dX8_isLine_0 : decode cX8_isLine 0 = .ok (.iload_n 1, 1) := by decide +kernel
theorem dX8_isLine_1 : decode cX8_isLine 1 = .ok (.iconst 1, 1) := by decide +kernel
theorem dX8_isLine_2 : decode cX8_isLine 2 = .ok (.aload_n 0, 1) := by decide +kernel
theorem dX8_isLine_3 : decode cX8_isLine 3 = .ok (.getfield 7, 3) := by decide +kernel
theorem dX8_isLine_6 : decode cX8_isLine 6 = .ok (.iconst 1, 1) := by decide +kernel
theorem dX8_isLine_7 : decode cX8_isLine 7 = .ok (.isub, 1) := by decide +kernel
theorem dX8_isLine_8 : decode cX8_isLine 8 = .ok (.invokestatic 83, 3) := by decide +kernel
theorem dX8_isLine_11 : decode cX8_isLine 11 = .ok (.ireturn, 1) := by decide +kernel
theorem dX8_isBreaker_0 : decode cX8_isBreaker 0 = .ok (.aload_n 0, 1) := by decide +kernel
theorem dX8_isBreaker_1 : decode cX8_isBreaker 1 = .ok (.iload_n 1, 1) := by decide +kernel
theorem dX8_isBreaker_2 : decode cX8_isBreaker 2 = .ok (.invokevirtual 87, 3) := by decide +kernel
theorem dX8_isBreaker_5 : decode cX8_isBreaker 5 = .ok (.ifCond .eq 16, 3) := by decide +kernel
theorem dX8_isBreaker_8 : decode cX8_isBreaker 8 = .ok (.aload_n 0, 1) := by decide +kernel
theorem dX8_isBreaker_9 : decode cX8_isBreaker 9 = .ok (.getfield 45, 3) := by decide +kernel
theorem dX8_isBreaker_12 : decode cX8_isBreaker 12 = .ok (.iload_n 1, 1) := by decide +kernel
theorem dX8_isBreaker_13 : decode cX8_isBreaker 13 = .ok (.baload, 1) := by decide +kernel
theorem dX8_isBreaker_14 : decode cX8_isBreaker 14 = .ok (.ifCond .eq 7, 3) := by decide +kernel
theorem dX8_isBreaker_17 : decode cX8_isBreaker 17 = .ok (.iconst 1, 1) := by decide +kernel
theorem dX8_isBreaker_18 : decode cX8_isBreaker 18 = .ok (.goto 4, 3) := by decide +kernel
theorem dX8_isBreaker_21 : decode cX8_isBreaker 21 = .ok (.iconst 0, 1) := by decide +kernel
theorem dX8_isBreaker_22 : decode cX8_isBreaker 22 = .ok (.ireturn, 1) := by decide +kernel
theorem dX8_isFault_0 : decode cX8_isFault 0 = .ok (.aload_n 0, 1) := by decide +kernel
theorem dX8_isFault_1 : decode cX8_isFault 1 = .ok (.iload_n 1, 1) := by decide +kernel
theorem dX8_isFault_2 : decode cX8_isFault 2 = .ok (.invokevirtual 87, 3) := by decide +kernel
theorem dX8_isFault_5 : decode cX8_isFault 5 = .ok (.ifCond .eq 28, 3) := by decide +kernel
theorem dX8_isFault_8 : decode cX8_isFault 8 = .ok (.iload_n 2, 1) := by decide +kernel
theorem dX8_isFault_9 : decode cX8_isFault 9 = .ok (.iconst 0, 1) := by decide +kernel
theorem dX8_isFault_10 : decode cX8_isFault 10 = .ok (.bipush 16, 2) := by decide +kernel
theorem dX8_isFault_12 : decode cX8_isFault 12 = .ok (.invokestatic 83, 3) := by decide +kernel
theorem dX8_isFault_15 : decode cX8_isFault 15 = .ok (.ifCond .eq 18, 3) := by decide +kernel
theorem dX8_isFault_18 : decode cX8_isFault 18 = .ok (.iload_n 3, 1) := by decide +kernel
theorem dX8_isFault_19 : decode cX8_isFault 19 = .ok (.iconst 0, 1) := by decide +kernel
theorem dX8_isFault_20 : decode cX8_isFault 20 = .ok (.sipush 1000, 3) := by decide +kernel
theorem dX8_isFault_23 : decode cX8_isFault 23 = .ok (.invokestatic 83, 3) := by decide +kernel
theorem dX8_isFault_26 : decode cX8_isFault 26 = .ok (.ifCond .eq 7, 3) := by decide +kernel
theorem dX8_isFault_29 : decode cX8_isFault 29 = .ok (.iconst 1, 1) := by decide +kernel
theorem dX8_isFault_30 : decode cX8_isFault 30 = .ok (.goto 4, 3) := by decide +kernel
theorem dX8_isFault_33 : decode cX8_isFault 33 = .ok (.iconst 0, 1) := by decide +kernel
theorem dX8_isFault_34 : decode cX8_isFault 34 = .ok (.ireturn, 1) := by decide +kernel
theorem dX8_source_0 : decode cX8_source 0 = .ok (.iload_n 1, 1) := by decide +kernel
theorem dX8_source_1 : decode cX8_source 1 = .ok (.iconst 1, 1) := by decide +kernel
theorem dX8_source_2 : decode cX8_source 2 = .ok (.sipush 10000, 3) := by decide +kernel
theorem dX8_source_5 : decode cX8_source 5 = .ok (.invokestatic 83, 3) := by decide +kernel
theorem dX8_source_8 : decode cX8_source 8 = .ok (.ifCond .eq 14, 3) := by decide +kernel
theorem dX8_source_11 : decode cX8_source 11 = .ok (.iload_n 2, 1) := by decide +kernel
theorem dX8_source_12 : decode cX8_source 12 = .ok (.iconst 1, 1) := by decide +kernel
theorem dX8_source_13 : decode cX8_source 13 = .ok (.sipush 1000, 3) := by decide +kernel
theorem dX8_source_16 : decode cX8_source 16 = .ok (.invokestatic 83, 3) := by decide +kernel
theorem dX8_source_19 : decode cX8_source 19 = .ok (.ifCond .ne 5, 3) := by decide +kernel
theorem dX8_source_22 : decode cX8_source 22 = .ok (.iconst 0, 1) := by decide +kernel
theorem dX8_source_23 : decode cX8_source 23 = .ok (.ireturn, 1) := by decide +kernel
theorem dX8_source_24 : decode cX8_source 24 = .ok (.aload_n 0, 1) := by decide +kernel
theorem dX8_source_25 : decode cX8_source 25 = .ok (.iload_n 1, 1) := by decide +kernel
theorem dX8_source_26 : decode cX8_source 26 = .ok (.putfield 13, 3) := by decide +kernel
theorem dX8_source_29 : decode cX8_source 29 = .ok (.aload_n 0, 1) := by decide +kernel
theorem dX8_source_30 : decode cX8_source 30 = .ok (.iload_n 2, 1) := by decide +kernel
theorem dX8_source_31 : decode cX8_source 31 = .ok (.putfield 16, 3) := by decide +kernel
theorem dX8_source_34 : decode cX8_source 34 = .ok (.aload_n 0, 1) := by decide +kernel
theorem dX8_source_35 : decode cX8_source 35 = .ok (.iconst 0, 1) := by decide +kernel
theorem dX8_source_36 : decode cX8_source 36 = .ok (.putfield 91, 3) := by decide +kernel
theorem dX8_source_39 : decode cX8_source 39 = .ok (.iconst 1, 1) := by decide +kernel
theorem dX8_source_40 : decode cX8_source 40 = .ok (.ireturn, 1) := by decide +kernel
theorem dX8_line_0 : decode cX8_line 0 = .ok (.iload_n 1, 1) := by decide +kernel
theorem dX8_line_1 : decode cX8_line 1 = .ok (.iconst 0, 1) := by decide +kernel
theorem dX8_line_2 : decode cX8_line 2 = .ok (.aload_n 0, 1) := by decide +kernel
theorem dX8_line_3 : decode cX8_line 3 = .ok (.getfield 7, 3) := by decide +kernel
theorem dX8_line_6 : decode cX8_line 6 = .ok (.iconst 1, 1) := by decide +kernel
theorem dX8_line_7 : decode cX8_line 7 = .ok (.isub, 1) := by decide +kernel
theorem dX8_line_8 : decode cX8_line 8 = .ok (.invokestatic 83, 3) := by decide +kernel
theorem dX8_line_11 : decode cX8_line 11 = .ok (.ifCond .eq 23, 3) := by decide +kernel
theorem dX8_line_14 : decode cX8_line 14 = .ok (.iload_n 2, 1) := by decide +kernel
theorem dX8_line_15 : decode cX8_line 15 = .ok (.iconst 1, 1) := by decide +kernel
theorem dX8_line_16 : decode cX8_line 16 = .ok (.sipush 1000, 3) := by decide +kernel
theorem dX8_line_19 : decode cX8_line 19 = .ok (.invokestatic 83, 3) := by decide +kernel
theorem dX8_line_22 : decode cX8_line 22 = .ok (.ifCond .eq 12, 3) := by decide +kernel
theorem dX8_line_25 : decode cX8_line 25 = .ok (.aload_n 0, 1) := by decide +kernel
theorem dX8_line_26 : decode cX8_line 26 = .ok (.getfield 7, 3) := by decide +kernel
theorem dX8_line_29 : decode cX8_line 29 = .ok (.bipush 30, 2) := by decide +kernel
theorem dX8_line_31 : decode cX8_line 31 = .ok (.if_icmp .ne 5, 3) := by decide +kernel
theorem dX8_line_34 : decode cX8_line 34 = .ok (.iconst (-1), 1) := by decide +kernel
theorem dX8_line_35 : decode cX8_line 35 = .ok (.ireturn, 1) := by decide +kernel
theorem dX8_line_36 : decode cX8_line 36 = .ok (.aload_n 0, 1) := by decide +kernel
theorem dX8_line_37 : decode cX8_line 37 = .ok (.getfield 26, 3) := by decide +kernel
theorem dX8_line_40 : decode cX8_line 40 = .ok (.aload_n 0, 1) := by decide +kernel
theorem dX8_line_41 : decode cX8_line 41 = .ok (.getfield 7, 3) := by decide +kernel
theorem dX8_line_44 : decode cX8_line 44 = .ok (.iload_n 1, 1) := by decide +kernel
theorem dX8_line_45 : decode cX8_line 45 = .ok (.iastore, 1) := by decide +kernel
theorem dX8_line_46 : decode cX8_line 46 = .ok (.aload_n 0, 1) := by decide +kernel
theorem dX8_line_47 : decode cX8_line 47 = .ok (.getfield 30, 3) := by decide +kernel
theorem dX8_line_50 : decode cX8_line 50 = .ok (.aload_n 0, 1) := by decide +kernel
theorem dX8_line_51 : decode cX8_line 51 = .ok (.getfield 7, 3) := by decide +kernel
theorem dX8_line_54 : decode cX8_line 54 = .ok (.iload_n 2, 1) := by decide +kernel
theorem dX8_line_55 : decode cX8_line 55 = .ok (.iastore, 1) := by decide +kernel
theorem dX8_line_56 : decode cX8_line 56 = .ok (.aload_n 0, 1) := by decide +kernel
theorem dX8_line_57 : decode cX8_line 57 = .ok (.dup, 1) := by decide +kernel
theorem dX8_line_58 : decode cX8_line 58 = .ok (.getfield 7, 3) := by decide +kernel
theorem dX8_line_61 : decode cX8_line 61 = .ok (.iconst 1, 1) := by decide +kernel
theorem dX8_line_62 : decode cX8_line 62 = .ok (.iadd, 1) := by decide +kernel
theorem dX8_line_63 : decode cX8_line 63 = .ok (.putfield 7, 3) := by decide +kernel
theorem dX8_line_66 : decode cX8_line 66 = .ok (.aload_n 0, 1) := by decide +kernel
theorem dX8_line_67 : decode cX8_line 67 = .ok (.iconst 0, 1) := by decide +kernel
theorem dX8_line_68 : decode cX8_line 68 = .ok (.putfield 91, 3) := by decide +kernel
theorem dX8_line_71 : decode cX8_line 71 = .ok (.aload_n 0, 1) := by decide +kernel
theorem dX8_line_72 : decode cX8_line 72 = .ok (.getfield 7, 3) := by decide +kernel
theorem dX8_line_75 : decode cX8_line 75 = .ok (.iconst 1, 1) := by decide +kernel
theorem dX8_line_76 : decode cX8_line 76 = .ok (.isub, 1) := by decide +kernel
theorem dX8_line_77 : decode cX8_line 77 = .ok (.ireturn, 1) := by decide +kernel
theorem dX8_load_0 : decode cX8_load 0 = .ok (.iload_n 1, 1) := by decide +kernel
theorem dX8_load_1 : decode cX8_load 1 = .ok (.iconst 0, 1) := by decide +kernel
theorem dX8_load_2 : decode cX8_load 2 = .ok (.aload_n 0, 1) := by decide +kernel
theorem dX8_load_3 : decode cX8_load 3 = .ok (.getfield 7, 3) := by decide +kernel
theorem dX8_load_6 : decode cX8_load 6 = .ok (.iconst 1, 1) := by decide +kernel
theorem dX8_load_7 : decode cX8_load 7 = .ok (.isub, 1) := by decide +kernel
theorem dX8_load_8 : decode cX8_load 8 = .ok (.invokestatic 83, 3) := by decide +kernel
theorem dX8_load_11 : decode cX8_load 11 = .ok (.ifCond .eq 14, 3) := by decide +kernel
theorem dX8_load_14 : decode cX8_load 14 = .ok (.iload_n 2, 1) := by decide +kernel
theorem dX8_load_15 : decode cX8_load 15 = .ok (.iconst 0, 1) := by decide +kernel
theorem dX8_load_16 : decode cX8_load 16 = .ok (.sipush 1000, 3) := by decide +kernel
theorem dX8_load_19 : decode cX8_load 19 = .ok (.invokestatic 83, 3) := by decide +kernel
theorem dX8_load_22 : decode cX8_load 22 = .ok (.ifCond .ne 5, 3) := by decide +kernel
theorem dX8_load_25 : decode cX8_load 25 = .ok (.iconst 0, 1) := by decide +kernel
theorem dX8_load_26 : decode cX8_load 26 = .ok (.ireturn, 1) := by decide +kernel
theorem dX8_load_27 : decode cX8_load 27 = .ok (.aload_n 0, 1) := by decide +kernel
theorem dX8_load_28 : decode cX8_load 28 = .ok (.getfield 33, 3) := by decide +kernel
theorem dX8_load_31 : decode cX8_load 31 = .ok (.iload_n 1, 1) := by decide +kernel
theorem dX8_load_32 : decode cX8_load 32 = .ok (.iload_n 2, 1) := by decide +kernel
theorem dX8_load_33 : decode cX8_load 33 = .ok (.iastore, 1) := by decide +kernel
theorem dX8_load_34 : decode cX8_load 34 = .ok (.aload_n 0, 1) := by decide +kernel
theorem dX8_load_35 : decode cX8_load 35 = .ok (.iconst 0, 1) := by decide +kernel
theorem dX8_load_36 : decode cX8_load 36 = .ok (.putfield 91, 3) := by decide +kernel
theorem dX8_load_39 : decode cX8_load 39 = .ok (.iconst 1, 1) := by decide +kernel
theorem dX8_load_40 : decode cX8_load 40 = .ok (.ireturn, 1) := by decide +kernel
theorem dX8_corner_0 : decode cX8_corner 0 = .ok (.iload_n 1, 1) := by decide +kernel
theorem dX8_corner_1 : decode cX8_corner 1 = .ok (.iconst 0, 1) := by decide +kernel
theorem dX8_corner_2 : decode cX8_corner 2 = .ok (.bipush 7, 2) := by decide +kernel
theorem dX8_corner_4 : decode cX8_corner 4 = .ok (.invokestatic 83, 3) := by decide +kernel
theorem dX8_corner_7 : decode cX8_corner 7 = .ok (.ifCond .eq 37, 3) := by decide +kernel
theorem dX8_corner_10 : decode cX8_corner 10 = .ok (.iload_n 2, 1) := by decide +kernel
theorem dX8_corner_11 : decode cX8_corner 11 = .ok (.bipush 10, 2) := by decide +kernel
theorem dX8_corner_13 : decode cX8_corner 13 = .ok (.sipush 1000, 3) := by decide +kernel
theorem dX8_corner_16 : decode cX8_corner 16 = .ok (.invokestatic 83, 3) := by decide +kernel
theorem dX8_corner_19 : decode cX8_corner 19 = .ok (.ifCond .eq 25, 3) := by decide +kernel
theorem dX8_corner_22 : decode cX8_corner 22 = .ok (.iload_n 3, 1) := by decide +kernel
theorem dX8_corner_23 : decode cX8_corner 23 = .ok (.iconst 1, 1) := by decide +kernel
theorem dX8_corner_24 : decode cX8_corner 24 = .ok (.sipush 1000, 3) := by decide +kernel
theorem dX8_corner_27 : decode cX8_corner 27 = .ok (.invokestatic 83, 3) := by decide +kernel
theorem dX8_corner_30 : decode cX8_corner 30 = .ok (.ifCond .eq 14, 3) := by decide +kernel
theorem dX8_corner_33 : decode cX8_corner 33 = .ok (.aload_n 0, 1) := by decide +kernel
theorem dX8_corner_34 : decode cX8_corner 34 = .ok (.getfield 36, 3) := by decide +kernel
theorem dX8_corner_37 : decode cX8_corner 37 = .ok (.iload_n 1, 1) := by decide +kernel
theorem dX8_corner_38 : decode cX8_corner 38 = .ok (.iaload, 1) := by decide +kernel
theorem dX8_corner_39 : decode cX8_corner 39 = .ok (.bipush 8, 2) := by decide +kernel
theorem dX8_corner_41 : decode cX8_corner 41 = .ok (.if_icmp .ne 5, 3) := by decide +kernel
theorem dX8_corner_44 : decode cX8_corner 44 = .ok (.iconst (-1), 1) := by decide +kernel
theorem dX8_corner_45 : decode cX8_corner 45 = .ok (.ireturn, 1) := by decide +kernel
theorem dX8_corner_46 : decode cX8_corner 46 = .ok (.bipush 8, 2) := by decide +kernel
theorem dX8_corner_48 : decode cX8_corner 48 = .ok (.iload_n 1, 1) := by decide +kernel
theorem dX8_corner_49 : decode cX8_corner 49 = .ok (.imul, 1) := by decide +kernel
theorem dX8_corner_50 : decode cX8_corner 50 = .ok (.aload_n 0, 1) := by decide +kernel
theorem dX8_corner_51 : decode cX8_corner 51 = .ok (.getfield 36, 3) := by decide +kernel
theorem dX8_corner_54 : decode cX8_corner 54 = .ok (.iload_n 1, 1) := by decide +kernel
theorem dX8_corner_55 : decode cX8_corner 55 = .ok (.iaload, 1) := by decide +kernel
theorem dX8_corner_56 : decode cX8_corner 56 = .ok (.iadd, 1) := by decide +kernel
theorem dX8_corner_57 : decode cX8_corner 57 = .ok (.istore 4, 2) := by decide +kernel
theorem dX8_corner_59 : decode cX8_corner 59 = .ok (.aload_n 0, 1) := by decide +kernel
theorem dX8_corner_60 : decode cX8_corner 60 = .ok (.getfield 36, 3) := by decide +kernel
theorem dX8_corner_63 : decode cX8_corner 63 = .ok (.iload_n 1, 1) := by decide +kernel
theorem dX8_corner_64 : decode cX8_corner 64 = .ok (.iaload, 1) := by decide +kernel
theorem dX8_corner_65 : decode cX8_corner 65 = .ok (.ifCond .le 31, 3) := by decide +kernel
theorem dX8_corner_68 : decode cX8_corner 68 = .ok (.aload_n 0, 1) := by decide +kernel
theorem dX8_corner_69 : decode cX8_corner 69 = .ok (.getfield 39, 3) := by decide +kernel
theorem dX8_corner_72 : decode cX8_corner 72 = .ok (.iload 4, 2) := by decide +kernel
theorem dX8_corner_74 : decode cX8_corner 74 = .ok (.iconst 1, 1) := by decide +kernel
theorem dX8_corner_75 : decode cX8_corner 75 = .ok (.isub, 1) := by decide +kernel
theorem dX8_corner_76 : decode cX8_corner 76 = .ok (.iaload, 1) := by decide +kernel
theorem dX8_corner_77 : decode cX8_corner 77 = .ok (.iload_n 2, 1) := by decide +kernel
theorem dX8_corner_78 : decode cX8_corner 78 = .ok (.if_icmp .ge 16, 3) := by decide +kernel
theorem dX8_corner_81 : decode cX8_corner 81 = .ok (.aload_n 0, 1) := by decide +kernel
theorem dX8_corner_82 : decode cX8_corner 82 = .ok (.getfield 42, 3) := by decide +kernel
theorem dX8_corner_85 : decode cX8_corner 85 = .ok (.iload 4, 2) := by decide +kernel
theorem dX8_corner_87 : decode cX8_corner 87 = .ok (.iconst 1, 1) := by decide +kernel
theorem dX8_corner_88 : decode cX8_corner 88 = .ok (.isub, 1) := by decide +kernel
theorem dX8_corner_89 : decode cX8_corner 89 = .ok (.iaload, 1) := by decide +kernel
theorem dX8_corner_90 : decode cX8_corner 90 = .ok (.iload_n 3, 1) := by decide +kernel
theorem dX8_corner_91 : decode cX8_corner 91 = .ok (.if_icmp .gt 5, 3) := by decide +kernel
theorem dX8_corner_94 : decode cX8_corner 94 = .ok (.iconst (-1), 1) := by decide +kernel
theorem dX8_corner_95 : decode cX8_corner 95 = .ok (.ireturn, 1) := by decide +kernel
theorem dX8_corner_96 : decode cX8_corner 96 = .ok (.aload_n 0, 1) := by decide +kernel
theorem dX8_corner_97 : decode cX8_corner 97 = .ok (.getfield 39, 3) := by decide +kernel
theorem dX8_corner_100 : decode cX8_corner 100 = .ok (.iload 4, 2) := by decide +kernel
theorem dX8_corner_102 : decode cX8_corner 102 = .ok (.iload_n 2, 1) := by decide +kernel
theorem dX8_corner_103 : decode cX8_corner 103 = .ok (.iastore, 1) := by decide +kernel
theorem dX8_corner_104 : decode cX8_corner 104 = .ok (.aload_n 0, 1) := by decide +kernel
theorem dX8_corner_105 : decode cX8_corner 105 = .ok (.getfield 42, 3) := by decide +kernel
theorem dX8_corner_108 : decode cX8_corner 108 = .ok (.iload 4, 2) := by decide +kernel
theorem dX8_corner_110 : decode cX8_corner 110 = .ok (.iload_n 3, 1) := by decide +kernel
theorem dX8_corner_111 : decode cX8_corner 111 = .ok (.iastore, 1) := by decide +kernel
theorem dX8_corner_112 : decode cX8_corner 112 = .ok (.aload_n 0, 1) := by decide +kernel
theorem dX8_corner_113 : decode cX8_corner 113 = .ok (.getfield 36, 3) := by decide +kernel
theorem dX8_corner_116 : decode cX8_corner 116 = .ok (.iload_n 1, 1) := by decide +kernel
theorem dX8_corner_117 : decode cX8_corner 117 = .ok (.dup2, 1) := by decide +kernel
theorem dX8_corner_118 : decode cX8_corner 118 = .ok (.iaload, 1) := by decide +kernel
theorem dX8_corner_119 : decode cX8_corner 119 = .ok (.iconst 1, 1) := by decide +kernel
theorem dX8_corner_120 : decode cX8_corner 120 = .ok (.iadd, 1) := by decide +kernel
theorem dX8_corner_121 : decode cX8_corner 121 = .ok (.iastore, 1) := by decide +kernel
theorem dX8_corner_122 : decode cX8_corner 122 = .ok (.aload_n 0, 1) := by decide +kernel
theorem dX8_corner_123 : decode cX8_corner 123 = .ok (.iconst 0, 1) := by decide +kernel
theorem dX8_corner_124 : decode cX8_corner 124 = .ok (.putfield 91, 3) := by decide +kernel
theorem dX8_corner_127 : decode cX8_corner 127 = .ok (.aload_n 0, 1) := by decide +kernel
theorem dX8_corner_128 : decode cX8_corner 128 = .ok (.getfield 36, 3) := by decide +kernel
theorem dX8_corner_131 : decode cX8_corner 131 = .ok (.iload_n 1, 1) := by decide +kernel
theorem dX8_corner_132 : decode cX8_corner 132 = .ok (.iaload, 1) := by decide +kernel
theorem dX8_corner_133 : decode cX8_corner 133 = .ok (.ireturn, 1) := by decide +kernel
theorem dX8_breaker_0 : decode cX8_breaker 0 = .ok (.aload_n 0, 1) := by decide +kernel
theorem dX8_breaker_1 : decode cX8_breaker 1 = .ok (.iload_n 1, 1) := by decide +kernel
theorem dX8_breaker_2 : decode cX8_breaker 2 = .ok (.invokevirtual 87, 3) := by decide +kernel
theorem dX8_breaker_5 : decode cX8_breaker 5 = .ok (.ifCond .eq 35, 3) := by decide +kernel
theorem dX8_breaker_8 : decode cX8_breaker 8 = .ok (.iload_n 2, 1) := by decide +kernel
theorem dX8_breaker_9 : decode cX8_breaker 9 = .ok (.iconst 0, 1) := by decide +kernel
theorem dX8_breaker_10 : decode cX8_breaker 10 = .ok (.bipush 7, 2) := by decide +kernel
theorem dX8_breaker_12 : decode cX8_breaker 12 = .ok (.invokestatic 83, 3) := by decide +kernel
theorem dX8_breaker_15 : decode cX8_breaker 15 = .ok (.ifCond .eq 25, 3) := by decide +kernel
theorem dX8_breaker_18 : decode cX8_breaker 18 = .ok (.iload_n 3, 1) := by decide +kernel
theorem dX8_breaker_19 : decode cX8_breaker 19 = .ok (.iconst 1, 1) := by decide +kernel
theorem dX8_breaker_20 : decode cX8_breaker 20 = .ok (.bipush 40, 2) := by decide +kernel
theorem dX8_breaker_22 : decode cX8_breaker 22 = .ok (.invokestatic 83, 3) := by decide +kernel
theorem dX8_breaker_25 : decode cX8_breaker 25 = .ok (.ifCond .eq 15, 3) := by decide +kernel
theorem dX8_breaker_28 : decode cX8_breaker 28 = .ok (.iload 4, 2) := by decide +kernel
theorem dX8_breaker_30 : decode cX8_breaker 30 = .ok (.iconst 1, 1) := by decide +kernel
theorem dX8_breaker_31 : decode cX8_breaker 31 = .ok (.sipush 10000, 3) := by decide +kernel
theorem dX8_breaker_34 : decode cX8_breaker 34 = .ok (.invokestatic 83, 3) := by decide +kernel
theorem dX8_breaker_37 : decode cX8_breaker 37 = .ok (.ifCond .ne 5, 3) := by decide +kernel
theorem dX8_breaker_40 : decode cX8_breaker 40 = .ok (.iconst 0, 1) := by decide +kernel
theorem dX8_breaker_41 : decode cX8_breaker 41 = .ok (.ireturn, 1) := by decide +kernel
theorem dX8_breaker_42 : decode cX8_breaker 42 = .ok (.aload_n 0, 1) := by decide +kernel
theorem dX8_breaker_43 : decode cX8_breaker 43 = .ok (.getfield 45, 3) := by decide +kernel
theorem dX8_breaker_46 : decode cX8_breaker 46 = .ok (.iload_n 1, 1) := by decide +kernel
theorem dX8_breaker_47 : decode cX8_breaker 47 = .ok (.iconst 1, 1) := by decide +kernel
theorem dX8_breaker_48 : decode cX8_breaker 48 = .ok (.bastore, 1) := by decide +kernel
theorem dX8_breaker_49 : decode cX8_breaker 49 = .ok (.aload_n 0, 1) := by decide +kernel
theorem dX8_breaker_50 : decode cX8_breaker 50 = .ok (.getfield 49, 3) := by decide +kernel
theorem dX8_breaker_53 : decode cX8_breaker 53 = .ok (.iload_n 1, 1) := by decide +kernel
theorem dX8_breaker_54 : decode cX8_breaker 54 = .ok (.iload_n 2, 1) := by decide +kernel
theorem dX8_breaker_55 : decode cX8_breaker 55 = .ok (.iastore, 1) := by decide +kernel
theorem dX8_breaker_56 : decode cX8_breaker 56 = .ok (.aload_n 0, 1) := by decide +kernel
theorem dX8_breaker_57 : decode cX8_breaker 57 = .ok (.getfield 52, 3) := by decide +kernel
theorem dX8_breaker_60 : decode cX8_breaker 60 = .ok (.iload_n 1, 1) := by decide +kernel
theorem dX8_breaker_61 : decode cX8_breaker 61 = .ok (.iload_n 3, 1) := by decide +kernel
theorem dX8_breaker_62 : decode cX8_breaker 62 = .ok (.iastore, 1) := by decide +kernel
theorem dX8_breaker_63 : decode cX8_breaker 63 = .ok (.aload_n 0, 1) := by decide +kernel
theorem dX8_breaker_64 : decode cX8_breaker 64 = .ok (.getfield 55, 3) := by decide +kernel
theorem dX8_breaker_67 : decode cX8_breaker 67 = .ok (.iload_n 1, 1) := by decide +kernel
theorem dX8_breaker_68 : decode cX8_breaker 68 = .ok (.iload 4, 2) := by decide +kernel
theorem dX8_breaker_70 : decode cX8_breaker 70 = .ok (.iastore, 1) := by decide +kernel
theorem dX8_breaker_71 : decode cX8_breaker 71 = .ok (.aload_n 0, 1) := by decide +kernel
theorem dX8_breaker_72 : decode cX8_breaker 72 = .ok (.getfield 58, 3) := by decide +kernel
theorem dX8_breaker_75 : decode cX8_breaker 75 = .ok (.iload_n 1, 1) := by decide +kernel
theorem dX8_breaker_76 : decode cX8_breaker 76 = .ok (.iconst 0, 1) := by decide +kernel
theorem dX8_breaker_77 : decode cX8_breaker 77 = .ok (.bastore, 1) := by decide +kernel
theorem dX8_breaker_78 : decode cX8_breaker 78 = .ok (.aload_n 0, 1) := by decide +kernel
theorem dX8_breaker_79 : decode cX8_breaker 79 = .ok (.getfield 61, 3) := by decide +kernel
theorem dX8_breaker_82 : decode cX8_breaker 82 = .ok (.iload_n 1, 1) := by decide +kernel
theorem dX8_breaker_83 : decode cX8_breaker 83 = .ok (.iconst (-1), 1) := by decide +kernel
theorem dX8_breaker_84 : decode cX8_breaker 84 = .ok (.iastore, 1) := by decide +kernel
theorem dX8_breaker_85 : decode cX8_breaker 85 = .ok (.aload_n 0, 1) := by decide +kernel
theorem dX8_breaker_86 : decode cX8_breaker 86 = .ok (.iconst 0, 1) := by decide +kernel
theorem dX8_breaker_87 : decode cX8_breaker 87 = .ok (.putfield 91, 3) := by decide +kernel
theorem dX8_breaker_90 : decode cX8_breaker 90 = .ok (.iconst 1, 1) := by decide +kernel
theorem dX8_breaker_91 : decode cX8_breaker 91 = .ok (.ireturn, 1) := by decide +kernel
theorem dX8_remove_0 : decode cX8_remove 0 = .ok (.aload_n 0, 1) := by decide +kernel
theorem dX8_remove_1 : decode cX8_remove 1 = .ok (.iload_n 1, 1) := by decide +kernel
theorem dX8_remove_2 : decode cX8_remove 2 = .ok (.invokevirtual 95, 3) := by decide +kernel
theorem dX8_remove_5 : decode cX8_remove 5 = .ok (.ifCond .ne 5, 3) := by decide +kernel
theorem dX8_remove_8 : decode cX8_remove 8 = .ok (.iconst 0, 1) := by decide +kernel
theorem dX8_remove_9 : decode cX8_remove 9 = .ok (.ireturn, 1) := by decide +kernel
theorem dX8_remove_10 : decode cX8_remove 10 = .ok (.aload_n 0, 1) := by decide +kernel
theorem dX8_remove_11 : decode cX8_remove 11 = .ok (.getfield 45, 3) := by decide +kernel
theorem dX8_remove_14 : decode cX8_remove 14 = .ok (.iload_n 1, 1) := by decide +kernel
theorem dX8_remove_15 : decode cX8_remove 15 = .ok (.iconst 0, 1) := by decide +kernel
theorem dX8_remove_16 : decode cX8_remove 16 = .ok (.bastore, 1) := by decide +kernel
theorem dX8_remove_17 : decode cX8_remove 17 = .ok (.aload_n 0, 1) := by decide +kernel
theorem dX8_remove_18 : decode cX8_remove 18 = .ok (.getfield 61, 3) := by decide +kernel
theorem dX8_remove_21 : decode cX8_remove 21 = .ok (.iload_n 1, 1) := by decide +kernel
theorem dX8_remove_22 : decode cX8_remove 22 = .ok (.iconst (-1), 1) := by decide +kernel
theorem dX8_remove_23 : decode cX8_remove 23 = .ok (.iastore, 1) := by decide +kernel
theorem dX8_remove_24 : decode cX8_remove 24 = .ok (.aload_n 0, 1) := by decide +kernel
theorem dX8_remove_25 : decode cX8_remove 25 = .ok (.iconst 0, 1) := by decide +kernel
theorem dX8_remove_26 : decode cX8_remove 26 = .ok (.putfield 91, 3) := by decide +kernel
theorem dX8_remove_29 : decode cX8_remove 29 = .ok (.iconst 1, 1) := by decide +kernel
theorem dX8_remove_30 : decode cX8_remove 30 = .ok (.ireturn, 1) := by decide +kernel
theorem dX8_dial_0 : decode cX8_dial 0 = .ok (.aload_n 0, 1) := by decide +kernel
theorem dX8_dial_1 : decode cX8_dial 1 = .ok (.iload_n 1, 1) := by decide +kernel
theorem dX8_dial_2 : decode cX8_dial 2 = .ok (.invokevirtual 95, 3) := by decide +kernel
theorem dX8_dial_5 : decode cX8_dial 5 = .ok (.ifCond .eq 13, 3) := by decide +kernel
theorem dX8_dial_8 : decode cX8_dial 8 = .ok (.iload_n 2, 1) := by decide +kernel
theorem dX8_dial_9 : decode cX8_dial 9 = .ok (.iconst 1, 1) := by decide +kernel
theorem dX8_dial_10 : decode cX8_dial 10 = .ok (.bipush 40, 2) := by decide +kernel
theorem dX8_dial_12 : decode cX8_dial 12 = .ok (.invokestatic 83, 3) := by decide +kernel
theorem dX8_dial_15 : decode cX8_dial 15 = .ok (.ifCond .ne 5, 3) := by decide +kernel
theorem dX8_dial_18 : decode cX8_dial 18 = .ok (.iconst 0, 1) := by decide +kernel
theorem dX8_dial_19 : decode cX8_dial 19 = .ok (.ireturn, 1) := by decide +kernel
theorem dX8_dial_20 : decode cX8_dial 20 = .ok (.aload_n 0, 1) := by decide +kernel
theorem dX8_dial_21 : decode cX8_dial 21 = .ok (.getfield 52, 3) := by decide +kernel
theorem dX8_dial_24 : decode cX8_dial 24 = .ok (.iload_n 1, 1) := by decide +kernel
theorem dX8_dial_25 : decode cX8_dial 25 = .ok (.iload_n 2, 1) := by decide +kernel
theorem dX8_dial_26 : decode cX8_dial 26 = .ok (.iastore, 1) := by decide +kernel
theorem dX8_dial_27 : decode cX8_dial 27 = .ok (.aload_n 0, 1) := by decide +kernel
theorem dX8_dial_28 : decode cX8_dial 28 = .ok (.iconst 0, 1) := by decide +kernel
theorem dX8_dial_29 : decode cX8_dial 29 = .ok (.putfield 91, 3) := by decide +kernel
theorem dX8_dial_32 : decode cX8_dial 32 = .ok (.iconst 1, 1) := by decide +kernel
theorem dX8_dial_33 : decode cX8_dial 33 = .ok (.ireturn, 1) := by decide +kernel
theorem dX8_fails_0 : decode cX8_fails 0 = .ok (.aload_n 0, 1) := by decide +kernel
theorem dX8_fails_1 : decode cX8_fails 1 = .ok (.iload_n 1, 1) := by decide +kernel
theorem dX8_fails_2 : decode cX8_fails 2 = .ok (.invokevirtual 95, 3) := by decide +kernel
theorem dX8_fails_5 : decode cX8_fails 5 = .ok (.ifCond .ne 5, 3) := by decide +kernel
theorem dX8_fails_8 : decode cX8_fails 8 = .ok (.iconst 0, 1) := by decide +kernel
theorem dX8_fails_9 : decode cX8_fails 9 = .ok (.ireturn, 1) := by decide +kernel
theorem dX8_fails_10 : decode cX8_fails 10 = .ok (.aload_n 0, 1) := by decide +kernel
theorem dX8_fails_11 : decode cX8_fails 11 = .ok (.getfield 58, 3) := by decide +kernel
theorem dX8_fails_14 : decode cX8_fails 14 = .ok (.iload_n 1, 1) := by decide +kernel
theorem dX8_fails_15 : decode cX8_fails 15 = .ok (.iload_n 2, 1) := by decide +kernel
theorem dX8_fails_16 : decode cX8_fails 16 = .ok (.bastore, 1) := by decide +kernel
theorem dX8_fails_17 : decode cX8_fails 17 = .ok (.aload_n 0, 1) := by decide +kernel
theorem dX8_fails_18 : decode cX8_fails 18 = .ok (.iconst 0, 1) := by decide +kernel
theorem dX8_fails_19 : decode cX8_fails 19 = .ok (.putfield 91, 3) := by decide +kernel
theorem dX8_fails_22 : decode cX8_fails 22 = .ok (.iconst 1, 1) := by decide +kernel
theorem dX8_fails_23 : decode cX8_fails 23 = .ok (.ireturn, 1) := by decide +kernel
theorem dX8_told_0 : decode cX8_told 0 = .ok (.iload_n 1, 1) := by decide +kernel
theorem dX8_told_1 : decode cX8_told 1 = .ok (.iconst 1, 1) := by decide +kernel
theorem dX8_told_2 : decode cX8_told 2 = .ok (.sipush 10000, 3) := by decide +kernel
theorem dX8_told_5 : decode cX8_told 5 = .ok (.invokestatic 83, 3) := by decide +kernel
theorem dX8_told_8 : decode cX8_told 8 = .ok (.ifCond .eq 24, 3) := by decide +kernel
theorem dX8_told_11 : decode cX8_told 11 = .ok (.iload_n 2, 1) := by decide +kernel
theorem dX8_told_12 : decode cX8_told 12 = .ok (.iconst 1, 1) := by decide +kernel
theorem dX8_told_13 : decode cX8_told 13 = .ok (.ldc 22, 2) := by decide +kernel
theorem dX8_told_15 : decode cX8_told 15 = .ok (.invokestatic 83, 3) := by decide +kernel
theorem dX8_told_18 : decode cX8_told 18 = .ok (.ifCond .eq 14, 3) := by decide +kernel
theorem dX8_told_21 : decode cX8_told 21 = .ok (.iload_n 3, 1) := by decide +kernel
theorem dX8_told_22 : decode cX8_told 22 = .ok (.iconst 0, 1) := by decide +kernel
theorem dX8_told_23 : decode cX8_told 23 = .ok (.sipush 1000, 3) := by decide +kernel
theorem dX8_told_26 : decode cX8_told 26 = .ok (.invokestatic 83, 3) := by decide +kernel
theorem dX8_told_29 : decode cX8_told 29 = .ok (.ifCond .ne 5, 3) := by decide +kernel
theorem dX8_told_32 : decode cX8_told 32 = .ok (.iconst 0, 1) := by decide +kernel
theorem dX8_told_33 : decode cX8_told 33 = .ok (.ireturn, 1) := by decide +kernel
theorem dX8_told_34 : decode cX8_told 34 = .ok (.aload_n 0, 1) := by decide +kernel
theorem dX8_told_35 : decode cX8_told 35 = .ok (.iload_n 1, 1) := by decide +kernel
theorem dX8_told_36 : decode cX8_told 36 = .ok (.putfield 19, 3) := by decide +kernel
theorem dX8_told_39 : decode cX8_told 39 = .ok (.aload_n 0, 1) := by decide +kernel
theorem dX8_told_40 : decode cX8_told 40 = .ok (.iload_n 2, 1) := by decide +kernel
theorem dX8_told_41 : decode cX8_told 41 = .ok (.putfield 23, 3) := by decide +kernel
theorem dX8_told_44 : decode cX8_told 44 = .ok (.aload_n 0, 1) := by decide +kernel
theorem dX8_told_45 : decode cX8_told 45 = .ok (.iload_n 3, 1) := by decide +kernel
theorem dX8_told_46 : decode cX8_told 46 = .ok (.putfield 98, 3) := by decide +kernel
theorem dX8_told_49 : decode cX8_told 49 = .ok (.aload_n 0, 1) := by decide +kernel
theorem dX8_told_50 : decode cX8_told 50 = .ok (.iconst 0, 1) := by decide +kernel
theorem dX8_told_51 : decode cX8_told 51 = .ok (.putfield 91, 3) := by decide +kernel
theorem dX8_told_54 : decode cX8_told 54 = .ok (.iconst 1, 1) := by decide +kernel
theorem dX8_told_55 : decode cX8_told 55 = .ok (.ireturn, 1) := by decide +kernel
theorem dX8_isOnWay_0 : decode cX8_isOnWay 0 = .ok (.iload_n 2, 1) := by decide +kernel
theorem dX8_isOnWay_1 : decode cX8_isOnWay 1 = .ok (.istore_n 3, 1) := by decide +kernel
theorem dX8_isOnWay_2 : decode cX8_isOnWay 2 = .ok (.iload_n 3, 1) := by decide +kernel
theorem dX8_isOnWay_3 : decode cX8_isOnWay 3 = .ok (.ifCond .le 18, 3) := by decide +kernel
theorem dX8_isOnWay_6 : decode cX8_isOnWay 6 = .ok (.iload_n 3, 1) := by decide +kernel
theorem dX8_isOnWay_7 : decode cX8_isOnWay 7 = .ok (.iload_n 1, 1) := by decide +kernel
theorem dX8_isOnWay_8 : decode cX8_isOnWay 8 = .ok (.if_icmp .eq 13, 3) := by decide +kernel
theorem dX8_isOnWay_11 : decode cX8_isOnWay 11 = .ok (.aload_n 0, 1) := by decide +kernel
theorem dX8_isOnWay_12 : decode cX8_isOnWay 12 = .ok (.getfield 26, 3) := by decide +kernel
theorem dX8_isOnWay_15 : decode cX8_isOnWay 15 = .ok (.iload_n 3, 1) := by decide +kernel
theorem dX8_isOnWay_16 : decode cX8_isOnWay 16 = .ok (.iaload, 1) := by decide +kernel
theorem dX8_isOnWay_17 : decode cX8_isOnWay 17 = .ok (.istore_n 3, 1) := by decide +kernel
theorem dX8_isOnWay_18 : decode cX8_isOnWay 18 = .ok (.goto (-16), 3) := by decide +kernel
theorem dX8_isOnWay_21 : decode cX8_isOnWay 21 = .ok (.iload_n 3, 1) := by decide +kernel
theorem dX8_isOnWay_22 : decode cX8_isOnWay 22 = .ok (.iload_n 1, 1) := by decide +kernel
theorem dX8_isOnWay_23 : decode cX8_isOnWay 23 = .ok (.if_icmp .ne 7, 3) := by decide +kernel
theorem dX8_isOnWay_26 : decode cX8_isOnWay 26 = .ok (.iconst 1, 1) := by decide +kernel
theorem dX8_isOnWay_27 : decode cX8_isOnWay 27 = .ok (.goto 4, 3) := by decide +kernel
theorem dX8_isOnWay_30 : decode cX8_isOnWay 30 = .ok (.iconst 0, 1) := by decide +kernel
theorem dX8_isOnWay_31 : decode cX8_isOnWay 31 = .ok (.ireturn, 1) := by decide +kernel
theorem dX8_sum_0 : decode cX8_sum 0 = .ok (.aload_n 0, 1) := by decide +kernel
theorem dX8_sum_1 : decode cX8_sum 1 = .ok (.getfield 16, 3) := by decide +kernel
theorem dX8_sum_4 : decode cX8_sum 4 = .ok (.iload_n 3, 1) := by decide +kernel
theorem dX8_sum_5 : decode cX8_sum 5 = .ok (.iadd, 1) := by decide +kernel
theorem dX8_sum_6 : decode cX8_sum 6 = .ok (.i2l, 1) := by decide +kernel
theorem dX8_sum_7 : decode cX8_sum 7 = .ok (.lstore 4, 2) := by decide +kernel
theorem dX8_sum_9 : decode cX8_sum 9 = .ok (.aload_n 0, 1) := by decide +kernel
theorem dX8_sum_10 : decode cX8_sum 10 = .ok (.getfield 26, 3) := by decide +kernel
theorem dX8_sum_13 : decode cX8_sum 13 = .ok (.iload_n 1, 1) := by decide +kernel
theorem dX8_sum_14 : decode cX8_sum 14 = .ok (.iaload, 1) := by decide +kernel
theorem dX8_sum_15 : decode cX8_sum 15 = .ok (.istore 6, 2) := by decide +kernel
theorem dX8_sum_17 : decode cX8_sum 17 = .ok (.iload 6, 2) := by decide +kernel
theorem dX8_sum_19 : decode cX8_sum 19 = .ok (.ifCond .le 28, 3) := by decide +kernel
theorem dX8_sum_22 : decode cX8_sum 22 = .ok (.lload 4, 2) := by decide +kernel
theorem dX8_sum_24 : decode cX8_sum 24 = .ok (.aload_n 0, 1) := by decide +kernel
theorem dX8_sum_25 : decode cX8_sum 25 = .ok (.getfield 30, 3) := by decide +kernel
theorem dX8_sum_28 : decode cX8_sum 28 = .ok (.iload 6, 2) := by decide +kernel
theorem dX8_sum_30 : decode cX8_sum 30 = .ok (.iaload, 1) := by decide +kernel
theorem dX8_sum_31 : decode cX8_sum 31 = .ok (.i2l, 1) := by decide +kernel
theorem dX8_sum_32 : decode cX8_sum 32 = .ok (.ladd, 1) := by decide +kernel
theorem dX8_sum_33 : decode cX8_sum 33 = .ok (.lstore 4, 2) := by decide +kernel
theorem dX8_sum_35 : decode cX8_sum 35 = .ok (.aload_n 0, 1) := by decide +kernel
theorem dX8_sum_36 : decode cX8_sum 36 = .ok (.getfield 26, 3) := by decide +kernel
theorem dX8_sum_39 : decode cX8_sum 39 = .ok (.iload 6, 2) := by decide +kernel
theorem dX8_sum_41 : decode cX8_sum 41 = .ok (.iaload, 1) := by decide +kernel
theorem dX8_sum_42 : decode cX8_sum 42 = .ok (.istore 6, 2) := by decide +kernel
theorem dX8_sum_44 : decode cX8_sum 44 = .ok (.goto (-27), 3) := by decide +kernel
theorem dX8_sum_47 : decode cX8_sum 47 = .ok (.ldc2_w 101, 3) := by decide +kernel
theorem dX8_sum_50 : decode cX8_sum 50 = .ok (.lload 4, 2) := by decide +kernel
theorem dX8_sum_52 : decode cX8_sum 52 = .ok (.lmul, 1) := by decide +kernel
theorem dX8_sum_53 : decode cX8_sum 53 = .ok (.iload_n 2, 1) := by decide +kernel
theorem dX8_sum_54 : decode cX8_sum 54 = .ok (.i2l, 1) := by decide +kernel
theorem dX8_sum_55 : decode cX8_sum 55 = .ok (.aload_n 0, 1) := by decide +kernel
theorem dX8_sum_56 : decode cX8_sum 56 = .ok (.getfield 30, 3) := by decide +kernel
theorem dX8_sum_59 : decode cX8_sum 59 = .ok (.iload_n 1, 1) := by decide +kernel
theorem dX8_sum_60 : decode cX8_sum 60 = .ok (.iaload, 1) := by decide +kernel
theorem dX8_sum_61 : decode cX8_sum 61 = .ok (.i2l, 1) := by decide +kernel
theorem dX8_sum_62 : decode cX8_sum 62 = .ok (.lmul, 1) := by decide +kernel
theorem dX8_sum_63 : decode cX8_sum 63 = .ok (.ladd, 1) := by decide +kernel
theorem dX8_sum_64 : decode cX8_sum 64 = .ok (.lreturn, 1) := by decide +kernel
theorem dX8_waitBy_0 : decode cX8_waitBy 0 = .ok (.aload_n 0, 1) := by decide +kernel
theorem dX8_waitBy_1 : decode cX8_waitBy 1 = .ok (.getfield 49, 3) := by decide +kernel
theorem dX8_waitBy_4 : decode cX8_waitBy 4 = .ok (.iload_n 1, 1) := by decide +kernel
theorem dX8_waitBy_5 : decode cX8_waitBy 5 = .ok (.iaload, 1) := by decide +kernel
theorem dX8_waitBy_6 : decode cX8_waitBy 6 = .ok (.istore 6, 2) := by decide +kernel
theorem dX8_waitBy_8 : decode cX8_waitBy 8 = .ok (.iconst (-1), 1) := by decide +kernel
theorem dX8_waitBy_9 : decode cX8_waitBy 9 = .ok (.istore 7, 2) := by decide +kernel
theorem dX8_waitBy_11 : decode cX8_waitBy 11 = .ok (.iconst 0, 1) := by decide +kernel
theorem dX8_waitBy_12 : decode cX8_waitBy 12 = .ok (.istore 8, 2) := by decide +kernel
theorem dX8_waitBy_14 : decode cX8_waitBy 14 = .ok (.iload 8, 2) := by decide +kernel
theorem dX8_waitBy_16 : decode cX8_waitBy 16 = .ok (.aload_n 0, 1) := by decide +kernel
theorem dX8_waitBy_17 : decode cX8_waitBy 17 = .ok (.getfield 36, 3) := by decide +kernel
theorem dX8_waitBy_20 : decode cX8_waitBy 20 = .ok (.iload 6, 2) := by decide +kernel
theorem dX8_waitBy_22 : decode cX8_waitBy 22 = .ok (.iaload, 1) := by decide +kernel
theorem dX8_waitBy_23 : decode cX8_waitBy 23 = .ok (.if_icmp .ge 65, 3) := by decide +kernel
theorem dX8_waitBy_26 : decode cX8_waitBy 26 = .ok (.ldc2_w 103, 3) := by decide +kernel
theorem dX8_waitBy_29 : decode cX8_waitBy 29 = .ok (.lload_n 2, 1) := by decide +kernel
theorem dX8_waitBy_30 : decode cX8_waitBy 30 = .ok (.lmul, 1) := by decide +kernel
theorem dX8_waitBy_31 : decode cX8_waitBy 31 = .ok (.aload_n 0, 1) := by decide +kernel
theorem dX8_waitBy_32 : decode cX8_waitBy 32 = .ok (.getfield 55, 3) := by decide +kernel
theorem dX8_waitBy_35 : decode cX8_waitBy 35 = .ok (.iload_n 1, 1) := by decide +kernel
theorem dX8_waitBy_36 : decode cX8_waitBy 36 = .ok (.iaload, 1) := by decide +kernel
theorem dX8_waitBy_37 : decode cX8_waitBy 37 = .ok (.i2l, 1) := by decide +kernel
theorem dX8_waitBy_38 : decode cX8_waitBy 38 = .ok (.aload_n 0, 1) := by decide +kernel
theorem dX8_waitBy_39 : decode cX8_waitBy 39 = .ok (.getfield 39, 3) := by decide +kernel
theorem dX8_waitBy_42 : decode cX8_waitBy 42 = .ok (.bipush 8, 2) := by decide +kernel
theorem dX8_waitBy_44 : decode cX8_waitBy 44 = .ok (.iload 6, 2) := by decide +kernel
theorem dX8_waitBy_46 : decode cX8_waitBy 46 = .ok (.imul, 1) := by decide +kernel
theorem dX8_waitBy_47 : decode cX8_waitBy 47 = .ok (.iload 8, 2) := by decide +kernel
theorem dX8_waitBy_49 : decode cX8_waitBy 49 = .ok (.iadd, 1) := by decide +kernel
theorem dX8_waitBy_50 : decode cX8_waitBy 50 = .ok (.iaload, 1) := by decide +kernel
theorem dX8_waitBy_51 : decode cX8_waitBy 51 = .ok (.i2l, 1) := by decide +kernel
theorem dX8_waitBy_52 : decode cX8_waitBy 52 = .ok (.lmul, 1) := by decide +kernel
theorem dX8_waitBy_53 : decode cX8_waitBy 53 = .ok (.lload 4, 2) := by decide +kernel
theorem dX8_waitBy_55 : decode cX8_waitBy 55 = .ok (.lmul, 1) := by decide +kernel
theorem dX8_waitBy_56 : decode cX8_waitBy 56 = .ok (.lcmp, 1) := by decide +kernel
theorem dX8_waitBy_57 : decode cX8_waitBy 57 = .ok (.ifCond .lt 25, 3) := by decide +kernel
theorem dX8_waitBy_60 : decode cX8_waitBy 60 = .ok (.aload_n 0, 1) := by decide +kernel
theorem dX8_waitBy_61 : decode cX8_waitBy 61 = .ok (.getfield 52, 3) := by decide +kernel
theorem dX8_waitBy_64 : decode cX8_waitBy 64 = .ok (.iload_n 1, 1) := by decide +kernel
theorem dX8_waitBy_65 : decode cX8_waitBy 65 = .ok (.iaload, 1) := by decide +kernel
theorem dX8_waitBy_66 : decode cX8_waitBy 66 = .ok (.aload_n 0, 1) := by decide +kernel
theorem dX8_waitBy_67 : decode cX8_waitBy 67 = .ok (.getfield 42, 3) := by decide +kernel
theorem dX8_waitBy_70 : decode cX8_waitBy 70 = .ok (.bipush 8, 2) := by decide +kernel
theorem dX8_waitBy_72 : decode cX8_waitBy 72 = .ok (.iload 6, 2) := by decide +kernel
theorem dX8_waitBy_74 : decode cX8_waitBy 74 = .ok (.imul, 1) := by decide +kernel
theorem dX8_waitBy_75 : decode cX8_waitBy 75 = .ok (.iload 8, 2) := by decide +kernel
theorem dX8_waitBy_77 : decode cX8_waitBy 77 = .ok (.iadd, 1) := by decide +kernel
theorem dX8_waitBy_78 : decode cX8_waitBy 78 = .ok (.iaload, 1) := by decide +kernel
theorem dX8_waitBy_79 : decode cX8_waitBy 79 = .ok (.imul, 1) := by decide +kernel
theorem dX8_waitBy_80 : decode cX8_waitBy 80 = .ok (.istore 7, 2) := by decide +kernel
theorem dX8_waitBy_82 : decode cX8_waitBy 82 = .ok (.iinc 8 1, 3) := by decide +kernel
theorem dX8_waitBy_85 : decode cX8_waitBy 85 = .ok (.goto (-71), 3) := by decide +kernel
theorem dX8_waitBy_88 : decode cX8_waitBy 88 = .ok (.iload 7, 2) := by decide +kernel
theorem dX8_waitBy_90 : decode cX8_waitBy 90 = .ok (.ireturn, 1) := by decide +kernel
theorem dX8_waitAt_0 : decode cX8_waitAt 0 = .ok (.aload_n 0, 1) := by decide +kernel
theorem dX8_waitAt_1 : decode cX8_waitAt 1 = .ok (.getfield 45, 3) := by decide +kernel
theorem dX8_waitAt_4 : decode cX8_waitAt 4 = .ok (.iload_n 1, 1) := by decide +kernel
theorem dX8_waitAt_5 : decode cX8_waitAt 5 = .ok (.baload, 1) := by decide +kernel
theorem dX8_waitAt_6 : decode cX8_waitAt 6 = .ok (.ifCond .eq 37, 3) := by decide +kernel
theorem dX8_waitAt_9 : decode cX8_waitAt 9 = .ok (.aload_n 0, 1) := by decide +kernel
theorem dX8_waitAt_10 : decode cX8_waitAt 10 = .ok (.iload_n 1, 1) := by decide +kernel
theorem dX8_waitAt_11 : decode cX8_waitAt 11 = .ok (.iload_n 2, 1) := by decide +kernel
theorem dX8_waitAt_12 : decode cX8_waitAt 12 = .ok (.invokevirtual 105, 3) := by decide +kernel
theorem dX8_waitAt_15 : decode cX8_waitAt 15 = .ok (.ifCond .eq 28, 3) := by decide +kernel
theorem dX8_waitAt_18 : decode cX8_waitAt 18 = .ok (.aload_n 0, 1) := by decide +kernel
theorem dX8_waitAt_19 : decode cX8_waitAt 19 = .ok (.iload_n 1, 1) := by decide +kernel
theorem dX8_waitAt_20 : decode cX8_waitAt 20 = .ok (.ldc2_w 101, 3) := by decide +kernel
theorem dX8_waitAt_23 : decode cX8_waitAt 23 = .ok (.aload_n 0, 1) := by decide +kernel
theorem dX8_waitAt_24 : decode cX8_waitAt 24 = .ok (.getfield 13, 3) := by decide +kernel
theorem dX8_waitAt_27 : decode cX8_waitAt 27 = .ok (.i2l, 1) := by decide +kernel
theorem dX8_waitAt_28 : decode cX8_waitAt 28 = .ok (.lmul, 1) := by decide +kernel
theorem dX8_waitAt_29 : decode cX8_waitAt 29 = .ok (.aload_n 0, 1) := by decide +kernel
theorem dX8_waitAt_30 : decode cX8_waitAt 30 = .ok (.iload_n 2, 1) := by decide +kernel
theorem dX8_waitAt_31 : decode cX8_waitAt 31 = .ok (.iload_n 3, 1) := by decide +kernel
theorem dX8_waitAt_32 : decode cX8_waitAt 32 = .ok (.iload 4, 2) := by decide +kernel
theorem dX8_waitAt_34 : decode cX8_waitAt 34 = .ok (.invokevirtual 109, 3) := by decide +kernel
theorem dX8_waitAt_37 : decode cX8_waitAt 37 = .ok (.invokevirtual 113, 3) := by decide +kernel
theorem dX8_waitAt_40 : decode cX8_waitAt 40 = .ok (.goto 4, 3) := by decide +kernel
theorem dX8_waitAt_43 : decode cX8_waitAt 43 = .ok (.iconst (-1), 1) := by decide +kernel
theorem dX8_waitAt_44 : decode cX8_waitAt 44 = .ok (.ireturn, 1) := by decide +kernel
theorem dX8_fault_0 : decode cX8_fault 0 = .ok (.aload_n 0, 1) := by decide +kernel
theorem dX8_fault_1 : decode cX8_fault 1 = .ok (.iload_n 1, 1) := by decide +kernel
theorem dX8_fault_2 : decode cX8_fault 2 = .ok (.iload_n 2, 1) := by decide +kernel
theorem dX8_fault_3 : decode cX8_fault 3 = .ok (.iload_n 3, 1) := by decide +kernel
theorem dX8_fault_4 : decode cX8_fault 4 = .ok (.invokevirtual 117, 3) := by decide +kernel
theorem dX8_fault_7 : decode cX8_fault 7 = .ok (.ifCond .ne 7, 3) := by decide +kernel
theorem dX8_fault_10 : decode cX8_fault 10 = .ok (.ldc2_w 120, 3) := by decide +kernel
theorem dX8_fault_13 : decode cX8_fault 13 = .ok (.lreturn, 1) := by decide +kernel
theorem dX8_fault_14 : decode cX8_fault 14 = .ok (.iload 4, 2) := by decide +kernel
theorem dX8_fault_16 : decode cX8_fault 16 = .ok (.ifCond .ne 13, 3) := by decide +kernel
theorem dX8_fault_19 : decode cX8_fault 19 = .ok (.aload_n 0, 1) := by decide +kernel
theorem dX8_fault_20 : decode cX8_fault 20 = .ok (.iload_n 1, 1) := by decide +kernel
theorem dX8_fault_21 : decode cX8_fault 21 = .ok (.iload_n 2, 1) := by decide +kernel
theorem dX8_fault_22 : decode cX8_fault 22 = .ok (.iload_n 3, 1) := by decide +kernel
theorem dX8_fault_23 : decode cX8_fault 23 = .ok (.invokevirtual 109, 3) := by decide +kernel
theorem dX8_fault_26 : decode cX8_fault 26 = .ok (.goto 32, 3) := by decide +kernel
theorem dX8_fault_29 : decode cX8_fault 29 = .ok (.iload 4, 2) := by decide +kernel
theorem dX8_fault_31 : decode cX8_fault 31 = .ok (.iconst 1, 1) := by decide +kernel
theorem dX8_fault_32 : decode cX8_fault 32 = .ok (.if_icmp .ne 23, 3) := by decide +kernel
theorem dX8_fault_35 : decode cX8_fault 35 = .ok (.ldc2_w 122, 3) := by decide +kernel
theorem dX8_fault_38 : decode cX8_fault 38 = .ok (.aload_n 0, 1) := by decide +kernel
theorem dX8_fault_39 : decode cX8_fault 39 = .ok (.getfield 13, 3) := by decide +kernel
theorem dX8_fault_42 : decode cX8_fault 42 = .ok (.i2l, 1) := by decide +kernel
theorem dX8_fault_43 : decode cX8_fault 43 = .ok (.lmul, 1) := by decide +kernel
theorem dX8_fault_44 : decode cX8_fault 44 = .ok (.aload_n 0, 1) := by decide +kernel
theorem dX8_fault_45 : decode cX8_fault 45 = .ok (.iload_n 1, 1) := by decide +kernel
theorem dX8_fault_46 : decode cX8_fault 46 = .ok (.iload_n 2, 1) := by decide +kernel
theorem dX8_fault_47 : decode cX8_fault 47 = .ok (.iload_n 3, 1) := by decide +kernel
theorem dX8_fault_48 : decode cX8_fault 48 = .ok (.invokevirtual 109, 3) := by decide +kernel
theorem dX8_fault_51 : decode cX8_fault 51 = .ok (.ldiv, 1) := by decide +kernel
theorem dX8_fault_52 : decode cX8_fault 52 = .ok (.goto 6, 3) := by decide +kernel
theorem dX8_fault_55 : decode cX8_fault 55 = .ok (.ldc2_w 120, 3) := by decide +kernel
theorem dX8_fault_58 : decode cX8_fault 58 = .ok (.lreturn, 1) := by decide +kernel
theorem dX8_waits_0 : decode cX8_waits 0 = .ok (.aload_n 0, 1) := by decide +kernel
theorem dX8_waits_1 : decode cX8_waits 1 = .ok (.iload_n 2, 1) := by decide +kernel
theorem dX8_waits_2 : decode cX8_waits 2 = .ok (.iload_n 3, 1) := by decide +kernel
theorem dX8_waits_3 : decode cX8_waits 3 = .ok (.iload 4, 2) := by decide +kernel
theorem dX8_waits_5 : decode cX8_waits 5 = .ok (.invokevirtual 117, 3) := by decide +kernel
theorem dX8_waits_8 : decode cX8_waits 8 = .ok (.ifCond .eq 23, 3) := by decide +kernel
theorem dX8_waits_11 : decode cX8_waits 11 = .ok (.aload_n 0, 1) := by decide +kernel
theorem dX8_waits_12 : decode cX8_waits 12 = .ok (.iload_n 1, 1) := by decide +kernel
theorem dX8_waits_13 : decode cX8_waits 13 = .ok (.invokevirtual 87, 3) := by decide +kernel
theorem dX8_waits_16 : decode cX8_waits 16 = .ok (.ifCond .eq 15, 3) := by decide +kernel
theorem dX8_waits_19 : decode cX8_waits 19 = .ok (.aload_n 0, 1) := by decide +kernel
theorem dX8_waits_20 : decode cX8_waits 20 = .ok (.iload_n 1, 1) := by decide +kernel
theorem dX8_waits_21 : decode cX8_waits 21 = .ok (.iload_n 2, 1) := by decide +kernel
theorem dX8_waits_22 : decode cX8_waits 22 = .ok (.iload_n 3, 1) := by decide +kernel
theorem dX8_waits_23 : decode cX8_waits 23 = .ok (.iload 4, 2) := by decide +kernel
theorem dX8_waits_25 : decode cX8_waits 25 = .ok (.invokevirtual 124, 3) := by decide +kernel
theorem dX8_waits_28 : decode cX8_waits 28 = .ok (.goto 4, 3) := by decide +kernel
theorem dX8_waits_31 : decode cX8_waits 31 = .ok (.iconst (-1), 1) := by decide +kernel
theorem dX8_waits_32 : decode cX8_waits 32 = .ok (.ireturn, 1) := by decide +kernel
theorem dX8_cleared_0 : decode cX8_cleared 0 = .ok (.iconst (-1), 1) := by decide +kernel
theorem dX8_cleared_1 : decode cX8_cleared 1 = .ok (.istore 4, 2) := by decide +kernel
theorem dX8_cleared_3 : decode cX8_cleared 3 = .ok (.iconst 1, 1) := by decide +kernel
theorem dX8_cleared_4 : decode cX8_cleared 4 = .ok (.istore 5, 2) := by decide +kernel
theorem dX8_cleared_6 : decode cX8_cleared 6 = .ok (.iload 5, 2) := by decide +kernel
theorem dX8_cleared_8 : decode cX8_cleared 8 = .ok (.aload_n 0, 1) := by decide +kernel
theorem dX8_cleared_9 : decode cX8_cleared 9 = .ok (.getfield 7, 3) := by decide +kernel
theorem dX8_cleared_12 : decode cX8_cleared 12 = .ok (.if_icmp .ge 55, 3) := by decide +kernel
theorem dX8_cleared_15 : decode cX8_cleared 15 = .ok (.aload_n 0, 1) := by decide +kernel
theorem dX8_cleared_16 : decode cX8_cleared 16 = .ok (.getfield 58, 3) := by decide +kernel
theorem dX8_cleared_19 : decode cX8_cleared 19 = .ok (.iload 5, 2) := by decide +kernel
theorem dX8_cleared_21 : decode cX8_cleared 21 = .ok (.baload, 1) := by decide +kernel
theorem dX8_cleared_22 : decode cX8_cleared 22 = .ok (.ifCond .eq 7, 3) := by decide +kernel
theorem dX8_cleared_25 : decode cX8_cleared 25 = .ok (.iconst (-1), 1) := by decide +kernel
theorem dX8_cleared_26 : decode cX8_cleared 26 = .ok (.goto 12, 3) := by decide +kernel
theorem dX8_cleared_29 : decode cX8_cleared 29 = .ok (.aload_n 0, 1) := by decide +kernel
theorem dX8_cleared_30 : decode cX8_cleared 30 = .ok (.iload 5, 2) := by decide +kernel
theorem dX8_cleared_32 : decode cX8_cleared 32 = .ok (.iload_n 1, 1) := by decide +kernel
theorem dX8_cleared_33 : decode cX8_cleared 33 = .ok (.iload_n 2, 1) := by decide +kernel
theorem dX8_cleared_34 : decode cX8_cleared 34 = .ok (.iload_n 3, 1) := by decide +kernel
theorem dX8_cleared_35 : decode cX8_cleared 35 = .ok (.invokevirtual 124, 3) := by decide +kernel
theorem dX8_cleared_38 : decode cX8_cleared 38 = .ok (.istore 6, 2) := by decide +kernel
theorem dX8_cleared_40 : decode cX8_cleared 40 = .ok (.iload 6, 2) := by decide +kernel
theorem dX8_cleared_42 : decode cX8_cleared 42 = .ok (.ifCond .lt 19, 3) := by decide +kernel
theorem dX8_cleared_45 : decode cX8_cleared 45 = .ok (.iload 4, 2) := by decide +kernel
theorem dX8_cleared_47 : decode cX8_cleared 47 = .ok (.ifCond .lt 10, 3) := by decide +kernel
theorem dX8_cleared_50 : decode cX8_cleared 50 = .ok (.iload 6, 2) := by decide +kernel
theorem dX8_cleared_52 : decode cX8_cleared 52 = .ok (.iload 4, 2) := by decide +kernel
theorem dX8_cleared_54 : decode cX8_cleared 54 = .ok (.if_icmp .ge 7, 3) := by decide +kernel
theorem dX8_cleared_57 : decode cX8_cleared 57 = .ok (.iload 6, 2) := by decide +kernel
theorem dX8_cleared_59 : decode cX8_cleared 59 = .ok (.istore 4, 2) := by decide +kernel
theorem dX8_cleared_61 : decode cX8_cleared 61 = .ok (.iinc 5 1, 3) := by decide +kernel
theorem dX8_cleared_64 : decode cX8_cleared 64 = .ok (.goto (-58), 3) := by decide +kernel
theorem dX8_cleared_67 : decode cX8_cleared 67 = .ok (.iload 4, 2) := by decide +kernel
theorem dX8_cleared_69 : decode cX8_cleared 69 = .ok (.ireturn, 1) := by decide +kernel
theorem dX8_run_0 : decode cX8_run 0 = .ok (.aload_n 0, 1) := by decide +kernel
theorem dX8_run_1 : decode cX8_run 1 = .ok (.iload_n 1, 1) := by decide +kernel
theorem dX8_run_2 : decode cX8_run 2 = .ok (.iload_n 2, 1) := by decide +kernel
theorem dX8_run_3 : decode cX8_run 3 = .ok (.iload_n 3, 1) := by decide +kernel
theorem dX8_run_4 : decode cX8_run 4 = .ok (.invokevirtual 117, 3) := by decide +kernel
theorem dX8_run_7 : decode cX8_run 7 = .ok (.ifCond .ne 5, 3) := by decide +kernel
theorem dX8_run_10 : decode cX8_run 10 = .ok (.iconst (-1), 1) := by decide +kernel
theorem dX8_run_11 : decode cX8_run 11 = .ok (.ireturn, 1) := by decide +kernel
theorem dX8_run_12 : decode cX8_run 12 = .ok (.aload_n 0, 1) := by decide +kernel
theorem dX8_run_13 : decode cX8_run 13 = .ok (.iload_n 1, 1) := by decide +kernel
theorem dX8_run_14 : decode cX8_run 14 = .ok (.iload_n 2, 1) := by decide +kernel
theorem dX8_run_15 : decode cX8_run 15 = .ok (.iload_n 3, 1) := by decide +kernel
theorem dX8_run_16 : decode cX8_run 16 = .ok (.invokevirtual 128, 3) := by decide +kernel
theorem dX8_run_19 : decode cX8_run 19 = .ok (.istore 4, 2) := by decide +kernel
theorem dX8_run_21 : decode cX8_run 21 = .ok (.aload_n 0, 1) := by decide +kernel
theorem dX8_run_22 : decode cX8_run 22 = .ok (.iconst 1, 1) := by decide +kernel
theorem dX8_run_23 : decode cX8_run 23 = .ok (.putfield 91, 3) := by decide +kernel
theorem dX8_run_26 : decode cX8_run 26 = .ok (.iconst 0, 1) := by decide +kernel
theorem dX8_run_27 : decode cX8_run 27 = .ok (.istore 5, 2) := by decide +kernel
theorem dX8_run_29 : decode cX8_run 29 = .ok (.iload 5, 2) := by decide +kernel
theorem dX8_run_31 : decode cX8_run 31 = .ok (.aload_n 0, 1) := by decide +kernel
theorem dX8_run_32 : decode cX8_run 32 = .ok (.getfield 7, 3) := by decide +kernel
theorem dX8_run_35 : decode cX8_run 35 = .ok (.if_icmp .ge 97, 3) := by decide +kernel
theorem dX8_run_38 : decode cX8_run 38 = .ok (.aload_n 0, 1) := by decide +kernel
theorem dX8_run_39 : decode cX8_run 39 = .ok (.getfield 64, 3) := by decide +kernel
theorem dX8_run_42 : decode cX8_run 42 = .ok (.iload 5, 2) := by decide +kernel
theorem dX8_run_44 : decode cX8_run 44 = .ok (.iload 5, 2) := by decide +kernel
theorem dX8_run_46 : decode cX8_run 46 = .ok (.ifCond .le 36, 3) := by decide +kernel
theorem dX8_run_49 : decode cX8_run 49 = .ok (.iload 4, 2) := by decide +kernel
theorem dX8_run_51 : decode cX8_run 51 = .ok (.ifCond .lt 31, 3) := by decide +kernel
theorem dX8_run_54 : decode cX8_run 54 = .ok (.aload_n 0, 1) := by decide +kernel
theorem dX8_run_55 : decode cX8_run 55 = .ok (.getfield 58, 3) := by decide +kernel
theorem dX8_run_58 : decode cX8_run 58 = .ok (.iload 5, 2) := by decide +kernel
theorem dX8_run_60 : decode cX8_run 60 = .ok (.baload, 1) := by decide +kernel
theorem dX8_run_61 : decode cX8_run 61 = .ok (.ifCond .ne 21, 3) := by decide +kernel
theorem dX8_run_64 : decode cX8_run 64 = .ok (.aload_n 0, 1) := by decide +kernel
theorem dX8_run_65 : decode cX8_run 65 = .ok (.iload 5, 2) := by decide +kernel
theorem dX8_run_67 : decode cX8_run 67 = .ok (.iload_n 1, 1) := by decide +kernel
theorem dX8_run_68 : decode cX8_run 68 = .ok (.iload_n 2, 1) := by decide +kernel
theorem dX8_run_69 : decode cX8_run 69 = .ok (.iload_n 3, 1) := by decide +kernel
theorem dX8_run_70 : decode cX8_run 70 = .ok (.invokevirtual 124, 3) := by decide +kernel
theorem dX8_run_73 : decode cX8_run 73 = .ok (.iload 4, 2) := by decide +kernel
theorem dX8_run_75 : decode cX8_run 75 = .ok (.if_icmp .ne 7, 3) := by decide +kernel
theorem dX8_run_78 : decode cX8_run 78 = .ok (.iconst 1, 1) := by decide +kernel
theorem dX8_run_79 : decode cX8_run 79 = .ok (.goto 4, 3) := by decide +kernel
theorem dX8_run_82 : decode cX8_run 82 = .ok (.iconst 0, 1) := by decide +kernel
theorem dX8_run_83 : decode cX8_run 83 = .ok (.bastore, 1) := by decide +kernel
theorem dX8_run_84 : decode cX8_run 84 = .ok (.aload_n 0, 1) := by decide +kernel
theorem dX8_run_85 : decode cX8_run 85 = .ok (.getfield 67, 3) := by decide +kernel
theorem dX8_run_88 : decode cX8_run 88 = .ok (.iload 5, 2) := by decide +kernel
theorem dX8_run_90 : decode cX8_run 90 = .ok (.iload 5, 2) := by decide +kernel
theorem dX8_run_92 : decode cX8_run 92 = .ok (.ifCond .le 32, 3) := by decide +kernel
theorem dX8_run_95 : decode cX8_run 95 = .ok (.aload_n 0, 1) := by decide +kernel
theorem dX8_run_96 : decode cX8_run 96 = .ok (.getfield 64, 3) := by decide +kernel
theorem dX8_run_99 : decode cX8_run 99 = .ok (.iload 5, 2) := by decide +kernel
theorem dX8_run_101 : decode cX8_run 101 = .ok (.baload, 1) := by decide +kernel
theorem dX8_run_102 : decode cX8_run 102 = .ok (.ifCond .ne 18, 3) := by decide +kernel
theorem dX8_run_105 : decode cX8_run 105 = .ok (.aload_n 0, 1) := by decide +kernel
theorem dX8_run_106 : decode cX8_run 106 = .ok (.getfield 67, 3) := by decide +kernel
theorem dX8_run_109 : decode cX8_run 109 = .ok (.aload_n 0, 1) := by decide +kernel
theorem dX8_run_110 : decode cX8_run 110 = .ok (.getfield 26, 3) := by decide +kernel
theorem dX8_run_113 : decode cX8_run 113 = .ok (.iload 5, 2) := by decide +kernel
theorem dX8_run_115 : decode cX8_run 115 = .ok (.iaload, 1) := by decide +kernel
theorem dX8_run_116 : decode cX8_run 116 = .ok (.baload, 1) := by decide +kernel
theorem dX8_run_117 : decode cX8_run 117 = .ok (.ifCond .eq 7, 3) := by decide +kernel
theorem dX8_run_120 : decode cX8_run 120 = .ok (.iconst 1, 1) := by decide +kernel
theorem dX8_run_121 : decode cX8_run 121 = .ok (.goto 4, 3) := by decide +kernel
theorem dX8_run_124 : decode cX8_run 124 = .ok (.iconst 0, 1) := by decide +kernel
theorem dX8_run_125 : decode cX8_run 125 = .ok (.bastore, 1) := by decide +kernel
theorem dX8_run_126 : decode cX8_run 126 = .ok (.iinc 5 1, 3) := by decide +kernel
theorem dX8_run_129 : decode cX8_run 129 = .ok (.goto (-100), 3) := by decide +kernel
theorem dX8_run_132 : decode cX8_run 132 = .ok (.iload 4, 2) := by decide +kernel
theorem dX8_run_134 : decode cX8_run 134 = .ok (.ireturn, 1) := by decide +kernel
theorem dX8_ran_0 : decode cX8_ran 0 = .ok (.aload_n 0, 1) := by decide +kernel
theorem dX8_ran_1 : decode cX8_ran 1 = .ok (.getfield 91, 3) := by decide +kernel
theorem dX8_ran_4 : decode cX8_ran 4 = .ok (.ifCond .eq 43, 3) := by decide +kernel
theorem dX8_ran_7 : decode cX8_ran 7 = .ok (.iload_n 1, 1) := by decide +kernel
theorem dX8_ran_8 : decode cX8_ran 8 = .ok (.iconst 0, 1) := by decide +kernel
theorem dX8_ran_9 : decode cX8_ran 9 = .ok (.aload_n 0, 1) := by decide +kernel
theorem dX8_ran_10 : decode cX8_ran 10 = .ok (.getfield 7, 3) := by decide +kernel
theorem dX8_ran_13 : decode cX8_ran 13 = .ok (.iconst 1, 1) := by decide +kernel
theorem dX8_ran_14 : decode cX8_ran 14 = .ok (.isub, 1) := by decide +kernel
theorem dX8_ran_15 : decode cX8_ran 15 = .ok (.invokestatic 83, 3) := by decide +kernel
theorem dX8_ran_18 : decode cX8_ran 18 = .ok (.ifCond .eq 29, 3) := by decide +kernel
theorem dX8_ran_21 : decode cX8_ran 21 = .ok (.iload_n 2, 1) := by decide +kernel
theorem dX8_ran_22 : decode cX8_ran 22 = .ok (.iconst 0, 1) := by decide +kernel
theorem dX8_ran_23 : decode cX8_ran 23 = .ok (.iconst 1, 1) := by decide +kernel
theorem dX8_ran_24 : decode cX8_ran 24 = .ok (.invokestatic 83, 3) := by decide +kernel
theorem dX8_ran_27 : decode cX8_ran 27 = .ok (.ifCond .eq 20, 3) := by decide +kernel
theorem dX8_ran_30 : decode cX8_ran 30 = .ok (.iload_n 2, 1) := by decide +kernel
theorem dX8_ran_31 : decode cX8_ran 31 = .ok (.ifCond .ne 18, 3) := by decide +kernel
theorem dX8_ran_34 : decode cX8_ran 34 = .ok (.iload_n 1, 1) := by decide +kernel
theorem dX8_ran_35 : decode cX8_ran 35 = .ok (.ifCond .eq 12, 3) := by decide +kernel
theorem dX8_ran_38 : decode cX8_ran 38 = .ok (.aload_n 0, 1) := by decide +kernel
theorem dX8_ran_39 : decode cX8_ran 39 = .ok (.getfield 45, 3) := by decide +kernel
theorem dX8_ran_42 : decode cX8_ran 42 = .ok (.iload_n 1, 1) := by decide +kernel
theorem dX8_ran_43 : decode cX8_ran 43 = .ok (.baload, 1) := by decide +kernel
theorem dX8_ran_44 : decode cX8_ran 44 = .ok (.ifCond .ne 5, 3) := by decide +kernel
theorem dX8_ran_47 : decode cX8_ran 47 = .ok (.iconst (-1), 1) := by decide +kernel
theorem dX8_ran_48 : decode cX8_ran 48 = .ok (.ireturn, 1) := by decide +kernel
theorem dX8_ran_49 : decode cX8_ran 49 = .ok (.iload_n 2, 1) := by decide +kernel
theorem dX8_ran_50 : decode cX8_ran 50 = .ok (.ifCond .ne 15, 3) := by decide +kernel
theorem dX8_ran_53 : decode cX8_ran 53 = .ok (.aload_n 0, 1) := by decide +kernel
theorem dX8_ran_54 : decode cX8_ran 54 = .ok (.getfield 64, 3) := by decide +kernel
theorem dX8_ran_57 : decode cX8_ran 57 = .ok (.iload_n 1, 1) := by decide +kernel
theorem dX8_ran_58 : decode cX8_ran 58 = .ok (.baload, 1) := by decide +kernel
theorem dX8_ran_59 : decode cX8_ran 59 = .ok (.ifCond .eq 19, 3) := by decide +kernel
theorem dX8_ran_62 : decode cX8_ran 62 = .ok (.goto 12, 3) := by decide +kernel
theorem dX8_ran_65 : decode cX8_ran 65 = .ok (.aload_n 0, 1) := by decide +kernel
theorem dX8_ran_66 : decode cX8_ran 66 = .ok (.getfield 67, 3) := by decide +kernel
theorem dX8_ran_69 : decode cX8_ran 69 = .ok (.iload_n 1, 1) := by decide +kernel
theorem dX8_ran_70 : decode cX8_ran 70 = .ok (.baload, 1) := by decide +kernel
theorem dX8_ran_71 : decode cX8_ran 71 = .ok (.ifCond .eq 7, 3) := by decide +kernel
theorem dX8_ran_74 : decode cX8_ran 74 = .ok (.iconst 1, 1) := by decide +kernel
theorem dX8_ran_75 : decode cX8_ran 75 = .ok (.goto 4, 3) := by decide +kernel
theorem dX8_ran_78 : decode cX8_ran 78 = .ok (.iconst 0, 1) := by decide +kernel
theorem dX8_ran_79 : decode cX8_ran 79 = .ok (.ireturn, 1) := by decide +kernel
theorem dX8_arc_0 : decode cX8_arc 0 = .ok (.aload_n 0, 1) := by decide +kernel
theorem dX8_arc_1 : decode cX8_arc 1 = .ok (.iload_n 1, 1) := by decide +kernel
theorem dX8_arc_2 : decode cX8_arc 2 = .ok (.iload_n 2, 1) := by decide +kernel
theorem dX8_arc_3 : decode cX8_arc 3 = .ok (.iload_n 3, 1) := by decide +kernel
theorem dX8_arc_4 : decode cX8_arc 4 = .ok (.invokevirtual 117, 3) := by decide +kernel
theorem dX8_arc_7 : decode cX8_arc 7 = .ok (.ifCond .eq 13, 3) := by decide +kernel
theorem dX8_arc_10 : decode cX8_arc 10 = .ok (.aload_n 0, 1) := by decide +kernel
theorem dX8_arc_11 : decode cX8_arc 11 = .ok (.iload_n 1, 1) := by decide +kernel
theorem dX8_arc_12 : decode cX8_arc 12 = .ok (.iload_n 2, 1) := by decide +kernel
theorem dX8_arc_13 : decode cX8_arc 13 = .ok (.iload_n 3, 1) := by decide +kernel
theorem dX8_arc_14 : decode cX8_arc 14 = .ok (.invokevirtual 128, 3) := by decide +kernel
theorem dX8_arc_17 : decode cX8_arc 17 = .ok (.goto 4, 3) := by decide +kernel
theorem dX8_arc_20 : decode cX8_arc 20 = .ok (.iconst (-1), 1) := by decide +kernel
theorem dX8_arc_21 : decode cX8_arc 21 = .ok (.istore 4, 2) := by decide +kernel
theorem dX8_arc_23 : decode cX8_arc 23 = .ok (.iload 4, 2) := by decide +kernel
theorem dX8_arc_25 : decode cX8_arc 25 = .ok (.ifCond .ge 9, 3) := by decide +kernel
theorem dX8_arc_28 : decode cX8_arc 28 = .ok (.ldc2_w 120, 3) := by decide +kernel
theorem dX8_arc_31 : decode cX8_arc 31 = .ok (.goto 38, 3) := by decide +kernel
theorem dX8_arc_34 : decode cX8_arc 34 = .ok (.ldc2_w 132, 3) := by decide +kernel
theorem dX8_arc_37 : decode cX8_arc 37 = .ok (.aload_n 0, 1) := by decide +kernel
theorem dX8_arc_38 : decode cX8_arc 38 = .ok (.getfield 13, 3) := by decide +kernel
theorem dX8_arc_41 : decode cX8_arc 41 = .ok (.i2l, 1) := by decide +kernel
theorem dX8_arc_42 : decode cX8_arc 42 = .ok (.lmul, 1) := by decide +kernel
theorem dX8_arc_43 : decode cX8_arc 43 = .ok (.aload_n 0, 1) := by decide +kernel
theorem dX8_arc_44 : decode cX8_arc 44 = .ok (.getfield 13, 3) := by decide +kernel
theorem dX8_arc_47 : decode cX8_arc 47 = .ok (.i2l, 1) := by decide +kernel
theorem dX8_arc_48 : decode cX8_arc 48 = .ok (.lmul, 1) := by decide +kernel
theorem dX8_arc_49 : decode cX8_arc 49 = .ok (.iload 4, 2) := by decide +kernel
theorem dX8_arc_51 : decode cX8_arc 51 = .ok (.i2l, 1) := by decide +kernel
theorem dX8_arc_52 : decode cX8_arc 52 = .ok (.lmul, 1) := by decide +kernel
theorem dX8_arc_53 : decode cX8_arc 53 = .ok (.aload_n 0, 1) := by decide +kernel
theorem dX8_arc_54 : decode cX8_arc 54 = .ok (.iload_n 1, 1) := by decide +kernel
theorem dX8_arc_55 : decode cX8_arc 55 = .ok (.iload_n 2, 1) := by decide +kernel
theorem dX8_arc_56 : decode cX8_arc 56 = .ok (.iload_n 3, 1) := by decide +kernel
theorem dX8_arc_57 : decode cX8_arc 57 = .ok (.invokevirtual 109, 3) := by decide +kernel
theorem dX8_arc_60 : decode cX8_arc 60 = .ok (.aload_n 0, 1) := by decide +kernel
theorem dX8_arc_61 : decode cX8_arc 61 = .ok (.iload_n 1, 1) := by decide +kernel
theorem dX8_arc_62 : decode cX8_arc 62 = .ok (.iload_n 2, 1) := by decide +kernel
theorem dX8_arc_63 : decode cX8_arc 63 = .ok (.iload_n 3, 1) := by decide +kernel
theorem dX8_arc_64 : decode cX8_arc 64 = .ok (.invokevirtual 109, 3) := by decide +kernel
theorem dX8_arc_67 : decode cX8_arc 67 = .ok (.lmul, 1) := by decide +kernel
theorem dX8_arc_68 : decode cX8_arc 68 = .ok (.ldiv, 1) := by decide +kernel
theorem dX8_arc_69 : decode cX8_arc 69 = .ok (.lreturn, 1) := by decide +kernel
theorem dX8_worst_0 : decode cX8_worst 0 = .ok (.lconst 0, 1) := by decide +kernel
theorem dX8_worst_1 : decode cX8_worst 1 = .ok (.lstore_n 1, 1) := by decide +kernel
theorem dX8_worst_2 : decode cX8_worst 2 = .ok (.iconst 1, 1) := by decide +kernel
theorem dX8_worst_3 : decode cX8_worst 3 = .ok (.istore_n 3, 1) := by decide +kernel
theorem dX8_worst_4 : decode cX8_worst 4 = .ok (.iload_n 3, 1) := by decide +kernel
theorem dX8_worst_5 : decode cX8_worst 5 = .ok (.aload_n 0, 1) := by decide +kernel
theorem dX8_worst_6 : decode cX8_worst 6 = .ok (.getfield 7, 3) := by decide +kernel
theorem dX8_worst_9 : decode cX8_worst 9 = .ok (.if_icmp .ge 66, 3) := by decide +kernel
theorem dX8_worst_12 : decode cX8_worst 12 = .ok (.iconst 0, 1) := by decide +kernel
theorem dX8_worst_13 : decode cX8_worst 13 = .ok (.istore 4, 2) := by decide +kernel
theorem dX8_worst_15 : decode cX8_worst 15 = .ok (.iload 4, 2) := by decide +kernel
theorem dX8_worst_17 : decode cX8_worst 17 = .ok (.bipush 34, 2) := by decide +kernel
theorem dX8_worst_19 : decode cX8_worst 19 = .ok (.if_icmp .ge 50, 3) := by decide +kernel
theorem dX8_worst_22 : decode cX8_worst 22 = .ok (.aload_n 0, 1) := by decide +kernel
theorem dX8_worst_23 : decode cX8_worst 23 = .ok (.iload_n 3, 1) := by decide +kernel
theorem dX8_worst_24 : decode cX8_worst 24 = .ok (.iload 4, 2) := by decide +kernel
theorem dX8_worst_26 : decode cX8_worst 26 = .ok (.iconst 2, 1) := by decide +kernel
theorem dX8_worst_27 : decode cX8_worst 27 = .ok (.idiv, 1) := by decide +kernel
theorem dX8_worst_28 : decode cX8_worst 28 = .ok (.iload 4, 2) := by decide +kernel
theorem dX8_worst_30 : decode cX8_worst 30 = .ok (.iconst 2, 1) := by decide +kernel
theorem dX8_worst_31 : decode cX8_worst 31 = .ok (.irem, 1) := by decide +kernel
theorem dX8_worst_32 : decode cX8_worst 32 = .ok (.aload_n 0, 1) := by decide +kernel
theorem dX8_worst_33 : decode cX8_worst 33 = .ok (.getfield 98, 3) := by decide +kernel
theorem dX8_worst_36 : decode cX8_worst 36 = .ok (.imul, 1) := by decide +kernel
theorem dX8_worst_37 : decode cX8_worst 37 = .ok (.invokevirtual 134, 3) := by decide +kernel
theorem dX8_worst_40 : decode cX8_worst 40 = .ok (.lstore 5, 2) := by decide +kernel
theorem dX8_worst_42 : decode cX8_worst 42 = .ok (.lload 5, 2) := by decide +kernel
theorem dX8_worst_44 : decode cX8_worst 44 = .ok (.lconst 0, 1) := by decide +kernel
theorem dX8_worst_45 : decode cX8_worst 45 = .ok (.lcmp, 1) := by decide +kernel
theorem dX8_worst_46 : decode cX8_worst 46 = .ok (.ifCond .ge 7, 3) := by decide +kernel
theorem dX8_worst_49 : decode cX8_worst 49 = .ok (.ldc2_w 120, 3) := by decide +kernel
theorem dX8_worst_52 : decode cX8_worst 52 = .ok (.lreturn, 1) := by decide +kernel
theorem dX8_worst_53 : decode cX8_worst 53 = .ok (.lload 5, 2) := by decide +kernel
theorem dX8_worst_55 : decode cX8_worst 55 = .ok (.lload_n 1, 1) := by decide +kernel
theorem dX8_worst_56 : decode cX8_worst 56 = .ok (.lcmp, 1) := by decide +kernel
theorem dX8_worst_57 : decode cX8_worst 57 = .ok (.ifCond .le 6, 3) := by decide +kernel
theorem dX8_worst_60 : decode cX8_worst 60 = .ok (.lload 5, 2) := by decide +kernel
theorem dX8_worst_62 : decode cX8_worst 62 = .ok (.lstore_n 1, 1) := by decide +kernel
theorem dX8_worst_63 : decode cX8_worst 63 = .ok (.iinc 4 1, 3) := by decide +kernel
theorem dX8_worst_66 : decode cX8_worst 66 = .ok (.goto (-51), 3) := by decide +kernel
theorem dX8_worst_69 : decode cX8_worst 69 = .ok (.iinc 3 1, 3) := by decide +kernel
theorem dX8_worst_72 : decode cX8_worst 72 = .ok (.goto (-68), 3) := by decide +kernel
theorem dX8_worst_75 : decode cX8_worst 75 = .ok (.lload_n 1, 1) := by decide +kernel
theorem dX8_worst_76 : decode cX8_worst 76 = .ok (.lreturn, 1) := by decide +kernel
theorem dX8_keeper_0 : decode cX8_keeper 0 = .ok (.iload_n 1, 1) := by decide +kernel
theorem dX8_keeper_1 : decode cX8_keeper 1 = .ok (.istore_n 2, 1) := by decide +kernel
theorem dX8_keeper_2 : decode cX8_keeper 2 = .ok (.iload_n 2, 1) := by decide +kernel
theorem dX8_keeper_3 : decode cX8_keeper 3 = .ok (.ifCond .le 22, 3) := by decide +kernel
theorem dX8_keeper_6 : decode cX8_keeper 6 = .ok (.aload_n 0, 1) := by decide +kernel
theorem dX8_keeper_7 : decode cX8_keeper 7 = .ok (.getfield 45, 3) := by decide +kernel
theorem dX8_keeper_10 : decode cX8_keeper 10 = .ok (.iload_n 2, 1) := by decide +kernel
theorem dX8_keeper_11 : decode cX8_keeper 11 = .ok (.baload, 1) := by decide +kernel
theorem dX8_keeper_12 : decode cX8_keeper 12 = .ok (.ifCond .ne 13, 3) := by decide +kernel
theorem dX8_keeper_15 : decode cX8_keeper 15 = .ok (.aload_n 0, 1) := by decide +kernel
theorem dX8_keeper_16 : decode cX8_keeper 16 = .ok (.getfield 26, 3) := by decide +kernel
theorem dX8_keeper_19 : decode cX8_keeper 19 = .ok (.iload_n 2, 1) := by decide +kernel
theorem dX8_keeper_20 : decode cX8_keeper 20 = .ok (.iaload, 1) := by decide +kernel
theorem dX8_keeper_21 : decode cX8_keeper 21 = .ok (.istore_n 2, 1) := by decide +kernel
theorem dX8_keeper_22 : decode cX8_keeper 22 = .ok (.goto (-20), 3) := by decide +kernel
theorem dX8_keeper_25 : decode cX8_keeper 25 = .ok (.iload_n 2, 1) := by decide +kernel
theorem dX8_keeper_26 : decode cX8_keeper 26 = .ok (.ifCond .le 7, 3) := by decide +kernel
theorem dX8_keeper_29 : decode cX8_keeper 29 = .ok (.iload_n 2, 1) := by decide +kernel
theorem dX8_keeper_30 : decode cX8_keeper 30 = .ok (.goto 4, 3) := by decide +kernel
theorem dX8_keeper_33 : decode cX8_keeper 33 = .ok (.iconst (-1), 1) := by decide +kernel
theorem dX8_keeper_34 : decode cX8_keeper 34 = .ok (.ireturn, 1) := by decide +kernel
theorem dX8_next_0 : decode cX8_next 0 = .ok (.aload_n 0, 1) := by decide +kernel
theorem dX8_next_1 : decode cX8_next 1 = .ok (.iload_n 1, 1) := by decide +kernel
theorem dX8_next_2 : decode cX8_next 2 = .ok (.invokevirtual 137, 3) := by decide +kernel
theorem dX8_next_5 : decode cX8_next 5 = .ok (.istore_n 2, 1) := by decide +kernel
theorem dX8_next_6 : decode cX8_next 6 = .ok (.iload_n 2, 1) := by decide +kernel
theorem dX8_next_7 : decode cX8_next 7 = .ok (.ifCond .ge 7, 3) := by decide +kernel
theorem dX8_next_10 : decode cX8_next 10 = .ok (.iconst (-1), 1) := by decide +kernel
theorem dX8_next_11 : decode cX8_next 11 = .ok (.goto 13, 3) := by decide +kernel
theorem dX8_next_14 : decode cX8_next 14 = .ok (.aload_n 0, 1) := by decide +kernel
theorem dX8_next_15 : decode cX8_next 15 = .ok (.aload_n 0, 1) := by decide +kernel
theorem dX8_next_16 : decode cX8_next 16 = .ok (.getfield 26, 3) := by decide +kernel
theorem dX8_next_19 : decode cX8_next 19 = .ok (.iload_n 2, 1) := by decide +kernel
theorem dX8_next_20 : decode cX8_next 20 = .ok (.iaload, 1) := by decide +kernel
theorem dX8_next_21 : decode cX8_next 21 = .ok (.invokevirtual 137, 3) := by decide +kernel
theorem dX8_next_24 : decode cX8_next 24 = .ok (.ireturn, 1) := by decide +kernel
theorem dX8_loadOf_0 : decode cX8_loadOf 0 = .ok (.iconst 0, 1) := by decide +kernel
theorem dX8_loadOf_1 : decode cX8_loadOf 1 = .ok (.istore_n 2, 1) := by decide +kernel
theorem dX8_loadOf_2 : decode cX8_loadOf 2 = .ok (.iconst 1, 1) := by decide +kernel
theorem dX8_loadOf_3 : decode cX8_loadOf 3 = .ok (.istore_n 3, 1) := by decide +kernel
theorem dX8_loadOf_4 : decode cX8_loadOf 4 = .ok (.iload_n 3, 1) := by decide +kernel
theorem dX8_loadOf_5 : decode cX8_loadOf 5 = .ok (.aload_n 0, 1) := by decide +kernel
theorem dX8_loadOf_6 : decode cX8_loadOf 6 = .ok (.getfield 7, 3) := by decide +kernel
theorem dX8_loadOf_9 : decode cX8_loadOf 9 = .ok (.if_icmp .ge 31, 3) := by decide +kernel
theorem dX8_loadOf_12 : decode cX8_loadOf 12 = .ok (.iload_n 2, 1) := by decide +kernel
theorem dX8_loadOf_13 : decode cX8_loadOf 13 = .ok (.aload_n 0, 1) := by decide +kernel
theorem dX8_loadOf_14 : decode cX8_loadOf 14 = .ok (.iload_n 1, 1) := by decide +kernel
theorem dX8_loadOf_15 : decode cX8_loadOf 15 = .ok (.iload_n 3, 1) := by decide +kernel
theorem dX8_loadOf_16 : decode cX8_loadOf 16 = .ok (.invokevirtual 105, 3) := by decide +kernel
theorem dX8_loadOf_19 : decode cX8_loadOf 19 = .ok (.ifCond .eq 12, 3) := by decide +kernel
theorem dX8_loadOf_22 : decode cX8_loadOf 22 = .ok (.aload_n 0, 1) := by decide +kernel
theorem dX8_loadOf_23 : decode cX8_loadOf 23 = .ok (.getfield 33, 3) := by decide +kernel
theorem dX8_loadOf_26 : decode cX8_loadOf 26 = .ok (.iload_n 3, 1) := by decide +kernel
theorem dX8_loadOf_27 : decode cX8_loadOf 27 = .ok (.iaload, 1) := by decide +kernel
theorem dX8_loadOf_28 : decode cX8_loadOf 28 = .ok (.goto 4, 3) := by decide +kernel
theorem dX8_loadOf_31 : decode cX8_loadOf 31 = .ok (.iconst 0, 1) := by decide +kernel
theorem dX8_loadOf_32 : decode cX8_loadOf 32 = .ok (.iadd, 1) := by decide +kernel
theorem dX8_loadOf_33 : decode cX8_loadOf 33 = .ok (.istore_n 2, 1) := by decide +kernel
theorem dX8_loadOf_34 : decode cX8_loadOf 34 = .ok (.iinc 3 1, 3) := by decide +kernel
theorem dX8_loadOf_37 : decode cX8_loadOf 37 = .ok (.goto (-33), 3) := by decide +kernel
theorem dX8_loadOf_40 : decode cX8_loadOf 40 = .ok (.iload_n 2, 1) := by decide +kernel
theorem dX8_loadOf_41 : decode cX8_loadOf 41 = .ok (.ireturn, 1) := by decide +kernel
theorem dX8_lineOf_0 : decode cX8_lineOf 0 = .ok (.aload_n 0, 1) := by decide +kernel
theorem dX8_lineOf_1 : decode cX8_lineOf 1 = .ok (.iload_n 1, 1) := by decide +kernel
theorem dX8_lineOf_2 : decode cX8_lineOf 2 = .ok (.invokevirtual 87, 3) := by decide +kernel
theorem dX8_lineOf_5 : decode cX8_lineOf 5 = .ok (.ifCond .ne 5, 3) := by decide +kernel
theorem dX8_lineOf_8 : decode cX8_lineOf 8 = .ok (.iconst (-1), 1) := by decide +kernel
theorem dX8_lineOf_9 : decode cX8_lineOf 9 = .ok (.ireturn, 1) := by decide +kernel
theorem dX8_lineOf_10 : decode cX8_lineOf 10 = .ok (.iload_n 2, 1) := by decide +kernel
theorem dX8_lineOf_11 : decode cX8_lineOf 11 = .ok (.tableswitch 201 0 9 #[53, 60, 66, 72, 78, 93, 113, 133, 153, 181], 53) := by decide +kernel
theorem dX8_lineOf_64 : decode cX8_lineOf 64 = .ok (.aload_n 0, 1) := by decide +kernel
theorem dX8_lineOf_65 : decode cX8_lineOf 65 = .ok (.getfield 26, 3) := by decide +kernel
theorem dX8_lineOf_68 : decode cX8_lineOf 68 = .ok (.iload_n 1, 1) := by decide +kernel
theorem dX8_lineOf_69 : decode cX8_lineOf 69 = .ok (.iaload, 1) := by decide +kernel
theorem dX8_lineOf_70 : decode cX8_lineOf 70 = .ok (.ireturn, 1) := by decide +kernel
theorem dX8_lineOf_71 : decode cX8_lineOf 71 = .ok (.aload_n 0, 1) := by decide +kernel
theorem dX8_lineOf_72 : decode cX8_lineOf 72 = .ok (.iload_n 1, 1) := by decide +kernel
theorem dX8_lineOf_73 : decode cX8_lineOf 73 = .ok (.invokevirtual 137, 3) := by decide +kernel
theorem dX8_lineOf_76 : decode cX8_lineOf 76 = .ok (.ireturn, 1) := by decide +kernel
theorem dX8_lineOf_77 : decode cX8_lineOf 77 = .ok (.aload_n 0, 1) := by decide +kernel
theorem dX8_lineOf_78 : decode cX8_lineOf 78 = .ok (.iload_n 1, 1) := by decide +kernel
theorem dX8_lineOf_79 : decode cX8_lineOf 79 = .ok (.invokevirtual 141, 3) := by decide +kernel
theorem dX8_lineOf_82 : decode cX8_lineOf 82 = .ok (.ireturn, 1) := by decide +kernel
theorem dX8_lineOf_83 : decode cX8_lineOf 83 = .ok (.aload_n 0, 1) := by decide +kernel
theorem dX8_lineOf_84 : decode cX8_lineOf 84 = .ok (.iload_n 1, 1) := by decide +kernel
theorem dX8_lineOf_85 : decode cX8_lineOf 85 = .ok (.invokevirtual 144, 3) := by decide +kernel
theorem dX8_lineOf_88 : decode cX8_lineOf 88 = .ok (.ireturn, 1) := by decide +kernel
theorem dX8_lineOf_89 : decode cX8_lineOf 89 = .ok (.aload_n 0, 1) := by decide +kernel
theorem dX8_lineOf_90 : decode cX8_lineOf 90 = .ok (.getfield 45, 3) := by decide +kernel
theorem dX8_lineOf_93 : decode cX8_lineOf 93 = .ok (.iload_n 1, 1) := by decide +kernel
theorem dX8_lineOf_94 : decode cX8_lineOf 94 = .ok (.baload, 1) := by decide +kernel
theorem dX8_lineOf_95 : decode cX8_lineOf 95 = .ok (.ifCond .eq 7, 3) := by decide +kernel
theorem dX8_lineOf_98 : decode cX8_lineOf 98 = .ok (.iconst 1, 1) := by decide +kernel
theorem dX8_lineOf_99 : decode cX8_lineOf 99 = .ok (.goto 4, 3) := by decide +kernel
theorem dX8_lineOf_102 : decode cX8_lineOf 102 = .ok (.iconst 0, 1) := by decide +kernel
theorem dX8_lineOf_103 : decode cX8_lineOf 103 = .ok (.ireturn, 1) := by decide +kernel
theorem dX8_lineOf_104 : decode cX8_lineOf 104 = .ok (.aload_n 0, 1) := by decide +kernel
theorem dX8_lineOf_105 : decode cX8_lineOf 105 = .ok (.getfield 45, 3) := by decide +kernel
theorem dX8_lineOf_108 : decode cX8_lineOf 108 = .ok (.iload_n 1, 1) := by decide +kernel
theorem dX8_lineOf_109 : decode cX8_lineOf 109 = .ok (.baload, 1) := by decide +kernel
theorem dX8_lineOf_110 : decode cX8_lineOf 110 = .ok (.ifCond .eq 12, 3) := by decide +kernel
theorem dX8_lineOf_113 : decode cX8_lineOf 113 = .ok (.aload_n 0, 1) := by decide +kernel
theorem dX8_lineOf_114 : decode cX8_lineOf 114 = .ok (.getfield 49, 3) := by decide +kernel
theorem dX8_lineOf_117 : decode cX8_lineOf 117 = .ok (.iload_n 1, 1) := by decide +kernel
theorem dX8_lineOf_118 : decode cX8_lineOf 118 = .ok (.iaload, 1) := by decide +kernel
theorem dX8_lineOf_119 : decode cX8_lineOf 119 = .ok (.goto 4, 3) := by decide +kernel
theorem dX8_lineOf_122 : decode cX8_lineOf 122 = .ok (.iconst (-1), 1) := by decide +kernel
theorem dX8_lineOf_123 : decode cX8_lineOf 123 = .ok (.ireturn, 1) := by decide +kernel
theorem dX8_lineOf_124 : decode cX8_lineOf 124 = .ok (.aload_n 0, 1) := by decide +kernel
theorem dX8_lineOf_125 : decode cX8_lineOf 125 = .ok (.getfield 45, 3) := by decide +kernel
theorem dX8_lineOf_128 : decode cX8_lineOf 128 = .ok (.iload_n 1, 1) := by decide +kernel
theorem dX8_lineOf_129 : decode cX8_lineOf 129 = .ok (.baload, 1) := by decide +kernel
theorem dX8_lineOf_130 : decode cX8_lineOf 130 = .ok (.ifCond .eq 12, 3) := by decide +kernel
theorem dX8_lineOf_133 : decode cX8_lineOf 133 = .ok (.aload_n 0, 1) := by decide +kernel
theorem dX8_lineOf_134 : decode cX8_lineOf 134 = .ok (.getfield 52, 3) := by decide +kernel
theorem dX8_lineOf_137 : decode cX8_lineOf 137 = .ok (.iload_n 1, 1) := by decide +kernel
theorem dX8_lineOf_138 : decode cX8_lineOf 138 = .ok (.iaload, 1) := by decide +kernel
theorem dX8_lineOf_139 : decode cX8_lineOf 139 = .ok (.goto 4, 3) := by decide +kernel
theorem dX8_lineOf_142 : decode cX8_lineOf 142 = .ok (.iconst (-1), 1) := by decide +kernel
theorem dX8_lineOf_143 : decode cX8_lineOf 143 = .ok (.ireturn, 1) := by decide +kernel
theorem dX8_lineOf_144 : decode cX8_lineOf 144 = .ok (.aload_n 0, 1) := by decide +kernel
theorem dX8_lineOf_145 : decode cX8_lineOf 145 = .ok (.getfield 45, 3) := by decide +kernel
theorem dX8_lineOf_148 : decode cX8_lineOf 148 = .ok (.iload_n 1, 1) := by decide +kernel
theorem dX8_lineOf_149 : decode cX8_lineOf 149 = .ok (.baload, 1) := by decide +kernel
theorem dX8_lineOf_150 : decode cX8_lineOf 150 = .ok (.ifCond .eq 12, 3) := by decide +kernel
theorem dX8_lineOf_153 : decode cX8_lineOf 153 = .ok (.aload_n 0, 1) := by decide +kernel
theorem dX8_lineOf_154 : decode cX8_lineOf 154 = .ok (.getfield 55, 3) := by decide +kernel
theorem dX8_lineOf_157 : decode cX8_lineOf 157 = .ok (.iload_n 1, 1) := by decide +kernel
theorem dX8_lineOf_158 : decode cX8_lineOf 158 = .ok (.iaload, 1) := by decide +kernel
theorem dX8_lineOf_159 : decode cX8_lineOf 159 = .ok (.goto 4, 3) := by decide +kernel
theorem dX8_lineOf_162 : decode cX8_lineOf 162 = .ok (.iconst (-1), 1) := by decide +kernel
theorem dX8_lineOf_163 : decode cX8_lineOf 163 = .ok (.ireturn, 1) := by decide +kernel
theorem dX8_lineOf_164 : decode cX8_lineOf 164 = .ok (.aload_n 0, 1) := by decide +kernel
theorem dX8_lineOf_165 : decode cX8_lineOf 165 = .ok (.getfield 45, 3) := by decide +kernel
theorem dX8_lineOf_168 : decode cX8_lineOf 168 = .ok (.iload_n 1, 1) := by decide +kernel
theorem dX8_lineOf_169 : decode cX8_lineOf 169 = .ok (.baload, 1) := by decide +kernel
theorem dX8_lineOf_170 : decode cX8_lineOf 170 = .ok (.ifCond .eq 20, 3) := by decide +kernel
theorem dX8_lineOf_173 : decode cX8_lineOf 173 = .ok (.aload_n 0, 1) := by decide +kernel
theorem dX8_lineOf_174 : decode cX8_lineOf 174 = .ok (.getfield 58, 3) := by decide +kernel
theorem dX8_lineOf_177 : decode cX8_lineOf 177 = .ok (.iload_n 1, 1) := by decide +kernel
theorem dX8_lineOf_178 : decode cX8_lineOf 178 = .ok (.baload, 1) := by decide +kernel
theorem dX8_lineOf_179 : decode cX8_lineOf 179 = .ok (.ifCond .eq 7, 3) := by decide +kernel
theorem dX8_lineOf_182 : decode cX8_lineOf 182 = .ok (.iconst 1, 1) := by decide +kernel
theorem dX8_lineOf_183 : decode cX8_lineOf 183 = .ok (.goto 8, 3) := by decide +kernel
theorem dX8_lineOf_186 : decode cX8_lineOf 186 = .ok (.iconst 0, 1) := by decide +kernel
theorem dX8_lineOf_187 : decode cX8_lineOf 187 = .ok (.goto 4, 3) := by decide +kernel
theorem dX8_lineOf_190 : decode cX8_lineOf 190 = .ok (.iconst (-1), 1) := by decide +kernel
theorem dX8_lineOf_191 : decode cX8_lineOf 191 = .ok (.ireturn, 1) := by decide +kernel
theorem dX8_lineOf_192 : decode cX8_lineOf 192 = .ok (.aload_n 0, 1) := by decide +kernel
theorem dX8_lineOf_193 : decode cX8_lineOf 193 = .ok (.getfield 45, 3) := by decide +kernel
theorem dX8_lineOf_196 : decode cX8_lineOf 196 = .ok (.iload_n 1, 1) := by decide +kernel
theorem dX8_lineOf_197 : decode cX8_lineOf 197 = .ok (.baload, 1) := by decide +kernel
theorem dX8_lineOf_198 : decode cX8_lineOf 198 = .ok (.ifCond .eq 12, 3) := by decide +kernel
theorem dX8_lineOf_201 : decode cX8_lineOf 201 = .ok (.aload_n 0, 1) := by decide +kernel
theorem dX8_lineOf_202 : decode cX8_lineOf 202 = .ok (.getfield 61, 3) := by decide +kernel
theorem dX8_lineOf_205 : decode cX8_lineOf 205 = .ok (.iload_n 1, 1) := by decide +kernel
theorem dX8_lineOf_206 : decode cX8_lineOf 206 = .ok (.iaload, 1) := by decide +kernel
theorem dX8_lineOf_207 : decode cX8_lineOf 207 = .ok (.goto 4, 3) := by decide +kernel
theorem dX8_lineOf_210 : decode cX8_lineOf 210 = .ok (.iconst (-1), 1) := by decide +kernel
theorem dX8_lineOf_211 : decode cX8_lineOf 211 = .ok (.ireturn, 1) := by decide +kernel
theorem dX8_lineOf_212 : decode cX8_lineOf 212 = .ok (.iconst (-1), 1) := by decide +kernel
theorem dX8_lineOf_213 : decode cX8_lineOf 213 = .ok (.ireturn, 1) := by decide +kernel
theorem dX8_tells_0 : decode cX8_tells 0 = .ok (.aload_n 0, 1) := by decide +kernel
theorem dX8_tells_1 : decode cX8_tells 1 = .ok (.iload_n 1, 1) := by decide +kernel
theorem dX8_tells_2 : decode cX8_tells 2 = .ok (.putfield 147, 3) := by decide +kernel
theorem dX8_tells_5 : decode cX8_tells 5 = .ok (.aload_n 0, 1) := by decide +kernel
theorem dX8_tells_6 : decode cX8_tells 6 = .ok (.iload_n 2, 1) := by decide +kernel
theorem dX8_tells_7 : decode cX8_tells 7 = .ok (.putfield 150, 3) := by decide +kernel
theorem dX8_tells_10 : decode cX8_tells 10 = .ok (.aload_n 0, 1) := by decide +kernel
theorem dX8_tells_11 : decode cX8_tells 11 = .ok (.iload_n 3, 1) := by decide +kernel
theorem dX8_tells_12 : decode cX8_tells 12 = .ok (.putfield 153, 3) := by decide +kernel
theorem dX8_tells_15 : decode cX8_tells 15 = .ok (.aload_n 0, 1) := by decide +kernel
theorem dX8_tells_16 : decode cX8_tells 16 = .ok (.iload 4, 2) := by decide +kernel
theorem dX8_tells_18 : decode cX8_tells 18 = .ok (.putfield 156, 3) := by decide +kernel
theorem dX8_tells_21 : decode cX8_tells 21 = .ok (.iconst 0, 1) := by decide +kernel
theorem dX8_tells_22 : decode cX8_tells 22 = .ok (.ireturn, 1) := by decide +kernel
theorem dX8_tooShort_0 : decode cX8_tooShort 0 = .ok (.iconst (-1), 1) := by decide +kernel
theorem dX8_tooShort_1 : decode cX8_tooShort 1 = .ok (.istore 4, 2) := by decide +kernel
theorem dX8_tooShort_3 : decode cX8_tooShort 3 = .ok (.iload_n 1, 1) := by decide +kernel
theorem dX8_tooShort_4 : decode cX8_tooShort 4 = .ok (.istore 5, 2) := by decide +kernel
theorem dX8_tooShort_6 : decode cX8_tooShort 6 = .ok (.iload 5, 2) := by decide +kernel
theorem dX8_tooShort_8 : decode cX8_tooShort 8 = .ok (.ifCond .le 58, 3) := by decide +kernel
theorem dX8_tooShort_11 : decode cX8_tooShort 11 = .ok (.aload_n 0, 1) := by decide +kernel
theorem dX8_tooShort_12 : decode cX8_tooShort 12 = .ok (.iload 5, 2) := by decide +kernel
theorem dX8_tooShort_14 : decode cX8_tooShort 14 = .ok (.iload_n 1, 1) := by decide +kernel
theorem dX8_tooShort_15 : decode cX8_tooShort 15 = .ok (.iload_n 2, 1) := by decide +kernel
theorem dX8_tooShort_16 : decode cX8_tooShort 16 = .ok (.iload_n 3, 1) := by decide +kernel
theorem dX8_tooShort_17 : decode cX8_tooShort 17 = .ok (.invokevirtual 124, 3) := by decide +kernel
theorem dX8_tooShort_20 : decode cX8_tooShort 20 = .ok (.istore 6, 2) := by decide +kernel
theorem dX8_tooShort_22 : decode cX8_tooShort 22 = .ok (.iload 6, 2) := by decide +kernel
theorem dX8_tooShort_24 : decode cX8_tooShort 24 = .ok (.ifCond .ge 6, 3) := by decide +kernel
theorem dX8_tooShort_27 : decode cX8_tooShort 27 = .ok (.goto 27, 3) := by decide +kernel
theorem dX8_tooShort_30 : decode cX8_tooShort 30 = .ok (.iload 4, 2) := by decide +kernel
theorem dX8_tooShort_32 : decode cX8_tooShort 32 = .ok (.ifCond .lt 18, 3) := by decide +kernel
theorem dX8_tooShort_35 : decode cX8_tooShort 35 = .ok (.iload 6, 2) := by decide +kernel
theorem dX8_tooShort_37 : decode cX8_tooShort 37 = .ok (.iload 4, 2) := by decide +kernel
theorem dX8_tooShort_39 : decode cX8_tooShort 39 = .ok (.aload_n 0, 1) := by decide +kernel
theorem dX8_tooShort_40 : decode cX8_tooShort 40 = .ok (.getfield 19, 3) := by decide +kernel
theorem dX8_tooShort_43 : decode cX8_tooShort 43 = .ok (.iadd, 1) := by decide +kernel
theorem dX8_tooShort_44 : decode cX8_tooShort 44 = .ok (.if_icmp .ge 6, 3) := by decide +kernel
theorem dX8_tooShort_47 : decode cX8_tooShort 47 = .ok (.iload 5, 2) := by decide +kernel
theorem dX8_tooShort_49 : decode cX8_tooShort 49 = .ok (.ireturn, 1) := by decide +kernel
theorem dX8_tooShort_50 : decode cX8_tooShort 50 = .ok (.iload 6, 2) := by decide +kernel
theorem dX8_tooShort_52 : decode cX8_tooShort 52 = .ok (.istore 4, 2) := by decide +kernel
theorem dX8_tooShort_54 : decode cX8_tooShort 54 = .ok (.aload_n 0, 1) := by decide +kernel
theorem dX8_tooShort_55 : decode cX8_tooShort 55 = .ok (.getfield 26, 3) := by decide +kernel
theorem dX8_tooShort_58 : decode cX8_tooShort 58 = .ok (.iload 5, 2) := by decide +kernel
theorem dX8_tooShort_60 : decode cX8_tooShort 60 = .ok (.iaload, 1) := by decide +kernel
theorem dX8_tooShort_61 : decode cX8_tooShort 61 = .ok (.istore 5, 2) := by decide +kernel
theorem dX8_tooShort_63 : decode cX8_tooShort 63 = .ok (.goto (-57), 3) := by decide +kernel
theorem dX8_tooShort_66 : decode cX8_tooShort 66 = .ok (.iconst (-1), 1) := by decide +kernel
theorem dX8_tooShort_67 : decode cX8_tooShort 67 = .ok (.ireturn, 1) := by decide +kernel
theorem dX8_isLineRight_0 : decode cX8_isLineRight 0 = .ok (.aload_n 0, 1) := by decide +kernel
theorem dX8_isLineRight_1 : decode cX8_isLineRight 1 = .ok (.iload_n 1, 1) := by decide +kernel
theorem dX8_isLineRight_2 : decode cX8_isLineRight 2 = .ok (.invokevirtual 137, 3) := by decide +kernel
theorem dX8_isLineRight_5 : decode cX8_isLineRight 5 = .ok (.istore_n 2, 1) := by decide +kernel
theorem dX8_isLineRight_6 : decode cX8_isLineRight 6 = .ok (.iload_n 2, 1) := by decide +kernel
theorem dX8_isLineRight_7 : decode cX8_isLineRight 7 = .ok (.ifCond .ge 12, 3) := by decide +kernel
theorem dX8_isLineRight_10 : decode cX8_isLineRight 10 = .ok (.aload_n 0, 1) := by decide +kernel
theorem dX8_isLineRight_11 : decode cX8_isLineRight 11 = .ok (.iconst 1, 1) := by decide +kernel
theorem dX8_isLineRight_12 : decode cX8_isLineRight 12 = .ok (.iload_n 1, 1) := by decide +kernel
theorem dX8_isLineRight_13 : decode cX8_isLineRight 13 = .ok (.iconst (-1), 1) := by decide +kernel
theorem dX8_isLineRight_14 : decode cX8_isLineRight 14 = .ok (.iconst (-1), 1) := by decide +kernel
theorem dX8_isLineRight_15 : decode cX8_isLineRight 15 = .ok (.invokevirtual 159, 3) := by decide +kernel
theorem dX8_isLineRight_18 : decode cX8_isLineRight 18 = .ok (.ireturn, 1) := by decide +kernel
theorem dX8_isLineRight_19 : decode cX8_isLineRight 19 = .ok (.iconst 0, 1) := by decide +kernel
theorem dX8_isLineRight_20 : decode cX8_isLineRight 20 = .ok (.istore_n 3, 1) := by decide +kernel
theorem dX8_isLineRight_21 : decode cX8_isLineRight 21 = .ok (.iload_n 3, 1) := by decide +kernel
theorem dX8_isLineRight_22 : decode cX8_isLineRight 22 = .ok (.bipush 34, 2) := by decide +kernel
theorem dX8_isLineRight_24 : decode cX8_isLineRight 24 = .ok (.if_icmp .ge 47, 3) := by decide +kernel
theorem dX8_isLineRight_27 : decode cX8_isLineRight 27 = .ok (.aload_n 0, 1) := by decide +kernel
theorem dX8_isLineRight_28 : decode cX8_isLineRight 28 = .ok (.iload_n 2, 1) := by decide +kernel
theorem dX8_isLineRight_29 : decode cX8_isLineRight 29 = .ok (.iload_n 1, 1) := by decide +kernel
theorem dX8_isLineRight_30 : decode cX8_isLineRight 30 = .ok (.iload_n 3, 1) := by decide +kernel
theorem dX8_isLineRight_31 : decode cX8_isLineRight 31 = .ok (.iconst 2, 1) := by decide +kernel
theorem dX8_isLineRight_32 : decode cX8_isLineRight 32 = .ok (.idiv, 1) := by decide +kernel
theorem dX8_isLineRight_33 : decode cX8_isLineRight 33 = .ok (.iload_n 3, 1) := by decide +kernel
theorem dX8_isLineRight_34 : decode cX8_isLineRight 34 = .ok (.iconst 2, 1) := by decide +kernel
theorem dX8_isLineRight_35 : decode cX8_isLineRight 35 = .ok (.irem, 1) := by decide +kernel
theorem dX8_isLineRight_36 : decode cX8_isLineRight 36 = .ok (.aload_n 0, 1) := by decide +kernel
theorem dX8_isLineRight_37 : decode cX8_isLineRight 37 = .ok (.getfield 98, 3) := by decide +kernel
theorem dX8_isLineRight_40 : decode cX8_isLineRight 40 = .ok (.imul, 1) := by decide +kernel
theorem dX8_isLineRight_41 : decode cX8_isLineRight 41 = .ok (.invokevirtual 124, 3) := by decide +kernel
theorem dX8_isLineRight_44 : decode cX8_isLineRight 44 = .ok (.ifCond .ge 21, 3) := by decide +kernel
theorem dX8_isLineRight_47 : decode cX8_isLineRight 47 = .ok (.aload_n 0, 1) := by decide +kernel
theorem dX8_isLineRight_48 : decode cX8_isLineRight 48 = .ok (.iconst 2, 1) := by decide +kernel
theorem dX8_isLineRight_49 : decode cX8_isLineRight 49 = .ok (.iload_n 1, 1) := by decide +kernel
theorem dX8_isLineRight_50 : decode cX8_isLineRight 50 = .ok (.iload_n 3, 1) := by decide +kernel
theorem dX8_isLineRight_51 : decode cX8_isLineRight 51 = .ok (.iconst 2, 1) := by decide +kernel
theorem dX8_isLineRight_52 : decode cX8_isLineRight 52 = .ok (.idiv, 1) := by decide +kernel
theorem dX8_isLineRight_53 : decode cX8_isLineRight 53 = .ok (.iload_n 3, 1) := by decide +kernel
theorem dX8_isLineRight_54 : decode cX8_isLineRight 54 = .ok (.iconst 2, 1) := by decide +kernel
theorem dX8_isLineRight_55 : decode cX8_isLineRight 55 = .ok (.irem, 1) := by decide +kernel
theorem dX8_isLineRight_56 : decode cX8_isLineRight 56 = .ok (.aload_n 0, 1) := by decide +kernel
theorem dX8_isLineRight_57 : decode cX8_isLineRight 57 = .ok (.getfield 98, 3) := by decide +kernel
theorem dX8_isLineRight_60 : decode cX8_isLineRight 60 = .ok (.imul, 1) := by decide +kernel
theorem dX8_isLineRight_61 : decode cX8_isLineRight 61 = .ok (.invokevirtual 159, 3) := by decide +kernel
theorem dX8_isLineRight_64 : decode cX8_isLineRight 64 = .ok (.ireturn, 1) := by decide +kernel
theorem dX8_isLineRight_65 : decode cX8_isLineRight 65 = .ok (.iinc 3 1, 3) := by decide +kernel
theorem dX8_isLineRight_68 : decode cX8_isLineRight 68 = .ok (.goto (-47), 3) := by decide +kernel
theorem dX8_isLineRight_71 : decode cX8_isLineRight 71 = .ok (.iconst 0, 1) := by decide +kernel
theorem dX8_isLineRight_72 : decode cX8_isLineRight 72 = .ok (.istore_n 3, 1) := by decide +kernel
theorem dX8_isLineRight_73 : decode cX8_isLineRight 73 = .ok (.iload_n 3, 1) := by decide +kernel
theorem dX8_isLineRight_74 : decode cX8_isLineRight 74 = .ok (.bipush 34, 2) := by decide +kernel
theorem dX8_isLineRight_76 : decode cX8_isLineRight 76 = .ok (.if_icmp .ge 62, 3) := by decide +kernel
theorem dX8_isLineRight_79 : decode cX8_isLineRight 79 = .ok (.iload_n 3, 1) := by decide +kernel
theorem dX8_isLineRight_80 : decode cX8_isLineRight 80 = .ok (.iconst 2, 1) := by decide +kernel
theorem dX8_isLineRight_81 : decode cX8_isLineRight 81 = .ok (.irem, 1) := by decide +kernel
theorem dX8_isLineRight_82 : decode cX8_isLineRight 82 = .ok (.aload_n 0, 1) := by decide +kernel
theorem dX8_isLineRight_83 : decode cX8_isLineRight 83 = .ok (.getfield 98, 3) := by decide +kernel
theorem dX8_isLineRight_86 : decode cX8_isLineRight 86 = .ok (.imul, 1) := by decide +kernel
theorem dX8_isLineRight_87 : decode cX8_isLineRight 87 = .ok (.istore 4, 2) := by decide +kernel
theorem dX8_isLineRight_89 : decode cX8_isLineRight 89 = .ok (.aload_n 0, 1) := by decide +kernel
theorem dX8_isLineRight_90 : decode cX8_isLineRight 90 = .ok (.iload_n 1, 1) := by decide +kernel
theorem dX8_isLineRight_91 : decode cX8_isLineRight 91 = .ok (.iload_n 3, 1) := by decide +kernel
theorem dX8_isLineRight_92 : decode cX8_isLineRight 92 = .ok (.iconst 2, 1) := by decide +kernel
theorem dX8_isLineRight_93 : decode cX8_isLineRight 93 = .ok (.idiv, 1) := by decide +kernel
theorem dX8_isLineRight_94 : decode cX8_isLineRight 94 = .ok (.iload 4, 2) := by decide +kernel
theorem dX8_isLineRight_96 : decode cX8_isLineRight 96 = .ok (.invokevirtual 163, 3) := by decide +kernel
theorem dX8_isLineRight_99 : decode cX8_isLineRight 99 = .ok (.ifCond .ge 21, 3) := by decide +kernel
theorem dX8_isLineRight_102 : decode cX8_isLineRight 102 = .ok (.aload_n 0, 1) := by decide +kernel
theorem dX8_isLineRight_103 : decode cX8_isLineRight 103 = .ok (.iload_n 2, 1) := by decide +kernel
theorem dX8_isLineRight_104 : decode cX8_isLineRight 104 = .ok (.iload_n 1, 1) := by decide +kernel
theorem dX8_isLineRight_105 : decode cX8_isLineRight 105 = .ok (.iload_n 3, 1) := by decide +kernel
theorem dX8_isLineRight_106 : decode cX8_isLineRight 106 = .ok (.iconst 2, 1) := by decide +kernel
theorem dX8_isLineRight_107 : decode cX8_isLineRight 107 = .ok (.idiv, 1) := by decide +kernel
theorem dX8_isLineRight_108 : decode cX8_isLineRight 108 = .ok (.iload 4, 2) := by decide +kernel
theorem dX8_isLineRight_110 : decode cX8_isLineRight 110 = .ok (.invokevirtual 124, 3) := by decide +kernel
theorem dX8_isLineRight_113 : decode cX8_isLineRight 113 = .ok (.aload_n 0, 1) := by decide +kernel
theorem dX8_isLineRight_114 : decode cX8_isLineRight 114 = .ok (.getfield 23, 3) := by decide +kernel
theorem dX8_isLineRight_117 : decode cX8_isLineRight 117 = .ok (.if_icmp .le 15, 3) := by decide +kernel
theorem dX8_isLineRight_120 : decode cX8_isLineRight 120 = .ok (.aload_n 0, 1) := by decide +kernel
theorem dX8_isLineRight_121 : decode cX8_isLineRight 121 = .ok (.iconst 3, 1) := by decide +kernel
theorem dX8_isLineRight_122 : decode cX8_isLineRight 122 = .ok (.iload_n 1, 1) := by decide +kernel
theorem dX8_isLineRight_123 : decode cX8_isLineRight 123 = .ok (.iload_n 3, 1) := by decide +kernel
theorem dX8_isLineRight_124 : decode cX8_isLineRight 124 = .ok (.iconst 2, 1) := by decide +kernel
theorem dX8_isLineRight_125 : decode cX8_isLineRight 125 = .ok (.idiv, 1) := by decide +kernel
theorem dX8_isLineRight_126 : decode cX8_isLineRight 126 = .ok (.iload 4, 2) := by decide +kernel
theorem dX8_isLineRight_128 : decode cX8_isLineRight 128 = .ok (.invokevirtual 159, 3) := by decide +kernel
theorem dX8_isLineRight_131 : decode cX8_isLineRight 131 = .ok (.ireturn, 1) := by decide +kernel
theorem dX8_isLineRight_132 : decode cX8_isLineRight 132 = .ok (.iinc 3 1, 3) := by decide +kernel
theorem dX8_isLineRight_135 : decode cX8_isLineRight 135 = .ok (.goto (-62), 3) := by decide +kernel
theorem dX8_isLineRight_138 : decode cX8_isLineRight 138 = .ok (.iconst 1, 1) := by decide +kernel
theorem dX8_isLineRight_139 : decode cX8_isLineRight 139 = .ok (.ireturn, 1) := by decide +kernel
theorem dX8_isRight_0 : decode cX8_isRight 0 = .ok (.aload_n 0, 1) := by decide +kernel
theorem dX8_isRight_1 : decode cX8_isRight 1 = .ok (.iconst 0, 1) := by decide +kernel
theorem dX8_isRight_2 : decode cX8_isRight 2 = .ok (.putfield 147, 3) := by decide +kernel
theorem dX8_isRight_5 : decode cX8_isRight 5 = .ok (.aload_n 0, 1) := by decide +kernel
theorem dX8_isRight_6 : decode cX8_isRight 6 = .ok (.iconst (-1), 1) := by decide +kernel
theorem dX8_isRight_7 : decode cX8_isRight 7 = .ok (.putfield 150, 3) := by decide +kernel
theorem dX8_isRight_10 : decode cX8_isRight 10 = .ok (.aload_n 0, 1) := by decide +kernel
theorem dX8_isRight_11 : decode cX8_isRight 11 = .ok (.iconst (-1), 1) := by decide +kernel
theorem dX8_isRight_12 : decode cX8_isRight 12 = .ok (.putfield 153, 3) := by decide +kernel
theorem dX8_isRight_15 : decode cX8_isRight 15 = .ok (.aload_n 0, 1) := by decide +kernel
theorem dX8_isRight_16 : decode cX8_isRight 16 = .ok (.iconst (-1), 1) := by decide +kernel
theorem dX8_isRight_17 : decode cX8_isRight 17 = .ok (.putfield 156, 3) := by decide +kernel
theorem dX8_isRight_20 : decode cX8_isRight 20 = .ok (.iconst 1, 1) := by decide +kernel
theorem dX8_isRight_21 : decode cX8_isRight 21 = .ok (.istore_n 1, 1) := by decide +kernel
theorem dX8_isRight_22 : decode cX8_isRight 22 = .ok (.iload_n 1, 1) := by decide +kernel
theorem dX8_isRight_23 : decode cX8_isRight 23 = .ok (.aload_n 0, 1) := by decide +kernel
theorem dX8_isRight_24 : decode cX8_isRight 24 = .ok (.getfield 7, 3) := by decide +kernel
theorem dX8_isRight_27 : decode cX8_isRight 27 = .ok (.if_icmp .ge 19, 3) := by decide +kernel
theorem dX8_isRight_30 : decode cX8_isRight 30 = .ok (.aload_n 0, 1) := by decide +kernel
theorem dX8_isRight_31 : decode cX8_isRight 31 = .ok (.iload_n 1, 1) := by decide +kernel
theorem dX8_isRight_32 : decode cX8_isRight 32 = .ok (.invokevirtual 166, 3) := by decide +kernel
theorem dX8_isRight_35 : decode cX8_isRight 35 = .ok (.ifCond .ne 5, 3) := by decide +kernel
theorem dX8_isRight_38 : decode cX8_isRight 38 = .ok (.iconst 0, 1) := by decide +kernel
theorem dX8_isRight_39 : decode cX8_isRight 39 = .ok (.ireturn, 1) := by decide +kernel
theorem dX8_isRight_40 : decode cX8_isRight 40 = .ok (.iinc 1 1, 3) := by decide +kernel
theorem dX8_isRight_43 : decode cX8_isRight 43 = .ok (.goto (-21), 3) := by decide +kernel
theorem dX8_isRight_46 : decode cX8_isRight 46 = .ok (.iconst 1, 1) := by decide +kernel
theorem dX8_isRight_47 : decode cX8_isRight 47 = .ok (.istore_n 1, 1) := by decide +kernel
theorem dX8_isRight_48 : decode cX8_isRight 48 = .ok (.iload_n 1, 1) := by decide +kernel
theorem dX8_isRight_49 : decode cX8_isRight 49 = .ok (.aload_n 0, 1) := by decide +kernel
theorem dX8_isRight_50 : decode cX8_isRight 50 = .ok (.getfield 7, 3) := by decide +kernel
theorem dX8_isRight_53 : decode cX8_isRight 53 = .ok (.if_icmp .ge 42, 3) := by decide +kernel
theorem dX8_isRight_56 : decode cX8_isRight 56 = .ok (.aload_n 0, 1) := by decide +kernel
theorem dX8_isRight_57 : decode cX8_isRight 57 = .ok (.getfield 45, 3) := by decide +kernel
theorem dX8_isRight_60 : decode cX8_isRight 60 = .ok (.iload_n 1, 1) := by decide +kernel
theorem dX8_isRight_61 : decode cX8_isRight 61 = .ok (.baload, 1) := by decide +kernel
theorem dX8_isRight_62 : decode cX8_isRight 62 = .ok (.ifCond .eq 27, 3) := by decide +kernel
theorem dX8_isRight_65 : decode cX8_isRight 65 = .ok (.aload_n 0, 1) := by decide +kernel
theorem dX8_isRight_66 : decode cX8_isRight 66 = .ok (.iload_n 1, 1) := by decide +kernel
theorem dX8_isRight_67 : decode cX8_isRight 67 = .ok (.aload_n 0, 1) := by decide +kernel
theorem dX8_isRight_68 : decode cX8_isRight 68 = .ok (.iload_n 1, 1) := by decide +kernel
theorem dX8_isRight_69 : decode cX8_isRight 69 = .ok (.invokevirtual 144, 3) := by decide +kernel
theorem dX8_isRight_72 : decode cX8_isRight 72 = .ok (.i2l, 1) := by decide +kernel
theorem dX8_isRight_73 : decode cX8_isRight 73 = .ok (.lconst 1, 1) := by decide +kernel
theorem dX8_isRight_74 : decode cX8_isRight 74 = .ok (.invokevirtual 113, 3) := by decide +kernel
theorem dX8_isRight_77 : decode cX8_isRight 77 = .ok (.ifCond .lt 12, 3) := by decide +kernel
theorem dX8_isRight_80 : decode cX8_isRight 80 = .ok (.aload_n 0, 1) := by decide +kernel
theorem dX8_isRight_81 : decode cX8_isRight 81 = .ok (.iconst 4, 1) := by decide +kernel
theorem dX8_isRight_82 : decode cX8_isRight 82 = .ok (.iload_n 1, 1) := by decide +kernel
theorem dX8_isRight_83 : decode cX8_isRight 83 = .ok (.iconst (-1), 1) := by decide +kernel
theorem dX8_isRight_84 : decode cX8_isRight 84 = .ok (.iconst (-1), 1) := by decide +kernel
theorem dX8_isRight_85 : decode cX8_isRight 85 = .ok (.invokevirtual 159, 3) := by decide +kernel
theorem dX8_isRight_88 : decode cX8_isRight 88 = .ok (.ireturn, 1) := by decide +kernel
theorem dX8_isRight_89 : decode cX8_isRight 89 = .ok (.iinc 1 1, 3) := by decide +kernel
theorem dX8_isRight_92 : decode cX8_isRight 92 = .ok (.goto (-44), 3) := by decide +kernel
theorem dX8_isRight_95 : decode cX8_isRight 95 = .ok (.iconst 1, 1) := by decide +kernel
theorem dX8_isRight_96 : decode cX8_isRight 96 = .ok (.ireturn, 1) := by decide +kernel
theorem dX8_right_0 : decode cX8_right 0 = .ok (.aload_n 0, 1) := by decide +kernel
theorem dX8_right_1 : decode cX8_right 1 = .ok (.invokevirtual 169, 3) := by decide +kernel
theorem dX8_right_4 : decode cX8_right 4 = .ok (.pop, 1) := by decide +kernel
theorem dX8_right_5 : decode cX8_right 5 = .ok (.iload_n 1, 1) := by decide +kernel
theorem dX8_right_6 : decode cX8_right 6 = .ok (.ifCond .ne 10, 3) := by decide +kernel
theorem dX8_right_9 : decode cX8_right 9 = .ok (.aload_n 0, 1) := by decide +kernel
theorem dX8_right_10 : decode cX8_right 10 = .ok (.getfield 147, 3) := by decide +kernel
theorem dX8_right_13 : decode cX8_right 13 = .ok (.goto 40, 3) := by decide +kernel
theorem dX8_right_16 : decode cX8_right 16 = .ok (.iload_n 1, 1) := by decide +kernel
theorem dX8_right_17 : decode cX8_right 17 = .ok (.iconst 1, 1) := by decide +kernel
theorem dX8_right_18 : decode cX8_right 18 = .ok (.if_icmp .ne 10, 3) := by decide +kernel
theorem dX8_right_21 : decode cX8_right 21 = .ok (.aload_n 0, 1) := by decide +kernel
theorem dX8_right_22 : decode cX8_right 22 = .ok (.getfield 150, 3) := by decide +kernel
theorem dX8_right_25 : decode cX8_right 25 = .ok (.goto 28, 3) := by decide +kernel
theorem dX8_right_28 : decode cX8_right 28 = .ok (.iload_n 1, 1) := by decide +kernel
theorem dX8_right_29 : decode cX8_right 29 = .ok (.iconst 2, 1) := by decide +kernel
theorem dX8_right_30 : decode cX8_right 30 = .ok (.if_icmp .ne 10, 3) := by decide +kernel
theorem dX8_right_33 : decode cX8_right 33 = .ok (.aload_n 0, 1) := by decide +kernel
theorem dX8_right_34 : decode cX8_right 34 = .ok (.getfield 153, 3) := by decide +kernel
theorem dX8_right_37 : decode cX8_right 37 = .ok (.goto 16, 3) := by decide +kernel
theorem dX8_right_40 : decode cX8_right 40 = .ok (.iload_n 1, 1) := by decide +kernel
theorem dX8_right_41 : decode cX8_right 41 = .ok (.iconst 3, 1) := by decide +kernel
theorem dX8_right_42 : decode cX8_right 42 = .ok (.if_icmp .ne 10, 3) := by decide +kernel
theorem dX8_right_45 : decode cX8_right 45 = .ok (.aload_n 0, 1) := by decide +kernel
theorem dX8_right_46 : decode cX8_right 46 = .ok (.getfield 156, 3) := by decide +kernel
theorem dX8_right_49 : decode cX8_right 49 = .ok (.goto 4, 3) := by decide +kernel
theorem dX8_right_52 : decode cX8_right 52 = .ok (.iconst (-1), 1) := by decide +kernel
theorem dX8_right_53 : decode cX8_right 53 = .ok (.ireturn, 1) := by decide +kernel
theorem dX8_raises_0 : decode cX8_raises 0 = .ok (.iconst 1, 1) := by decide +kernel
theorem dX8_raises_1 : decode cX8_raises 1 = .ok (.istore_n 1, 1) := by decide +kernel
theorem dX8_raises_2 : decode cX8_raises 2 = .ok (.iload_n 1, 1) := by decide +kernel
theorem dX8_raises_3 : decode cX8_raises 3 = .ok (.aload_n 0, 1) := by decide +kernel
theorem dX8_raises_4 : decode cX8_raises 4 = .ok (.getfield 7, 3) := by decide +kernel
theorem dX8_raises_7 : decode cX8_raises 7 = .ok (.if_icmp .ge 72, 3) := by decide +kernel
theorem dX8_raises_10 : decode cX8_raises 10 = .ok (.iconst 0, 1) := by decide +kernel
theorem dX8_raises_11 : decode cX8_raises 11 = .ok (.istore_n 2, 1) := by decide +kernel
theorem dX8_raises_12 : decode cX8_raises 12 = .ok (.iload_n 2, 1) := by decide +kernel
theorem dX8_raises_13 : decode cX8_raises 13 = .ok (.bipush 34, 2) := by decide +kernel
theorem dX8_raises_15 : decode cX8_raises 15 = .ok (.if_icmp .ge 58, 3) := by decide +kernel
theorem dX8_raises_18 : decode cX8_raises 18 = .ok (.aload_n 0, 1) := by decide +kernel
theorem dX8_raises_19 : decode cX8_raises 19 = .ok (.iload_n 1, 1) := by decide +kernel
theorem dX8_raises_20 : decode cX8_raises 20 = .ok (.iload_n 2, 1) := by decide +kernel
theorem dX8_raises_21 : decode cX8_raises 21 = .ok (.iconst 2, 1) := by decide +kernel
theorem dX8_raises_22 : decode cX8_raises 22 = .ok (.idiv, 1) := by decide +kernel
theorem dX8_raises_23 : decode cX8_raises 23 = .ok (.iload_n 2, 1) := by decide +kernel
theorem dX8_raises_24 : decode cX8_raises 24 = .ok (.iconst 2, 1) := by decide +kernel
theorem dX8_raises_25 : decode cX8_raises 25 = .ok (.irem, 1) := by decide +kernel
theorem dX8_raises_26 : decode cX8_raises 26 = .ok (.aload_n 0, 1) := by decide +kernel
theorem dX8_raises_27 : decode cX8_raises 27 = .ok (.getfield 98, 3) := by decide +kernel
theorem dX8_raises_30 : decode cX8_raises 30 = .ok (.imul, 1) := by decide +kernel
theorem dX8_raises_31 : decode cX8_raises 31 = .ok (.invokevirtual 163, 3) := by decide +kernel
theorem dX8_raises_34 : decode cX8_raises 34 = .ok (.istore_n 3, 1) := by decide +kernel
theorem dX8_raises_35 : decode cX8_raises 35 = .ok (.iload_n 3, 1) := by decide +kernel
theorem dX8_raises_36 : decode cX8_raises 36 = .ok (.ifCond .ge 6, 3) := by decide +kernel
theorem dX8_raises_39 : decode cX8_raises 39 = .ok (.goto 28, 3) := by decide +kernel
theorem dX8_raises_42 : decode cX8_raises 42 = .ok (.aload_n 0, 1) := by decide +kernel
theorem dX8_raises_43 : decode cX8_raises 43 = .ok (.getfield 52, 3) := by decide +kernel
theorem dX8_raises_46 : decode cX8_raises 46 = .ok (.iload_n 3, 1) := by decide +kernel
theorem dX8_raises_47 : decode cX8_raises 47 = .ok (.iaload, 1) := by decide +kernel
theorem dX8_raises_48 : decode cX8_raises 48 = .ok (.bipush 40, 2) := by decide +kernel
theorem dX8_raises_50 : decode cX8_raises 50 = .ok (.if_icmp .ne 5, 3) := by decide +kernel
theorem dX8_raises_53 : decode cX8_raises 53 = .ok (.iconst (-1), 1) := by decide +kernel
theorem dX8_raises_54 : decode cX8_raises 54 = .ok (.ireturn, 1) := by decide +kernel
theorem dX8_raises_55 : decode cX8_raises 55 = .ok (.aload_n 0, 1) := by decide +kernel
theorem dX8_raises_56 : decode cX8_raises 56 = .ok (.getfield 52, 3) := by decide +kernel
theorem dX8_raises_59 : decode cX8_raises 59 = .ok (.iload_n 3, 1) := by decide +kernel
theorem dX8_raises_60 : decode cX8_raises 60 = .ok (.dup2, 1) := by decide +kernel
theorem dX8_raises_61 : decode cX8_raises 61 = .ok (.iaload, 1) := by decide +kernel
theorem dX8_raises_62 : decode cX8_raises 62 = .ok (.iconst 1, 1) := by decide +kernel
theorem dX8_raises_63 : decode cX8_raises 63 = .ok (.iadd, 1) := by decide +kernel
theorem dX8_raises_64 : decode cX8_raises 64 = .ok (.iastore, 1) := by decide +kernel
theorem dX8_raises_65 : decode cX8_raises 65 = .ok (.iconst 1, 1) := by decide +kernel
theorem dX8_raises_66 : decode cX8_raises 66 = .ok (.ireturn, 1) := by decide +kernel
theorem dX8_raises_67 : decode cX8_raises 67 = .ok (.iinc 2 1, 3) := by decide +kernel
theorem dX8_raises_70 : decode cX8_raises 70 = .ok (.goto (-58), 3) := by decide +kernel
theorem dX8_raises_73 : decode cX8_raises 73 = .ok (.iinc 1 1, 3) := by decide +kernel
theorem dX8_raises_76 : decode cX8_raises 76 = .ok (.goto (-74), 3) := by decide +kernel
theorem dX8_raises_79 : decode cX8_raises 79 = .ok (.iconst 0, 1) := by decide +kernel
theorem dX8_raises_80 : decode cX8_raises 80 = .ok (.ireturn, 1) := by decide +kernel
theorem dX8_fit_0 : decode cX8_fit 0 = .ok (.iconst 1, 1) := by decide +kernel
theorem dX8_fit_1 : decode cX8_fit 1 = .ok (.istore_n 1, 1) := by decide +kernel
theorem dX8_fit_2 : decode cX8_fit 2 = .ok (.iload_n 1, 1) := by decide +kernel
theorem dX8_fit_3 : decode cX8_fit 3 = .ok (.aload_n 0, 1) := by decide +kernel
theorem dX8_fit_4 : decode cX8_fit 4 = .ok (.getfield 7, 3) := by decide +kernel
theorem dX8_fit_7 : decode cX8_fit 7 = .ok (.if_icmp .ge 37, 3) := by decide +kernel
theorem dX8_fit_10 : decode cX8_fit 10 = .ok (.aload_n 0, 1) := by decide +kernel
theorem dX8_fit_11 : decode cX8_fit 11 = .ok (.getfield 73, 3) := by decide +kernel
theorem dX8_fit_14 : decode cX8_fit 14 = .ok (.iload_n 1, 1) := by decide +kernel
theorem dX8_fit_15 : decode cX8_fit 15 = .ok (.aload_n 0, 1) := by decide +kernel
theorem dX8_fit_16 : decode cX8_fit 16 = .ok (.getfield 52, 3) := by decide +kernel
theorem dX8_fit_19 : decode cX8_fit 19 = .ok (.iload_n 1, 1) := by decide +kernel
theorem dX8_fit_20 : decode cX8_fit 20 = .ok (.iaload, 1) := by decide +kernel
theorem dX8_fit_21 : decode cX8_fit 21 = .ok (.iastore, 1) := by decide +kernel
theorem dX8_fit_22 : decode cX8_fit 22 = .ok (.aload_n 0, 1) := by decide +kernel
theorem dX8_fit_23 : decode cX8_fit 23 = .ok (.getfield 45, 3) := by decide +kernel
theorem dX8_fit_26 : decode cX8_fit 26 = .ok (.iload_n 1, 1) := by decide +kernel
theorem dX8_fit_27 : decode cX8_fit 27 = .ok (.baload, 1) := by decide +kernel
theorem dX8_fit_28 : decode cX8_fit 28 = .ok (.ifCond .eq 10, 3) := by decide +kernel
theorem dX8_fit_31 : decode cX8_fit 31 = .ok (.aload_n 0, 1) := by decide +kernel
theorem dX8_fit_32 : decode cX8_fit 32 = .ok (.getfield 52, 3) := by decide +kernel
theorem dX8_fit_35 : decode cX8_fit 35 = .ok (.iload_n 1, 1) := by decide +kernel
theorem dX8_fit_36 : decode cX8_fit 36 = .ok (.iconst 1, 1) := by decide +kernel
theorem dX8_fit_37 : decode cX8_fit 37 = .ok (.iastore, 1) := by decide +kernel
theorem dX8_fit_38 : decode cX8_fit 38 = .ok (.iinc 1 1, 3) := by decide +kernel
theorem dX8_fit_41 : decode cX8_fit 41 = .ok (.goto (-39), 3) := by decide +kernel
theorem dX8_fit_44 : decode cX8_fit 44 = .ok (.iconst 1, 1) := by decide +kernel
theorem dX8_fit_45 : decode cX8_fit 45 = .ok (.istore_n 1, 1) := by decide +kernel
theorem dX8_fit_46 : decode cX8_fit 46 = .ok (.iload_n 1, 1) := by decide +kernel
theorem dX8_fit_47 : decode cX8_fit 47 = .ok (.iconst 1, 1) := by decide +kernel
theorem dX8_fit_48 : decode cX8_fit 48 = .ok (.if_icmp .ne 11, 3) := by decide +kernel
theorem dX8_fit_51 : decode cX8_fit 51 = .ok (.aload_n 0, 1) := by decide +kernel
theorem dX8_fit_52 : decode cX8_fit 52 = .ok (.invokevirtual 173, 3) := by decide +kernel
theorem dX8_fit_55 : decode cX8_fit 55 = .ok (.istore_n 1, 1) := by decide +kernel
theorem dX8_fit_56 : decode cX8_fit 56 = .ok (.goto (-10), 3) := by decide +kernel
theorem dX8_fit_59 : decode cX8_fit 59 = .ok (.iload_n 1, 1) := by decide +kernel
theorem dX8_fit_60 : decode cX8_fit 60 = .ok (.ifCond .lt 10, 3) := by decide +kernel
theorem dX8_fit_63 : decode cX8_fit 63 = .ok (.aload_n 0, 1) := by decide +kernel
theorem dX8_fit_64 : decode cX8_fit 64 = .ok (.invokevirtual 169, 3) := by decide +kernel
theorem dX8_fit_67 : decode cX8_fit 67 = .ok (.ifCond .ne 33, 3) := by decide +kernel
theorem dX8_fit_70 : decode cX8_fit 70 = .ok (.iconst 1, 1) := by decide +kernel
theorem dX8_fit_71 : decode cX8_fit 71 = .ok (.istore_n 2, 1) := by decide +kernel
theorem dX8_fit_72 : decode cX8_fit 72 = .ok (.iload_n 2, 1) := by decide +kernel
theorem dX8_fit_73 : decode cX8_fit 73 = .ok (.aload_n 0, 1) := by decide +kernel
theorem dX8_fit_74 : decode cX8_fit 74 = .ok (.getfield 7, 3) := by decide +kernel
theorem dX8_fit_77 : decode cX8_fit 77 = .ok (.if_icmp .ge 21, 3) := by decide +kernel
theorem dX8_fit_80 : decode cX8_fit 80 = .ok (.aload_n 0, 1) := by decide +kernel
theorem dX8_fit_81 : decode cX8_fit 81 = .ok (.getfield 52, 3) := by decide +kernel
theorem dX8_fit_84 : decode cX8_fit 84 = .ok (.iload_n 2, 1) := by decide +kernel
theorem dX8_fit_85 : decode cX8_fit 85 = .ok (.aload_n 0, 1) := by decide +kernel
theorem dX8_fit_86 : decode cX8_fit 86 = .ok (.getfield 73, 3) := by decide +kernel
theorem dX8_fit_89 : decode cX8_fit 89 = .ok (.iload_n 2, 1) := by decide +kernel
theorem dX8_fit_90 : decode cX8_fit 90 = .ok (.iaload, 1) := by decide +kernel
theorem dX8_fit_91 : decode cX8_fit 91 = .ok (.iastore, 1) := by decide +kernel
theorem dX8_fit_92 : decode cX8_fit 92 = .ok (.iinc 2 1, 3) := by decide +kernel
theorem dX8_fit_95 : decode cX8_fit 95 = .ok (.goto (-23), 3) := by decide +kernel
theorem dX8_fit_98 : decode cX8_fit 98 = .ok (.iconst (-1), 1) := by decide +kernel
theorem dX8_fit_99 : decode cX8_fit 99 = .ok (.ireturn, 1) := by decide +kernel
theorem dX8_fit_100 : decode cX8_fit 100 = .ok (.aload_n 0, 1) := by decide +kernel
theorem dX8_fit_101 : decode cX8_fit 101 = .ok (.iconst 0, 1) := by decide +kernel
theorem dX8_fit_102 : decode cX8_fit 102 = .ok (.putfield 91, 3) := by decide +kernel
theorem dX8_fit_105 : decode cX8_fit 105 = .ok (.iconst 0, 1) := by decide +kernel
theorem dX8_fit_106 : decode cX8_fit 106 = .ok (.istore_n 2, 1) := by decide +kernel
theorem dX8_fit_107 : decode cX8_fit 107 = .ok (.iconst 1, 1) := by decide +kernel
theorem dX8_fit_108 : decode cX8_fit 108 = .ok (.istore_n 3, 1) := by decide +kernel
theorem dX8_fit_109 : decode cX8_fit 109 = .ok (.iload_n 3, 1) := by decide +kernel
theorem dX8_fit_110 : decode cX8_fit 110 = .ok (.aload_n 0, 1) := by decide +kernel
theorem dX8_fit_111 : decode cX8_fit 111 = .ok (.getfield 7, 3) := by decide +kernel
theorem dX8_fit_114 : decode cX8_fit 114 = .ok (.if_icmp .ge 31, 3) := by decide +kernel
theorem dX8_fit_117 : decode cX8_fit 117 = .ok (.iload_n 2, 1) := by decide +kernel
theorem dX8_fit_118 : decode cX8_fit 118 = .ok (.aload_n 0, 1) := by decide +kernel
theorem dX8_fit_119 : decode cX8_fit 119 = .ok (.getfield 45, 3) := by decide +kernel
theorem dX8_fit_122 : decode cX8_fit 122 = .ok (.iload_n 3, 1) := by decide +kernel
theorem dX8_fit_123 : decode cX8_fit 123 = .ok (.baload, 1) := by decide +kernel
theorem dX8_fit_124 : decode cX8_fit 124 = .ok (.ifCond .eq 12, 3) := by decide +kernel
theorem dX8_fit_127 : decode cX8_fit 127 = .ok (.aload_n 0, 1) := by decide +kernel
theorem dX8_fit_128 : decode cX8_fit 128 = .ok (.getfield 52, 3) := by decide +kernel
theorem dX8_fit_131 : decode cX8_fit 131 = .ok (.iload_n 3, 1) := by decide +kernel
theorem dX8_fit_132 : decode cX8_fit 132 = .ok (.iaload, 1) := by decide +kernel
theorem dX8_fit_133 : decode cX8_fit 133 = .ok (.goto 4, 3) := by decide +kernel
theorem dX8_fit_136 : decode cX8_fit 136 = .ok (.iconst 0, 1) := by decide +kernel
theorem dX8_fit_137 : decode cX8_fit 137 = .ok (.iadd, 1) := by decide +kernel
theorem dX8_fit_138 : decode cX8_fit 138 = .ok (.istore_n 2, 1) := by decide +kernel
theorem dX8_fit_139 : decode cX8_fit 139 = .ok (.iinc 3 1, 3) := by decide +kernel
theorem dX8_fit_142 : decode cX8_fit 142 = .ok (.goto (-33), 3) := by decide +kernel
theorem dX8_fit_145 : decode cX8_fit 145 = .ok (.iload_n 2, 1) := by decide +kernel
theorem dX8_fit_146 : decode cX8_fit 146 = .ok (.ireturn, 1) := by decide +kernel
theorem dX8_growth_0 : decode cX8_growth 0 = .ok (.ldc 22, 2) := by decide +kernel
theorem dX8_growth_2 : decode cX8_growth 2 = .ok (.istore_n 1, 1) := by decide +kernel
theorem dX8_growth_3 : decode cX8_growth 3 = .ok (.iconst 1, 1) := by decide +kernel
theorem dX8_growth_4 : decode cX8_growth 4 = .ok (.istore_n 2, 1) := by decide +kernel
theorem dX8_growth_5 : decode cX8_growth 5 = .ok (.iload_n 2, 1) := by decide +kernel
theorem dX8_growth_6 : decode cX8_growth 6 = .ok (.aload_n 0, 1) := by decide +kernel
theorem dX8_growth_7 : decode cX8_growth 7 = .ok (.getfield 7, 3) := by decide +kernel
theorem dX8_growth_10 : decode cX8_growth 10 = .ok (.if_icmp .ge 111, 3) := by decide +kernel
theorem dX8_growth_13 : decode cX8_growth 13 = .ok (.aload_n 0, 1) := by decide +kernel
theorem dX8_growth_14 : decode cX8_growth 14 = .ok (.iload_n 2, 1) := by decide +kernel
theorem dX8_growth_15 : decode cX8_growth 15 = .ok (.invokevirtual 144, 3) := by decide +kernel
theorem dX8_growth_18 : decode cX8_growth 18 = .ok (.i2l, 1) := by decide +kernel
theorem dX8_growth_19 : decode cX8_growth 19 = .ok (.lstore_n 3, 1) := by decide +kernel
theorem dX8_growth_20 : decode cX8_growth 20 = .ok (.aload_n 0, 1) := by decide +kernel
theorem dX8_growth_21 : decode cX8_growth 21 = .ok (.getfield 45, 3) := by decide +kernel
theorem dX8_growth_24 : decode cX8_growth 24 = .ok (.iload_n 2, 1) := by decide +kernel
theorem dX8_growth_25 : decode cX8_growth 25 = .ok (.baload, 1) := by decide +kernel
theorem dX8_growth_26 : decode cX8_growth 26 = .ok (.ifCond .eq 89, 3) := by decide +kernel
theorem dX8_growth_29 : decode cX8_growth 29 = .ok (.aload_n 0, 1) := by decide +kernel
theorem dX8_growth_30 : decode cX8_growth 30 = .ok (.getfield 36, 3) := by decide +kernel
theorem dX8_growth_33 : decode cX8_growth 33 = .ok (.aload_n 0, 1) := by decide +kernel
theorem dX8_growth_34 : decode cX8_growth 34 = .ok (.getfield 49, 3) := by decide +kernel
theorem dX8_growth_37 : decode cX8_growth 37 = .ok (.iload_n 2, 1) := by decide +kernel
theorem dX8_growth_38 : decode cX8_growth 38 = .ok (.iaload, 1) := by decide +kernel
theorem dX8_growth_39 : decode cX8_growth 39 = .ok (.iaload, 1) := by decide +kernel
theorem dX8_growth_40 : decode cX8_growth 40 = .ok (.ifCond .eq 75, 3) := by decide +kernel
theorem dX8_growth_43 : decode cX8_growth 43 = .ok (.lload_n 3, 1) := by decide +kernel
theorem dX8_growth_44 : decode cX8_growth 44 = .ok (.lconst 0, 1) := by decide +kernel
theorem dX8_growth_45 : decode cX8_growth 45 = .ok (.lcmp, 1) := by decide +kernel
theorem dX8_growth_46 : decode cX8_growth 46 = .ok (.ifCond .ne 6, 3) := by decide +kernel
theorem dX8_growth_49 : decode cX8_growth 49 = .ok (.goto 66, 3) := by decide +kernel
theorem dX8_growth_52 : decode cX8_growth 52 = .ok (.ldc2_w 177, 3) := by decide +kernel
theorem dX8_growth_55 : decode cX8_growth 55 = .ok (.aload_n 0, 1) := by decide +kernel
theorem dX8_growth_56 : decode cX8_growth 56 = .ok (.getfield 55, 3) := by decide +kernel
theorem dX8_growth_59 : decode cX8_growth 59 = .ok (.iload_n 2, 1) := by decide +kernel
theorem dX8_growth_60 : decode cX8_growth 60 = .ok (.iaload, 1) := by decide +kernel
theorem dX8_growth_61 : decode cX8_growth 61 = .ok (.i2l, 1) := by decide +kernel
theorem dX8_growth_62 : decode cX8_growth 62 = .ok (.lmul, 1) := by decide +kernel
theorem dX8_growth_63 : decode cX8_growth 63 = .ok (.aload_n 0, 1) := by decide +kernel
theorem dX8_growth_64 : decode cX8_growth 64 = .ok (.getfield 39, 3) := by decide +kernel
theorem dX8_growth_67 : decode cX8_growth 67 = .ok (.bipush 8, 2) := by decide +kernel
theorem dX8_growth_69 : decode cX8_growth 69 = .ok (.aload_n 0, 1) := by decide +kernel
theorem dX8_growth_70 : decode cX8_growth 70 = .ok (.getfield 49, 3) := by decide +kernel
theorem dX8_growth_73 : decode cX8_growth 73 = .ok (.iload_n 2, 1) := by decide +kernel
theorem dX8_growth_74 : decode cX8_growth 74 = .ok (.iaload, 1) := by decide +kernel
theorem dX8_growth_75 : decode cX8_growth 75 = .ok (.imul, 1) := by decide +kernel
theorem dX8_growth_76 : decode cX8_growth 76 = .ok (.iaload, 1) := by decide +kernel
theorem dX8_growth_77 : decode cX8_growth 77 = .ok (.i2l, 1) := by decide +kernel
theorem dX8_growth_78 : decode cX8_growth 78 = .ok (.lmul, 1) := by decide +kernel
theorem dX8_growth_79 : decode cX8_growth 79 = .ok (.lstore 5, 2) := by decide +kernel
theorem dX8_growth_81 : decode cX8_growth 81 = .ok (.lload 5, 2) := by decide +kernel
theorem dX8_growth_83 : decode cX8_growth 83 = .ok (.ldc2_w 103, 3) := by decide +kernel
theorem dX8_growth_86 : decode cX8_growth 86 = .ok (.lload_n 3, 1) := by decide +kernel
theorem dX8_growth_87 : decode cX8_growth 87 = .ok (.lmul, 1) := by decide +kernel
theorem dX8_growth_88 : decode cX8_growth 88 = .ok (.ladd, 1) := by decide +kernel
theorem dX8_growth_89 : decode cX8_growth 89 = .ok (.lconst 1, 1) := by decide +kernel
theorem dX8_growth_90 : decode cX8_growth 90 = .ok (.lsub, 1) := by decide +kernel
theorem dX8_growth_91 : decode cX8_growth 91 = .ok (.ldc2_w 103, 3) := by decide +kernel
theorem dX8_growth_94 : decode cX8_growth 94 = .ok (.lload_n 3, 1) := by decide +kernel
theorem dX8_growth_95 : decode cX8_growth 95 = .ok (.lmul, 1) := by decide +kernel
theorem dX8_growth_96 : decode cX8_growth 96 = .ok (.ldiv, 1) := by decide +kernel
theorem dX8_growth_97 : decode cX8_growth 97 = .ok (.lstore 7, 2) := by decide +kernel
theorem dX8_growth_99 : decode cX8_growth 99 = .ok (.lload 7, 2) := by decide +kernel
theorem dX8_growth_101 : decode cX8_growth 101 = .ok (.lconst 1, 1) := by decide +kernel
theorem dX8_growth_102 : decode cX8_growth 102 = .ok (.lsub, 1) := by decide +kernel
theorem dX8_growth_103 : decode cX8_growth 103 = .ok (.iload_n 1, 1) := by decide +kernel
theorem dX8_growth_104 : decode cX8_growth 104 = .ok (.i2l, 1) := by decide +kernel
theorem dX8_growth_105 : decode cX8_growth 105 = .ok (.lcmp, 1) := by decide +kernel
theorem dX8_growth_106 : decode cX8_growth 106 = .ok (.ifCond .ge 9, 3) := by decide +kernel
theorem dX8_growth_109 : decode cX8_growth 109 = .ok (.lload 7, 2) := by decide +kernel
theorem dX8_growth_111 : decode cX8_growth 111 = .ok (.lconst 1, 1) := by decide +kernel
theorem dX8_growth_112 : decode cX8_growth 112 = .ok (.lsub, 1) := by decide +kernel
theorem dX8_growth_113 : decode cX8_growth 113 = .ok (.l2i, 1) := by decide +kernel
theorem dX8_growth_114 : decode cX8_growth 114 = .ok (.istore_n 1, 1) := by decide +kernel
theorem dX8_growth_115 : decode cX8_growth 115 = .ok (.iinc 2 1, 3) := by decide +kernel
theorem dX8_growth_118 : decode cX8_growth 118 = .ok (.goto (-113), 3) := by decide +kernel
theorem dX8_growth_121 : decode cX8_growth 121 = .ok (.iload_n 1, 1) := by decide +kernel
theorem dX8_growth_122 : decode cX8_growth 122 = .ok (.ireturn, 1) := by decide +kernel
theorem dX8_goal_0 : decode cX8_goal 0 = .ok (.aload_n 0, 1) := by decide +kernel
theorem dX8_goal_1 : decode cX8_goal 1 = .ok (.iconst 1, 1) := by decide +kernel
theorem dX8_goal_2 : decode cX8_goal 2 = .ok (.putfield 179, 3) := by decide +kernel
theorem dX8_goal_5 : decode cX8_goal 5 = .ok (.iconst 0, 1) := by decide +kernel
theorem dX8_goal_6 : decode cX8_goal 6 = .ok (.istore_n 1, 1) := by decide +kernel
theorem dX8_goal_7 : decode cX8_goal 7 = .ok (.iconst 0, 1) := by decide +kernel
theorem dX8_goal_8 : decode cX8_goal 8 = .ok (.istore_n 2, 1) := by decide +kernel
theorem dX8_goal_9 : decode cX8_goal 9 = .ok (.iload_n 2, 1) := by decide +kernel
theorem dX8_goal_10 : decode cX8_goal 10 = .ok (.bipush 30, 2) := by decide +kernel
theorem dX8_goal_12 : decode cX8_goal 12 = .ok (.if_icmp .ge 63, 3) := by decide +kernel
theorem dX8_goal_15 : decode cX8_goal 15 = .ok (.aload_n 0, 1) := by decide +kernel
theorem dX8_goal_16 : decode cX8_goal 16 = .ok (.getfield 61, 3) := by decide +kernel
theorem dX8_goal_19 : decode cX8_goal 19 = .ok (.iload_n 2, 1) := by decide +kernel
theorem dX8_goal_20 : decode cX8_goal 20 = .ok (.iload_n 2, 1) := by decide +kernel
theorem dX8_goal_21 : decode cX8_goal 21 = .ok (.ifCond .le 29, 3) := by decide +kernel
theorem dX8_goal_24 : decode cX8_goal 24 = .ok (.iload_n 2, 1) := by decide +kernel
theorem dX8_goal_25 : decode cX8_goal 25 = .ok (.aload_n 0, 1) := by decide +kernel
theorem dX8_goal_26 : decode cX8_goal 26 = .ok (.getfield 7, 3) := by decide +kernel
theorem dX8_goal_29 : decode cX8_goal 29 = .ok (.if_icmp .ge 21, 3) := by decide +kernel
theorem dX8_goal_32 : decode cX8_goal 32 = .ok (.aload_n 0, 1) := by decide +kernel
theorem dX8_goal_33 : decode cX8_goal 33 = .ok (.getfield 45, 3) := by decide +kernel
theorem dX8_goal_36 : decode cX8_goal 36 = .ok (.iload_n 2, 1) := by decide +kernel
theorem dX8_goal_37 : decode cX8_goal 37 = .ok (.baload, 1) := by decide +kernel
theorem dX8_goal_38 : decode cX8_goal 38 = .ok (.ifCond .eq 12, 3) := by decide +kernel
theorem dX8_goal_41 : decode cX8_goal 41 = .ok (.aload_n 0, 1) := by decide +kernel
theorem dX8_goal_42 : decode cX8_goal 42 = .ok (.getfield 52, 3) := by decide +kernel
theorem dX8_goal_45 : decode cX8_goal 45 = .ok (.iload_n 2, 1) := by decide +kernel
theorem dX8_goal_46 : decode cX8_goal 46 = .ok (.iaload, 1) := by decide +kernel
theorem dX8_goal_47 : decode cX8_goal 47 = .ok (.goto 4, 3) := by decide +kernel
theorem dX8_goal_50 : decode cX8_goal 50 = .ok (.iconst (-1), 1) := by decide +kernel
theorem dX8_goal_51 : decode cX8_goal 51 = .ok (.iastore, 1) := by decide +kernel
theorem dX8_goal_52 : decode cX8_goal 52 = .ok (.iload_n 1, 1) := by decide +kernel
theorem dX8_goal_53 : decode cX8_goal 53 = .ok (.aload_n 0, 1) := by decide +kernel
theorem dX8_goal_54 : decode cX8_goal 54 = .ok (.getfield 61, 3) := by decide +kernel
theorem dX8_goal_57 : decode cX8_goal 57 = .ok (.iload_n 2, 1) := by decide +kernel
theorem dX8_goal_58 : decode cX8_goal 58 = .ok (.iaload, 1) := by decide +kernel
theorem dX8_goal_59 : decode cX8_goal 59 = .ok (.ifCond .ge 7, 3) := by decide +kernel
theorem dX8_goal_62 : decode cX8_goal 62 = .ok (.iconst 0, 1) := by decide +kernel
theorem dX8_goal_63 : decode cX8_goal 63 = .ok (.goto 4, 3) := by decide +kernel
theorem dX8_goal_66 : decode cX8_goal 66 = .ok (.iconst 1, 1) := by decide +kernel
theorem dX8_goal_67 : decode cX8_goal 67 = .ok (.iadd, 1) := by decide +kernel
theorem dX8_goal_68 : decode cX8_goal 68 = .ok (.istore_n 1, 1) := by decide +kernel
theorem dX8_goal_69 : decode cX8_goal 69 = .ok (.iinc 2 1, 3) := by decide +kernel
theorem dX8_goal_72 : decode cX8_goal 72 = .ok (.goto (-63), 3) := by decide +kernel
theorem dX8_goal_75 : decode cX8_goal 75 = .ok (.iload_n 1, 1) := by decide +kernel
theorem dX8_goal_76 : decode cX8_goal 76 = .ok (.ireturn, 1) := by decide +kernel
theorem dX8_take_0 : decode cX8_take 0 = .ok (.iconst 0, 1) := by decide +kernel
theorem dX8_take_1 : decode cX8_take 1 = .ok (.istore_n 2, 1) := by decide +kernel
theorem dX8_take_2 : decode cX8_take 2 = .ok (.iload_n 2, 1) := by decide +kernel
theorem dX8_take_3 : decode cX8_take 3 = .ok (.aload_n 0, 1) := by decide +kernel
theorem dX8_take_4 : decode cX8_take 4 = .ok (.getfield 182, 3) := by decide +kernel
theorem dX8_take_7 : decode cX8_take 7 = .ok (.if_icmp .ge 54, 3) := by decide +kernel
theorem dX8_take_10 : decode cX8_take 10 = .ok (.aload_n 0, 1) := by decide +kernel
theorem dX8_take_11 : decode cX8_take 11 = .ok (.getfield 52, 3) := by decide +kernel
theorem dX8_take_14 : decode cX8_take 14 = .ok (.aload_n 0, 1) := by decide +kernel
theorem dX8_take_15 : decode cX8_take 15 = .ok (.getfield 76, 3) := by decide +kernel
theorem dX8_take_18 : decode cX8_take 18 = .ok (.iload_n 2, 1) := by decide +kernel
theorem dX8_take_19 : decode cX8_take 19 = .ok (.iaload, 1) := by decide +kernel
theorem dX8_take_20 : decode cX8_take 20 = .ok (.iload_n 1, 1) := by decide +kernel
theorem dX8_take_21 : decode cX8_take 21 = .ok (.iload_n 2, 1) := by decide +kernel
theorem dX8_take_22 : decode cX8_take 22 = .ok (.ishr, 1) := by decide +kernel
theorem dX8_take_23 : decode cX8_take 23 = .ok (.iconst 1, 1) := by decide +kernel
theorem dX8_take_24 : decode cX8_take 24 = .ok (.iand, 1) := by decide +kernel
theorem dX8_take_25 : decode cX8_take 25 = .ok (.iconst 1, 1) := by decide +kernel
theorem dX8_take_26 : decode cX8_take 26 = .ok (.if_icmp .ne 17, 3) := by decide +kernel
theorem dX8_take_29 : decode cX8_take 29 = .ok (.aload_n 0, 1) := by decide +kernel
theorem dX8_take_30 : decode cX8_take 30 = .ok (.getfield 61, 3) := by decide +kernel
theorem dX8_take_33 : decode cX8_take 33 = .ok (.aload_n 0, 1) := by decide +kernel
theorem dX8_take_34 : decode cX8_take 34 = .ok (.getfield 76, 3) := by decide +kernel
theorem dX8_take_37 : decode cX8_take 37 = .ok (.iload_n 2, 1) := by decide +kernel
theorem dX8_take_38 : decode cX8_take 38 = .ok (.iaload, 1) := by decide +kernel
theorem dX8_take_39 : decode cX8_take 39 = .ok (.iaload, 1) := by decide +kernel
theorem dX8_take_40 : decode cX8_take 40 = .ok (.goto 14, 3) := by decide +kernel
theorem dX8_take_43 : decode cX8_take 43 = .ok (.aload_n 0, 1) := by decide +kernel
theorem dX8_take_44 : decode cX8_take 44 = .ok (.getfield 73, 3) := by decide +kernel
theorem dX8_take_47 : decode cX8_take 47 = .ok (.aload_n 0, 1) := by decide +kernel
theorem dX8_take_48 : decode cX8_take 48 = .ok (.getfield 76, 3) := by decide +kernel
theorem dX8_take_51 : decode cX8_take 51 = .ok (.iload_n 2, 1) := by decide +kernel
theorem dX8_take_52 : decode cX8_take 52 = .ok (.iaload, 1) := by decide +kernel
theorem dX8_take_53 : decode cX8_take 53 = .ok (.iaload, 1) := by decide +kernel
theorem dX8_take_54 : decode cX8_take 54 = .ok (.iastore, 1) := by decide +kernel
theorem dX8_take_55 : decode cX8_take 55 = .ok (.iinc 2 1, 3) := by decide +kernel
theorem dX8_take_58 : decode cX8_take 58 = .ok (.goto (-56), 3) := by decide +kernel
theorem dX8_take_61 : decode cX8_take 61 = .ok (.return_, 1) := by decide +kernel
theorem dX8_change_0 : decode cX8_change 0 = .ok (.aload_n 0, 1) := by decide +kernel
theorem dX8_change_1 : decode cX8_change 1 = .ok (.getfield 179, 3) := by decide +kernel
theorem dX8_change_4 : decode cX8_change 4 = .ok (.ifCond .ne 5, 3) := by decide +kernel
theorem dX8_change_7 : decode cX8_change 7 = .ok (.iconst (-1), 1) := by decide +kernel
theorem dX8_change_8 : decode cX8_change 8 = .ok (.ireturn, 1) := by decide +kernel
theorem dX8_change_9 : decode cX8_change 9 = .ok (.aload_n 0, 1) := by decide +kernel
theorem dX8_change_10 : decode cX8_change 10 = .ok (.iconst 0, 1) := by decide +kernel
theorem dX8_change_11 : decode cX8_change 11 = .ok (.putfield 182, 3) := by decide +kernel
theorem dX8_change_14 : decode cX8_change 14 = .ok (.iconst 1, 1) := by decide +kernel
theorem dX8_change_15 : decode cX8_change 15 = .ok (.istore_n 1, 1) := by decide +kernel
theorem dX8_change_16 : decode cX8_change 16 = .ok (.iload_n 1, 1) := by decide +kernel
theorem dX8_change_17 : decode cX8_change 17 = .ok (.aload_n 0, 1) := by decide +kernel
theorem dX8_change_18 : decode cX8_change 18 = .ok (.getfield 7, 3) := by decide +kernel
theorem dX8_change_21 : decode cX8_change 21 = .ok (.if_icmp .ge 65, 3) := by decide +kernel
theorem dX8_change_24 : decode cX8_change 24 = .ok (.aload_n 0, 1) := by decide +kernel
theorem dX8_change_25 : decode cX8_change 25 = .ok (.getfield 45, 3) := by decide +kernel
theorem dX8_change_28 : decode cX8_change 28 = .ok (.iload_n 1, 1) := by decide +kernel
theorem dX8_change_29 : decode cX8_change 29 = .ok (.baload, 1) := by decide +kernel
theorem dX8_change_30 : decode cX8_change 30 = .ok (.ifCond .eq 50, 3) := by decide +kernel
theorem dX8_change_33 : decode cX8_change 33 = .ok (.aload_n 0, 1) := by decide +kernel
theorem dX8_change_34 : decode cX8_change 34 = .ok (.getfield 61, 3) := by decide +kernel
theorem dX8_change_37 : decode cX8_change 37 = .ok (.iload_n 1, 1) := by decide +kernel
theorem dX8_change_38 : decode cX8_change 38 = .ok (.iaload, 1) := by decide +kernel
theorem dX8_change_39 : decode cX8_change 39 = .ok (.ifCond .lt 41, 3) := by decide +kernel
theorem dX8_change_42 : decode cX8_change 42 = .ok (.aload_n 0, 1) := by decide +kernel
theorem dX8_change_43 : decode cX8_change 43 = .ok (.getfield 61, 3) := by decide +kernel
theorem dX8_change_46 : decode cX8_change 46 = .ok (.iload_n 1, 1) := by decide +kernel
theorem dX8_change_47 : decode cX8_change 47 = .ok (.iaload, 1) := by decide +kernel
theorem dX8_change_48 : decode cX8_change 48 = .ok (.aload_n 0, 1) := by decide +kernel
theorem dX8_change_49 : decode cX8_change 49 = .ok (.getfield 52, 3) := by decide +kernel
theorem dX8_change_52 : decode cX8_change 52 = .ok (.iload_n 1, 1) := by decide +kernel
theorem dX8_change_53 : decode cX8_change 53 = .ok (.iaload, 1) := by decide +kernel
theorem dX8_change_54 : decode cX8_change 54 = .ok (.if_icmp .ne 6, 3) := by decide +kernel
theorem dX8_change_57 : decode cX8_change 57 = .ok (.goto 23, 3) := by decide +kernel
theorem dX8_change_60 : decode cX8_change 60 = .ok (.aload_n 0, 1) := by decide +kernel
theorem dX8_change_61 : decode cX8_change 61 = .ok (.getfield 76, 3) := by decide +kernel
theorem dX8_change_64 : decode cX8_change 64 = .ok (.aload_n 0, 1) := by decide +kernel
theorem dX8_change_65 : decode cX8_change 65 = .ok (.getfield 182, 3) := by decide +kernel
theorem dX8_change_68 : decode cX8_change 68 = .ok (.iload_n 1, 1) := by decide +kernel
theorem dX8_change_69 : decode cX8_change 69 = .ok (.iastore, 1) := by decide +kernel
theorem dX8_change_70 : decode cX8_change 70 = .ok (.aload_n 0, 1) := by decide +kernel
theorem dX8_change_71 : decode cX8_change 71 = .ok (.dup, 1) := by decide +kernel
theorem dX8_change_72 : decode cX8_change 72 = .ok (.getfield 182, 3) := by decide +kernel
theorem dX8_change_75 : decode cX8_change 75 = .ok (.iconst 1, 1) := by decide +kernel
theorem dX8_change_76 : decode cX8_change 76 = .ok (.iadd, 1) := by decide +kernel
theorem dX8_change_77 : decode cX8_change 77 = .ok (.putfield 182, 3) := by decide +kernel
theorem dX8_change_80 : decode cX8_change 80 = .ok (.iinc 1 1, 3) := by decide +kernel
theorem dX8_change_83 : decode cX8_change 83 = .ok (.goto (-67), 3) := by decide +kernel
theorem dX8_change_86 : decode cX8_change 86 = .ok (.aload_n 0, 1) := by decide +kernel
theorem dX8_change_87 : decode cX8_change 87 = .ok (.getfield 182, 3) := by decide +kernel
theorem dX8_change_90 : decode cX8_change 90 = .ok (.bipush 10, 2) := by decide +kernel
theorem dX8_change_92 : decode cX8_change 92 = .ok (.if_icmp .le 5, 3) := by decide +kernel
theorem dX8_change_95 : decode cX8_change 95 = .ok (.iconst (-1), 1) := by decide +kernel
theorem dX8_change_96 : decode cX8_change 96 = .ok (.ireturn, 1) := by decide +kernel
theorem dX8_change_97 : decode cX8_change 97 = .ok (.iconst 0, 1) := by decide +kernel
theorem dX8_change_98 : decode cX8_change 98 = .ok (.istore_n 1, 1) := by decide +kernel
theorem dX8_change_99 : decode cX8_change 99 = .ok (.iload_n 1, 1) := by decide +kernel
theorem dX8_change_100 : decode cX8_change 100 = .ok (.aload_n 0, 1) := by decide +kernel
theorem dX8_change_101 : decode cX8_change 101 = .ok (.getfield 182, 3) := by decide +kernel
theorem dX8_change_104 : decode cX8_change 104 = .ok (.if_icmp .ge 31, 3) := by decide +kernel
theorem dX8_change_107 : decode cX8_change 107 = .ok (.aload_n 0, 1) := by decide +kernel
theorem dX8_change_108 : decode cX8_change 108 = .ok (.getfield 73, 3) := by decide +kernel
theorem dX8_change_111 : decode cX8_change 111 = .ok (.aload_n 0, 1) := by decide +kernel
theorem dX8_change_112 : decode cX8_change 112 = .ok (.getfield 76, 3) := by decide +kernel
theorem dX8_change_115 : decode cX8_change 115 = .ok (.iload_n 1, 1) := by decide +kernel
theorem dX8_change_116 : decode cX8_change 116 = .ok (.iaload, 1) := by decide +kernel
theorem dX8_change_117 : decode cX8_change 117 = .ok (.aload_n 0, 1) := by decide +kernel
theorem dX8_change_118 : decode cX8_change 118 = .ok (.getfield 52, 3) := by decide +kernel
theorem dX8_change_121 : decode cX8_change 121 = .ok (.aload_n 0, 1) := by decide +kernel
theorem dX8_change_122 : decode cX8_change 122 = .ok (.getfield 76, 3) := by decide +kernel
theorem dX8_change_125 : decode cX8_change 125 = .ok (.iload_n 1, 1) := by decide +kernel
theorem dX8_change_126 : decode cX8_change 126 = .ok (.iaload, 1) := by decide +kernel
theorem dX8_change_127 : decode cX8_change 127 = .ok (.iaload, 1) := by decide +kernel
theorem dX8_change_128 : decode cX8_change 128 = .ok (.iastore, 1) := by decide +kernel
theorem dX8_change_129 : decode cX8_change 129 = .ok (.iinc 1 1, 3) := by decide +kernel
theorem dX8_change_132 : decode cX8_change 132 = .ok (.goto (-33), 3) := by decide +kernel
theorem dX8_change_135 : decode cX8_change 135 = .ok (.iconst 1, 1) := by decide +kernel
theorem dX8_change_136 : decode cX8_change 136 = .ok (.aload_n 0, 1) := by decide +kernel
theorem dX8_change_137 : decode cX8_change 137 = .ok (.getfield 182, 3) := by decide +kernel
theorem dX8_change_140 : decode cX8_change 140 = .ok (.ishl, 1) := by decide +kernel
theorem dX8_change_141 : decode cX8_change 141 = .ok (.iconst 1, 1) := by decide +kernel
theorem dX8_change_142 : decode cX8_change 142 = .ok (.isub, 1) := by decide +kernel
theorem dX8_change_143 : decode cX8_change 143 = .ok (.istore_n 1, 1) := by decide +kernel
theorem dX8_change_144 : decode cX8_change 144 = .ok (.iload_n 1, 1) := by decide +kernel
theorem dX8_change_145 : decode cX8_change 145 = .ok (.istore_n 2, 1) := by decide +kernel
theorem dX8_change_146 : decode cX8_change 146 = .ok (.iload_n 2, 1) := by decide +kernel
theorem dX8_change_147 : decode cX8_change 147 = .ok (.ifCond .lt 100, 3) := by decide +kernel
theorem dX8_change_150 : decode cX8_change 150 = .ok (.iload_n 2, 1) := by decide +kernel
theorem dX8_change_151 : decode cX8_change 151 = .ok (.iload_n 1, 1) := by decide +kernel
theorem dX8_change_152 : decode cX8_change 152 = .ok (.if_icmp .ne 7, 3) := by decide +kernel
theorem dX8_change_155 : decode cX8_change 155 = .ok (.iconst 1, 1) := by decide +kernel
theorem dX8_change_156 : decode cX8_change 156 = .ok (.goto 4, 3) := by decide +kernel
theorem dX8_change_159 : decode cX8_change 159 = .ok (.iconst 0, 1) := by decide +kernel
theorem dX8_change_160 : decode cX8_change 160 = .ok (.istore_n 3, 1) := by decide +kernel
theorem dX8_change_161 : decode cX8_change 161 = .ok (.iconst 0, 1) := by decide +kernel
theorem dX8_change_162 : decode cX8_change 162 = .ok (.istore 4, 2) := by decide +kernel
theorem dX8_change_164 : decode cX8_change 164 = .ok (.iload 4, 2) := by decide +kernel
theorem dX8_change_166 : decode cX8_change 166 = .ok (.aload_n 0, 1) := by decide +kernel
theorem dX8_change_167 : decode cX8_change 167 = .ok (.getfield 182, 3) := by decide +kernel
theorem dX8_change_170 : decode cX8_change 170 = .ok (.if_icmp .ge 43, 3) := by decide +kernel
theorem dX8_change_173 : decode cX8_change 173 = .ok (.iload_n 3, 1) := by decide +kernel
theorem dX8_change_174 : decode cX8_change 174 = .ok (.ifCond .ne 27, 3) := by decide +kernel
theorem dX8_change_177 : decode cX8_change 177 = .ok (.iload_n 2, 1) := by decide +kernel
theorem dX8_change_178 : decode cX8_change 178 = .ok (.iload 4, 2) := by decide +kernel
theorem dX8_change_180 : decode cX8_change 180 = .ok (.ishr, 1) := by decide +kernel
theorem dX8_change_181 : decode cX8_change 181 = .ok (.iconst 1, 1) := by decide +kernel
theorem dX8_change_182 : decode cX8_change 182 = .ok (.iand, 1) := by decide +kernel
theorem dX8_change_183 : decode cX8_change 183 = .ok (.ifCond .ne 22, 3) := by decide +kernel
theorem dX8_change_186 : decode cX8_change 186 = .ok (.aload_n 0, 1) := by decide +kernel
theorem dX8_change_187 : decode cX8_change 187 = .ok (.getfield 79, 3) := by decide +kernel
theorem dX8_change_190 : decode cX8_change 190 = .ok (.iload_n 2, 1) := by decide +kernel
theorem dX8_change_191 : decode cX8_change 191 = .ok (.iconst 1, 1) := by decide +kernel
theorem dX8_change_192 : decode cX8_change 192 = .ok (.iload 4, 2) := by decide +kernel
theorem dX8_change_194 : decode cX8_change 194 = .ok (.ishl, 1) := by decide +kernel
theorem dX8_change_195 : decode cX8_change 195 = .ok (.ior, 1) := by decide +kernel
theorem dX8_change_196 : decode cX8_change 196 = .ok (.baload, 1) := by decide +kernel
theorem dX8_change_197 : decode cX8_change 197 = .ok (.iconst 1, 1) := by decide +kernel
theorem dX8_change_198 : decode cX8_change 198 = .ok (.if_icmp .ne 7, 3) := by decide +kernel
theorem dX8_change_201 : decode cX8_change 201 = .ok (.iconst 1, 1) := by decide +kernel
theorem dX8_change_202 : decode cX8_change 202 = .ok (.goto 4, 3) := by decide +kernel
theorem dX8_change_205 : decode cX8_change 205 = .ok (.iconst 0, 1) := by decide +kernel
theorem dX8_change_206 : decode cX8_change 206 = .ok (.istore_n 3, 1) := by decide +kernel
theorem dX8_change_207 : decode cX8_change 207 = .ok (.iinc 4 1, 3) := by decide +kernel
theorem dX8_change_210 : decode cX8_change 210 = .ok (.goto (-46), 3) := by decide +kernel
theorem dX8_change_213 : decode cX8_change 213 = .ok (.aload_n 0, 1) := by decide +kernel
theorem dX8_change_214 : decode cX8_change 214 = .ok (.iload_n 2, 1) := by decide +kernel
theorem dX8_change_215 : decode cX8_change 215 = .ok (.invokevirtual 185, 3) := by decide +kernel
theorem dX8_change_218 : decode cX8_change 218 = .ok (.aload_n 0, 1) := by decide +kernel
theorem dX8_change_219 : decode cX8_change 219 = .ok (.getfield 79, 3) := by decide +kernel
theorem dX8_change_222 : decode cX8_change 222 = .ok (.iload_n 2, 1) := by decide +kernel
theorem dX8_change_223 : decode cX8_change 223 = .ok (.iload_n 3, 1) := by decide +kernel
theorem dX8_change_224 : decode cX8_change 224 = .ok (.ifCond .eq 14, 3) := by decide +kernel
theorem dX8_change_227 : decode cX8_change 227 = .ok (.aload_n 0, 1) := by decide +kernel
theorem dX8_change_228 : decode cX8_change 228 = .ok (.invokevirtual 169, 3) := by decide +kernel
theorem dX8_change_231 : decode cX8_change 231 = .ok (.ifCond .eq 7, 3) := by decide +kernel
theorem dX8_change_234 : decode cX8_change 234 = .ok (.iconst 1, 1) := by decide +kernel
theorem dX8_change_235 : decode cX8_change 235 = .ok (.goto 4, 3) := by decide +kernel
theorem dX8_change_238 : decode cX8_change 238 = .ok (.iconst 2, 1) := by decide +kernel
theorem dX8_change_239 : decode cX8_change 239 = .ok (.i2b, 1) := by decide +kernel
theorem dX8_change_240 : decode cX8_change 240 = .ok (.bastore, 1) := by decide +kernel
theorem dX8_change_241 : decode cX8_change 241 = .ok (.iinc 2 (-1), 3) := by decide +kernel
theorem dX8_change_244 : decode cX8_change 244 = .ok (.goto (-98), 3) := by decide +kernel
theorem dX8_change_247 : decode cX8_change 247 = .ok (.aload_n 0, 1) := by decide +kernel
theorem dX8_change_248 : decode cX8_change 248 = .ok (.iconst 0, 1) := by decide +kernel
theorem dX8_change_249 : decode cX8_change 249 = .ok (.invokevirtual 185, 3) := by decide +kernel
theorem dX8_change_252 : decode cX8_change 252 = .ok (.aload_n 0, 1) := by decide +kernel
theorem dX8_change_253 : decode cX8_change 253 = .ok (.getfield 79, 3) := by decide +kernel
theorem dX8_change_256 : decode cX8_change 256 = .ok (.iconst 0, 1) := by decide +kernel
theorem dX8_change_257 : decode cX8_change 257 = .ok (.baload, 1) := by decide +kernel
theorem dX8_change_258 : decode cX8_change 258 = .ok (.iconst 1, 1) := by decide +kernel
theorem dX8_change_259 : decode cX8_change 259 = .ok (.if_icmp .eq 5, 3) := by decide +kernel
theorem dX8_change_262 : decode cX8_change 262 = .ok (.iconst (-1), 1) := by decide +kernel
theorem dX8_change_263 : decode cX8_change 263 = .ok (.ireturn, 1) := by decide +kernel
theorem dX8_change_264 : decode cX8_change 264 = .ok (.aload_n 0, 1) := by decide +kernel
theorem dX8_change_265 : decode cX8_change 265 = .ok (.iconst 0, 1) := by decide +kernel
theorem dX8_change_266 : decode cX8_change 266 = .ok (.putfield 189, 3) := by decide +kernel
theorem dX8_change_269 : decode cX8_change 269 = .ok (.iconst 0, 1) := by decide +kernel
theorem dX8_change_270 : decode cX8_change 270 = .ok (.istore_n 2, 1) := by decide +kernel
theorem dX8_change_271 : decode cX8_change 271 = .ok (.iload_n 2, 1) := by decide +kernel
theorem dX8_change_272 : decode cX8_change 272 = .ok (.iload_n 1, 1) := by decide +kernel
theorem dX8_change_273 : decode cX8_change 273 = .ok (.if_icmp .eq 68, 3) := by decide +kernel
theorem dX8_change_276 : decode cX8_change 276 = .ok (.iconst 0, 1) := by decide +kernel
theorem dX8_change_277 : decode cX8_change 277 = .ok (.istore_n 3, 1) := by decide +kernel
theorem dX8_change_278 : decode cX8_change 278 = .ok (.iload_n 2, 1) := by decide +kernel
theorem dX8_change_279 : decode cX8_change 279 = .ok (.iload_n 3, 1) := by decide +kernel
theorem dX8_change_280 : decode cX8_change 280 = .ok (.ishr, 1) := by decide +kernel
theorem dX8_change_281 : decode cX8_change 281 = .ok (.iconst 1, 1) := by decide +kernel
theorem dX8_change_282 : decode cX8_change 282 = .ok (.iand, 1) := by decide +kernel
theorem dX8_change_283 : decode cX8_change 283 = .ok (.iconst 1, 1) := by decide +kernel
theorem dX8_change_284 : decode cX8_change 284 = .ok (.if_icmp .eq 17, 3) := by decide +kernel
theorem dX8_change_287 : decode cX8_change 287 = .ok (.aload_n 0, 1) := by decide +kernel
theorem dX8_change_288 : decode cX8_change 288 = .ok (.getfield 79, 3) := by decide +kernel
theorem dX8_change_291 : decode cX8_change 291 = .ok (.iload_n 2, 1) := by decide +kernel
theorem dX8_change_292 : decode cX8_change 292 = .ok (.iconst 1, 1) := by decide +kernel
theorem dX8_change_293 : decode cX8_change 293 = .ok (.iload_n 3, 1) := by decide +kernel
theorem dX8_change_294 : decode cX8_change 294 = .ok (.ishl, 1) := by decide +kernel
theorem dX8_change_295 : decode cX8_change 295 = .ok (.ior, 1) := by decide +kernel
theorem dX8_change_296 : decode cX8_change 296 = .ok (.baload, 1) := by decide +kernel
theorem dX8_change_297 : decode cX8_change 297 = .ok (.iconst 1, 1) := by decide +kernel
theorem dX8_change_298 : decode cX8_change 298 = .ok (.if_icmp .eq 9, 3) := by decide +kernel
theorem dX8_change_301 : decode cX8_change 301 = .ok (.iinc 3 1, 3) := by decide +kernel
theorem dX8_change_304 : decode cX8_change 304 = .ok (.goto (-26), 3) := by decide +kernel
theorem dX8_change_307 : decode cX8_change 307 = .ok (.aload_n 0, 1) := by decide +kernel
theorem dX8_change_308 : decode cX8_change 308 = .ok (.getfield 70, 3) := by decide +kernel
theorem dX8_change_311 : decode cX8_change 311 = .ok (.aload_n 0, 1) := by decide +kernel
theorem dX8_change_312 : decode cX8_change 312 = .ok (.getfield 189, 3) := by decide +kernel
theorem dX8_change_315 : decode cX8_change 315 = .ok (.aload_n 0, 1) := by decide +kernel
theorem dX8_change_316 : decode cX8_change 316 = .ok (.getfield 76, 3) := by decide +kernel
theorem dX8_change_319 : decode cX8_change 319 = .ok (.iload_n 3, 1) := by decide +kernel
theorem dX8_change_320 : decode cX8_change 320 = .ok (.iaload, 1) := by decide +kernel
theorem dX8_change_321 : decode cX8_change 321 = .ok (.iastore, 1) := by decide +kernel
theorem dX8_change_322 : decode cX8_change 322 = .ok (.aload_n 0, 1) := by decide +kernel
theorem dX8_change_323 : decode cX8_change 323 = .ok (.dup, 1) := by decide +kernel
theorem dX8_change_324 : decode cX8_change 324 = .ok (.getfield 189, 3) := by decide +kernel
theorem dX8_change_327 : decode cX8_change 327 = .ok (.iconst 1, 1) := by decide +kernel
theorem dX8_change_328 : decode cX8_change 328 = .ok (.iadd, 1) := by decide +kernel
theorem dX8_change_329 : decode cX8_change 329 = .ok (.putfield 189, 3) := by decide +kernel
theorem dX8_change_332 : decode cX8_change 332 = .ok (.iload_n 2, 1) := by decide +kernel
theorem dX8_change_333 : decode cX8_change 333 = .ok (.iconst 1, 1) := by decide +kernel
theorem dX8_change_334 : decode cX8_change 334 = .ok (.iload_n 3, 1) := by decide +kernel
theorem dX8_change_335 : decode cX8_change 335 = .ok (.ishl, 1) := by decide +kernel
theorem dX8_change_336 : decode cX8_change 336 = .ok (.ior, 1) := by decide +kernel
theorem dX8_change_337 : decode cX8_change 337 = .ok (.istore_n 2, 1) := by decide +kernel
theorem dX8_change_338 : decode cX8_change 338 = .ok (.goto (-67), 3) := by decide +kernel
theorem dX8_change_341 : decode cX8_change 341 = .ok (.aload_n 0, 1) := by decide +kernel
theorem dX8_change_342 : decode cX8_change 342 = .ok (.getfield 189, 3) := by decide +kernel
theorem dX8_change_345 : decode cX8_change 345 = .ok (.ireturn, 1) := by decide +kernel
theorem dX8_step_0 : decode cX8_step 0 = .ok (.iload_n 1, 1) := by decide +kernel
theorem dX8_step_1 : decode cX8_step 1 = .ok (.iconst 0, 1) := by decide +kernel
theorem dX8_step_2 : decode cX8_step 2 = .ok (.aload_n 0, 1) := by decide +kernel
theorem dX8_step_3 : decode cX8_step 3 = .ok (.getfield 189, 3) := by decide +kernel
theorem dX8_step_6 : decode cX8_step 6 = .ok (.iconst 1, 1) := by decide +kernel
theorem dX8_step_7 : decode cX8_step 7 = .ok (.isub, 1) := by decide +kernel
theorem dX8_step_8 : decode cX8_step 8 = .ok (.invokestatic 83, 3) := by decide +kernel
theorem dX8_step_11 : decode cX8_step 11 = .ok (.ifCond .eq 12, 3) := by decide +kernel
theorem dX8_step_14 : decode cX8_step 14 = .ok (.aload_n 0, 1) := by decide +kernel
theorem dX8_step_15 : decode cX8_step 15 = .ok (.getfield 70, 3) := by decide +kernel
theorem dX8_step_18 : decode cX8_step 18 = .ok (.iload_n 1, 1) := by decide +kernel
theorem dX8_step_19 : decode cX8_step 19 = .ok (.iaload, 1) := by decide +kernel
theorem dX8_step_20 : decode cX8_step 20 = .ok (.goto 4, 3) := by decide +kernel
theorem dX8_step_23 : decode cX8_step 23 = .ok (.iconst (-1), 1) := by decide +kernel
theorem dX8_step_24 : decode cX8_step 24 = .ok (.ireturn, 1) := by decide +kernel
theorem dX8_about_0 : decode cX8_about 0 = .ok (.iconst 0, 1) := by decide +kernel
theorem dX8_about_1 : decode cX8_about 1 = .ok (.istore_n 2, 1) := by decide +kernel
theorem dX8_about_2 : decode cX8_about 2 = .ok (.iconst 1, 1) := by decide +kernel
theorem dX8_about_3 : decode cX8_about 3 = .ok (.istore_n 3, 1) := by decide +kernel
theorem dX8_about_4 : decode cX8_about 4 = .ok (.iload_n 3, 1) := by decide +kernel
theorem dX8_about_5 : decode cX8_about 5 = .ok (.aload_n 0, 1) := by decide +kernel
theorem dX8_about_6 : decode cX8_about 6 = .ok (.getfield 7, 3) := by decide +kernel
theorem dX8_about_9 : decode cX8_about 9 = .ok (.if_icmp .ge 26, 3) := by decide +kernel
theorem dX8_about_12 : decode cX8_about 12 = .ok (.iload_n 2, 1) := by decide +kernel
theorem dX8_about_13 : decode cX8_about 13 = .ok (.aload_n 0, 1) := by decide +kernel
theorem dX8_about_14 : decode cX8_about 14 = .ok (.getfield 45, 3) := by decide +kernel
theorem dX8_about_17 : decode cX8_about 17 = .ok (.iload_n 3, 1) := by decide +kernel
theorem dX8_about_18 : decode cX8_about 18 = .ok (.baload, 1) := by decide +kernel
theorem dX8_about_19 : decode cX8_about 19 = .ok (.ifCond .eq 7, 3) := by decide +kernel
theorem dX8_about_22 : decode cX8_about 22 = .ok (.iconst 1, 1) := by decide +kernel
theorem dX8_about_23 : decode cX8_about 23 = .ok (.goto 4, 3) := by decide +kernel
theorem dX8_about_26 : decode cX8_about 26 = .ok (.iconst 0, 1) := by decide +kernel
theorem dX8_about_27 : decode cX8_about 27 = .ok (.iadd, 1) := by decide +kernel
theorem dX8_about_28 : decode cX8_about 28 = .ok (.istore_n 2, 1) := by decide +kernel
theorem dX8_about_29 : decode cX8_about 29 = .ok (.iinc 3 1, 3) := by decide +kernel
theorem dX8_about_32 : decode cX8_about 32 = .ok (.goto (-28), 3) := by decide +kernel
theorem dX8_about_35 : decode cX8_about 35 = .ok (.iload_n 1, 1) := by decide +kernel
theorem dX8_about_36 : decode cX8_about 36 = .ok (.tableswitch 102 0 8 #[52, 57, 59, 64, 69, 74, 79, 84, 97], 52) := by decide +kernel
theorem dX8_about_88 : decode cX8_about 88 = .ok (.aload_n 0, 1) := by decide +kernel
theorem dX8_about_89 : decode cX8_about 89 = .ok (.getfield 7, 3) := by decide +kernel
theorem dX8_about_92 : decode cX8_about 92 = .ok (.ireturn, 1) := by decide +kernel
theorem dX8_about_93 : decode cX8_about 93 = .ok (.iload_n 2, 1) := by decide +kernel
theorem dX8_about_94 : decode cX8_about 94 = .ok (.ireturn, 1) := by decide +kernel
theorem dX8_about_95 : decode cX8_about 95 = .ok (.aload_n 0, 1) := by decide +kernel
theorem dX8_about_96 : decode cX8_about 96 = .ok (.getfield 13, 3) := by decide +kernel
theorem dX8_about_99 : decode cX8_about 99 = .ok (.ireturn, 1) := by decide +kernel
theorem dX8_about_100 : decode cX8_about 100 = .ok (.aload_n 0, 1) := by decide +kernel
theorem dX8_about_101 : decode cX8_about 101 = .ok (.getfield 16, 3) := by decide +kernel
theorem dX8_about_104 : decode cX8_about 104 = .ok (.ireturn, 1) := by decide +kernel
theorem dX8_about_105 : decode cX8_about 105 = .ok (.aload_n 0, 1) := by decide +kernel
theorem dX8_about_106 : decode cX8_about 106 = .ok (.getfield 19, 3) := by decide +kernel
theorem dX8_about_109 : decode cX8_about 109 = .ok (.ireturn, 1) := by decide +kernel
theorem dX8_about_110 : decode cX8_about 110 = .ok (.aload_n 0, 1) := by decide +kernel
theorem dX8_about_111 : decode cX8_about 111 = .ok (.getfield 23, 3) := by decide +kernel
theorem dX8_about_114 : decode cX8_about 114 = .ok (.ireturn, 1) := by decide +kernel
theorem dX8_about_115 : decode cX8_about 115 = .ok (.aload_n 0, 1) := by decide +kernel
theorem dX8_about_116 : decode cX8_about 116 = .ok (.getfield 98, 3) := by decide +kernel
theorem dX8_about_119 : decode cX8_about 119 = .ok (.ireturn, 1) := by decide +kernel
theorem dX8_about_120 : decode cX8_about 120 = .ok (.aload_n 0, 1) := by decide +kernel
theorem dX8_about_121 : decode cX8_about 121 = .ok (.getfield 179, 3) := by decide +kernel
theorem dX8_about_124 : decode cX8_about 124 = .ok (.ifCond .eq 7, 3) := by decide +kernel
theorem dX8_about_127 : decode cX8_about 127 = .ok (.iconst 1, 1) := by decide +kernel
theorem dX8_about_128 : decode cX8_about 128 = .ok (.goto 4, 3) := by decide +kernel
theorem dX8_about_131 : decode cX8_about 131 = .ok (.iconst 0, 1) := by decide +kernel
theorem dX8_about_132 : decode cX8_about 132 = .ok (.ireturn, 1) := by decide +kernel
theorem dX8_about_133 : decode cX8_about 133 = .ok (.aload_n 0, 1) := by decide +kernel
theorem dX8_about_134 : decode cX8_about 134 = .ok (.getfield 189, 3) := by decide +kernel
theorem dX8_about_137 : decode cX8_about 137 = .ok (.ireturn, 1) := by decide +kernel
theorem dX8_about_138 : decode cX8_about 138 = .ok (.iconst (-1), 1) := by decide +kernel
theorem dX8_about_139 : decode cX8_about 139 = .ok (.ireturn, 1) := by decide +kernel
end
section
theorem dL_law_0 : decode cL_law 0 = .ok (.new 7, 3) := by decide +kernel
theorem dL_law_3 : decode cL_law 3 = .ok (.dup, 1) := by decide +kernel
theorem dL_law_4 : decode cL_law 4 = .ok (.invokespecial 9, 3) := by decide +kernel
theorem dL_law_7 : decode cL_law 7 = .ok (.astore_n 1, 1) := by decide +kernel
theorem dL_law_8 : decode cL_law 8 = .ok (.new 10, 3) := by decide +kernel
theorem dL_law_11 : decode cL_law 11 = .ok (.dup, 1) := by decide +kernel
theorem dL_law_12 : decode cL_law 12 = .ok (.invokespecial 12, 3) := by decide +kernel
theorem dL_law_15 : decode cL_law 15 = .ok (.astore_n 2, 1) := by decide +kernel
theorem dL_law_16 : decode cL_law 16 = .ok (.iconst 0, 1) := by decide +kernel
theorem dL_law_17 : decode cL_law 17 = .ok (.istore_n 3, 1) := by decide +kernel
theorem dL_law_18 : decode cL_law 18 = .ok (.iload_n 3, 1) := by decide +kernel
theorem dL_law_19 : decode cL_law 19 = .ok (.aload_n 0, 1) := by decide +kernel
theorem dL_law_20 : decode cL_law 20 = .ok (.arraylength, 1) := by decide +kernel
theorem dL_law_21 : decode cL_law 21 = .ok (.iconst 5, 1) := by decide +kernel
theorem dL_law_22 : decode cL_law 22 = .ok (.isub, 1) := by decide +kernel
theorem dL_law_23 : decode cL_law 23 = .ok (.if_icmp .gt 861, 3) := by decide +kernel
theorem dL_law_26 : decode cL_law 26 = .ok (.aload_n 0, 1) := by decide +kernel
theorem dL_law_27 : decode cL_law 27 = .ok (.iload_n 3, 1) := by decide +kernel
theorem dL_law_28 : decode cL_law 28 = .ok (.iaload, 1) := by decide +kernel
theorem dL_law_29 : decode cL_law 29 = .ok (.bipush 31, 2) := by decide +kernel
theorem dL_law_31 : decode cL_law 31 = .ok (.iand, 1) := by decide +kernel
theorem dL_law_32 : decode cL_law 32 = .ok (.tableswitch 846 0 22 #[108, 141, 174, 207, 250, 303, 326, 359, 408, 451, 484, 538, 591, 634, 667, 690, 703, 747, 761, 774, 787, 800, 823], 108) := by decide +kernel
theorem dL_law_140 : decode cL_law 140 = .ok (.aload_n 1, 1) := by decide +kernel
theorem dL_law_141 : decode cL_law 141 = .ok (.aload_n 0, 1) := by decide +kernel
theorem dL_law_142 : decode cL_law 142 = .ok (.iload_n 3, 1) := by decide +kernel
theorem dL_law_143 : decode cL_law 143 = .ok (.iconst 1, 1) := by decide +kernel
theorem dL_law_144 : decode cL_law 144 = .ok (.iadd, 1) := by decide +kernel
theorem dL_law_145 : decode cL_law 145 = .ok (.iaload, 1) := by decide +kernel
theorem dL_law_146 : decode cL_law 146 = .ok (.aload_n 0, 1) := by decide +kernel
theorem dL_law_147 : decode cL_law 147 = .ok (.iload_n 3, 1) := by decide +kernel
theorem dL_law_148 : decode cL_law 148 = .ok (.iconst 2, 1) := by decide +kernel
theorem dL_law_149 : decode cL_law 149 = .ok (.iadd, 1) := by decide +kernel
theorem dL_law_150 : decode cL_law 150 = .ok (.iaload, 1) := by decide +kernel
theorem dL_law_151 : decode cL_law 151 = .ok (.invokevirtual 13, 3) := by decide +kernel
theorem dL_law_154 : decode cL_law 154 = .ok (.aload_n 2, 1) := by decide +kernel
theorem dL_law_155 : decode cL_law 155 = .ok (.aload_n 0, 1) := by decide +kernel
theorem dL_law_156 : decode cL_law 156 = .ok (.iload_n 3, 1) := by decide +kernel
theorem dL_law_157 : decode cL_law 157 = .ok (.iconst 1, 1) := by decide +kernel
theorem dL_law_158 : decode cL_law 158 = .ok (.iadd, 1) := by decide +kernel
theorem dL_law_159 : decode cL_law 159 = .ok (.iaload, 1) := by decide +kernel
theorem dL_law_160 : decode cL_law 160 = .ok (.aload_n 0, 1) := by decide +kernel
theorem dL_law_161 : decode cL_law 161 = .ok (.iload_n 3, 1) := by decide +kernel
theorem dL_law_162 : decode cL_law 162 = .ok (.iconst 2, 1) := by decide +kernel
theorem dL_law_163 : decode cL_law 163 = .ok (.iadd, 1) := by decide +kernel
theorem dL_law_164 : decode cL_law 164 = .ok (.iaload, 1) := by decide +kernel
theorem dL_law_165 : decode cL_law 165 = .ok (.invokevirtual 17, 3) := by decide +kernel
theorem dL_law_168 : decode cL_law 168 = .ok (.if_icmp .eq 710, 3) := by decide +kernel
theorem dL_law_171 : decode cL_law 171 = .ok (.iconst 0, 1) := by decide +kernel
theorem dL_law_172 : decode cL_law 172 = .ok (.ireturn, 1) := by decide +kernel
theorem dL_law_173 : decode cL_law 173 = .ok (.aload_n 1, 1) := by decide +kernel
theorem dL_law_174 : decode cL_law 174 = .ok (.aload_n 0, 1) := by decide +kernel
theorem dL_law_175 : decode cL_law 175 = .ok (.iload_n 3, 1) := by decide +kernel
theorem dL_law_176 : decode cL_law 176 = .ok (.iconst 1, 1) := by decide +kernel
theorem dL_law_177 : decode cL_law 177 = .ok (.iadd, 1) := by decide +kernel
theorem dL_law_178 : decode cL_law 178 = .ok (.iaload, 1) := by decide +kernel
theorem dL_law_179 : decode cL_law 179 = .ok (.aload_n 0, 1) := by decide +kernel
theorem dL_law_180 : decode cL_law 180 = .ok (.iload_n 3, 1) := by decide +kernel
theorem dL_law_181 : decode cL_law 181 = .ok (.iconst 2, 1) := by decide +kernel
theorem dL_law_182 : decode cL_law 182 = .ok (.iadd, 1) := by decide +kernel
theorem dL_law_183 : decode cL_law 183 = .ok (.iaload, 1) := by decide +kernel
theorem dL_law_184 : decode cL_law 184 = .ok (.invokevirtual 18, 3) := by decide +kernel
theorem dL_law_187 : decode cL_law 187 = .ok (.aload_n 2, 1) := by decide +kernel
theorem dL_law_188 : decode cL_law 188 = .ok (.aload_n 0, 1) := by decide +kernel
theorem dL_law_189 : decode cL_law 189 = .ok (.iload_n 3, 1) := by decide +kernel
theorem dL_law_190 : decode cL_law 190 = .ok (.iconst 1, 1) := by decide +kernel
theorem dL_law_191 : decode cL_law 191 = .ok (.iadd, 1) := by decide +kernel
theorem dL_law_192 : decode cL_law 192 = .ok (.iaload, 1) := by decide +kernel
theorem dL_law_193 : decode cL_law 193 = .ok (.aload_n 0, 1) := by decide +kernel
theorem dL_law_194 : decode cL_law 194 = .ok (.iload_n 3, 1) := by decide +kernel
theorem dL_law_195 : decode cL_law 195 = .ok (.iconst 2, 1) := by decide +kernel
theorem dL_law_196 : decode cL_law 196 = .ok (.iadd, 1) := by decide +kernel
theorem dL_law_197 : decode cL_law 197 = .ok (.iaload, 1) := by decide +kernel
theorem dL_law_198 : decode cL_law 198 = .ok (.invokevirtual 22, 3) := by decide +kernel
theorem dL_law_201 : decode cL_law 201 = .ok (.if_icmp .eq 677, 3) := by decide +kernel
theorem dL_law_204 : decode cL_law 204 = .ok (.iconst 0, 1) := by decide +kernel
theorem dL_law_205 : decode cL_law 205 = .ok (.ireturn, 1) := by decide +kernel
theorem dL_law_206 : decode cL_law 206 = .ok (.aload_n 1, 1) := by decide +kernel
theorem dL_law_207 : decode cL_law 207 = .ok (.aload_n 0, 1) := by decide +kernel
theorem dL_law_208 : decode cL_law 208 = .ok (.iload_n 3, 1) := by decide +kernel
theorem dL_law_209 : decode cL_law 209 = .ok (.iconst 1, 1) := by decide +kernel
theorem dL_law_210 : decode cL_law 210 = .ok (.iadd, 1) := by decide +kernel
theorem dL_law_211 : decode cL_law 211 = .ok (.iaload, 1) := by decide +kernel
theorem dL_law_212 : decode cL_law 212 = .ok (.aload_n 0, 1) := by decide +kernel
theorem dL_law_213 : decode cL_law 213 = .ok (.iload_n 3, 1) := by decide +kernel
theorem dL_law_214 : decode cL_law 214 = .ok (.iconst 2, 1) := by decide +kernel
theorem dL_law_215 : decode cL_law 215 = .ok (.iadd, 1) := by decide +kernel
theorem dL_law_216 : decode cL_law 216 = .ok (.iaload, 1) := by decide +kernel
theorem dL_law_217 : decode cL_law 217 = .ok (.invokevirtual 23, 3) := by decide +kernel
theorem dL_law_220 : decode cL_law 220 = .ok (.aload_n 2, 1) := by decide +kernel
theorem dL_law_221 : decode cL_law 221 = .ok (.aload_n 0, 1) := by decide +kernel
theorem dL_law_222 : decode cL_law 222 = .ok (.iload_n 3, 1) := by decide +kernel
theorem dL_law_223 : decode cL_law 223 = .ok (.iconst 1, 1) := by decide +kernel
theorem dL_law_224 : decode cL_law 224 = .ok (.iadd, 1) := by decide +kernel
theorem dL_law_225 : decode cL_law 225 = .ok (.iaload, 1) := by decide +kernel
theorem dL_law_226 : decode cL_law 226 = .ok (.aload_n 0, 1) := by decide +kernel
theorem dL_law_227 : decode cL_law 227 = .ok (.iload_n 3, 1) := by decide +kernel
theorem dL_law_228 : decode cL_law 228 = .ok (.iconst 2, 1) := by decide +kernel
theorem dL_law_229 : decode cL_law 229 = .ok (.iadd, 1) := by decide +kernel
theorem dL_law_230 : decode cL_law 230 = .ok (.iaload, 1) := by decide +kernel
theorem dL_law_231 : decode cL_law 231 = .ok (.invokevirtual 26, 3) := by decide +kernel
theorem dL_law_234 : decode cL_law 234 = .ok (.if_icmp .eq 644, 3) := by decide +kernel
theorem dL_law_237 : decode cL_law 237 = .ok (.iconst 0, 1) := by decide +kernel
theorem dL_law_238 : decode cL_law 238 = .ok (.ireturn, 1) := by decide +kernel
theorem dL_law_239 : decode cL_law 239 = .ok (.aload_n 1, 1) := by decide +kernel
theorem dL_law_240 : decode cL_law 240 = .ok (.aload_n 0, 1) := by decide +kernel
theorem dL_law_241 : decode cL_law 241 = .ok (.iload_n 3, 1) := by decide +kernel
theorem dL_law_242 : decode cL_law 242 = .ok (.iconst 1, 1) := by decide +kernel
theorem dL_law_243 : decode cL_law 243 = .ok (.iadd, 1) := by decide +kernel
theorem dL_law_244 : decode cL_law 244 = .ok (.iaload, 1) := by decide +kernel
theorem dL_law_245 : decode cL_law 245 = .ok (.aload_n 0, 1) := by decide +kernel
theorem dL_law_246 : decode cL_law 246 = .ok (.iload_n 3, 1) := by decide +kernel
theorem dL_law_247 : decode cL_law 247 = .ok (.iconst 2, 1) := by decide +kernel
theorem dL_law_248 : decode cL_law 248 = .ok (.iadd, 1) := by decide +kernel
theorem dL_law_249 : decode cL_law 249 = .ok (.iaload, 1) := by decide +kernel
theorem dL_law_250 : decode cL_law 250 = .ok (.aload_n 0, 1) := by decide +kernel
theorem dL_law_251 : decode cL_law 251 = .ok (.iload_n 3, 1) := by decide +kernel
theorem dL_law_252 : decode cL_law 252 = .ok (.iconst 3, 1) := by decide +kernel
theorem dL_law_253 : decode cL_law 253 = .ok (.iadd, 1) := by decide +kernel
theorem dL_law_254 : decode cL_law 254 = .ok (.iaload, 1) := by decide +kernel
theorem dL_law_255 : decode cL_law 255 = .ok (.invokevirtual 27, 3) := by decide +kernel
theorem dL_law_258 : decode cL_law 258 = .ok (.aload_n 2, 1) := by decide +kernel
theorem dL_law_259 : decode cL_law 259 = .ok (.aload_n 0, 1) := by decide +kernel
theorem dL_law_260 : decode cL_law 260 = .ok (.iload_n 3, 1) := by decide +kernel
theorem dL_law_261 : decode cL_law 261 = .ok (.iconst 1, 1) := by decide +kernel
theorem dL_law_262 : decode cL_law 262 = .ok (.iadd, 1) := by decide +kernel
theorem dL_law_263 : decode cL_law 263 = .ok (.iaload, 1) := by decide +kernel
theorem dL_law_264 : decode cL_law 264 = .ok (.aload_n 0, 1) := by decide +kernel
theorem dL_law_265 : decode cL_law 265 = .ok (.iload_n 3, 1) := by decide +kernel
theorem dL_law_266 : decode cL_law 266 = .ok (.iconst 2, 1) := by decide +kernel
theorem dL_law_267 : decode cL_law 267 = .ok (.iadd, 1) := by decide +kernel
theorem dL_law_268 : decode cL_law 268 = .ok (.iaload, 1) := by decide +kernel
theorem dL_law_269 : decode cL_law 269 = .ok (.aload_n 0, 1) := by decide +kernel
theorem dL_law_270 : decode cL_law 270 = .ok (.iload_n 3, 1) := by decide +kernel
theorem dL_law_271 : decode cL_law 271 = .ok (.iconst 3, 1) := by decide +kernel
theorem dL_law_272 : decode cL_law 272 = .ok (.iadd, 1) := by decide +kernel
theorem dL_law_273 : decode cL_law 273 = .ok (.iaload, 1) := by decide +kernel
theorem dL_law_274 : decode cL_law 274 = .ok (.invokevirtual 31, 3) := by decide +kernel
theorem dL_law_277 : decode cL_law 277 = .ok (.if_icmp .eq 601, 3) := by decide +kernel
theorem dL_law_280 : decode cL_law 280 = .ok (.iconst 0, 1) := by decide +kernel
theorem dL_law_281 : decode cL_law 281 = .ok (.ireturn, 1) := by decide +kernel
theorem dL_law_282 : decode cL_law 282 = .ok (.aload_n 1, 1) := by decide +kernel
theorem dL_law_283 : decode cL_law 283 = .ok (.aload_n 0, 1) := by decide +kernel
theorem dL_law_284 : decode cL_law 284 = .ok (.iload_n 3, 1) := by decide +kernel
theorem dL_law_285 : decode cL_law 285 = .ok (.iconst 1, 1) := by decide +kernel
theorem dL_law_286 : decode cL_law 286 = .ok (.iadd, 1) := by decide +kernel
theorem dL_law_287 : decode cL_law 287 = .ok (.iaload, 1) := by decide +kernel
theorem dL_law_288 : decode cL_law 288 = .ok (.aload_n 0, 1) := by decide +kernel
theorem dL_law_289 : decode cL_law 289 = .ok (.iload_n 3, 1) := by decide +kernel
theorem dL_law_290 : decode cL_law 290 = .ok (.iconst 2, 1) := by decide +kernel
theorem dL_law_291 : decode cL_law 291 = .ok (.iadd, 1) := by decide +kernel
theorem dL_law_292 : decode cL_law 292 = .ok (.iaload, 1) := by decide +kernel
theorem dL_law_293 : decode cL_law 293 = .ok (.aload_n 0, 1) := by decide +kernel
theorem dL_law_294 : decode cL_law 294 = .ok (.iload_n 3, 1) := by decide +kernel
theorem dL_law_295 : decode cL_law 295 = .ok (.iconst 3, 1) := by decide +kernel
theorem dL_law_296 : decode cL_law 296 = .ok (.iadd, 1) := by decide +kernel
theorem dL_law_297 : decode cL_law 297 = .ok (.iaload, 1) := by decide +kernel
theorem dL_law_298 : decode cL_law 298 = .ok (.aload_n 0, 1) := by decide +kernel
theorem dL_law_299 : decode cL_law 299 = .ok (.iload_n 3, 1) := by decide +kernel
theorem dL_law_300 : decode cL_law 300 = .ok (.iconst 4, 1) := by decide +kernel
theorem dL_law_301 : decode cL_law 301 = .ok (.iadd, 1) := by decide +kernel
theorem dL_law_302 : decode cL_law 302 = .ok (.iaload, 1) := by decide +kernel
theorem dL_law_303 : decode cL_law 303 = .ok (.invokevirtual 32, 3) := by decide +kernel
theorem dL_law_306 : decode cL_law 306 = .ok (.aload_n 2, 1) := by decide +kernel
theorem dL_law_307 : decode cL_law 307 = .ok (.aload_n 0, 1) := by decide +kernel
theorem dL_law_308 : decode cL_law 308 = .ok (.iload_n 3, 1) := by decide +kernel
theorem dL_law_309 : decode cL_law 309 = .ok (.iconst 1, 1) := by decide +kernel
theorem dL_law_310 : decode cL_law 310 = .ok (.iadd, 1) := by decide +kernel
theorem dL_law_311 : decode cL_law 311 = .ok (.iaload, 1) := by decide +kernel
theorem dL_law_312 : decode cL_law 312 = .ok (.aload_n 0, 1) := by decide +kernel
theorem dL_law_313 : decode cL_law 313 = .ok (.iload_n 3, 1) := by decide +kernel
theorem dL_law_314 : decode cL_law 314 = .ok (.iconst 2, 1) := by decide +kernel
theorem dL_law_315 : decode cL_law 315 = .ok (.iadd, 1) := by decide +kernel
theorem dL_law_316 : decode cL_law 316 = .ok (.iaload, 1) := by decide +kernel
theorem dL_law_317 : decode cL_law 317 = .ok (.aload_n 0, 1) := by decide +kernel
theorem dL_law_318 : decode cL_law 318 = .ok (.iload_n 3, 1) := by decide +kernel
theorem dL_law_319 : decode cL_law 319 = .ok (.iconst 3, 1) := by decide +kernel
theorem dL_law_320 : decode cL_law 320 = .ok (.iadd, 1) := by decide +kernel
theorem dL_law_321 : decode cL_law 321 = .ok (.iaload, 1) := by decide +kernel
theorem dL_law_322 : decode cL_law 322 = .ok (.aload_n 0, 1) := by decide +kernel
theorem dL_law_323 : decode cL_law 323 = .ok (.iload_n 3, 1) := by decide +kernel
theorem dL_law_324 : decode cL_law 324 = .ok (.iconst 4, 1) := by decide +kernel
theorem dL_law_325 : decode cL_law 325 = .ok (.iadd, 1) := by decide +kernel
theorem dL_law_326 : decode cL_law 326 = .ok (.iaload, 1) := by decide +kernel
theorem dL_law_327 : decode cL_law 327 = .ok (.invokevirtual 36, 3) := by decide +kernel
theorem dL_law_330 : decode cL_law 330 = .ok (.if_icmp .eq 548, 3) := by decide +kernel
theorem dL_law_333 : decode cL_law 333 = .ok (.iconst 0, 1) := by decide +kernel
theorem dL_law_334 : decode cL_law 334 = .ok (.ireturn, 1) := by decide +kernel
theorem dL_law_335 : decode cL_law 335 = .ok (.aload_n 1, 1) := by decide +kernel
theorem dL_law_336 : decode cL_law 336 = .ok (.aload_n 0, 1) := by decide +kernel
theorem dL_law_337 : decode cL_law 337 = .ok (.iload_n 3, 1) := by decide +kernel
theorem dL_law_338 : decode cL_law 338 = .ok (.iconst 1, 1) := by decide +kernel
theorem dL_law_339 : decode cL_law 339 = .ok (.iadd, 1) := by decide +kernel
theorem dL_law_340 : decode cL_law 340 = .ok (.iaload, 1) := by decide +kernel
theorem dL_law_341 : decode cL_law 341 = .ok (.invokevirtual 37, 3) := by decide +kernel
theorem dL_law_344 : decode cL_law 344 = .ok (.aload_n 2, 1) := by decide +kernel
theorem dL_law_345 : decode cL_law 345 = .ok (.aload_n 0, 1) := by decide +kernel
theorem dL_law_346 : decode cL_law 346 = .ok (.iload_n 3, 1) := by decide +kernel
theorem dL_law_347 : decode cL_law 347 = .ok (.iconst 1, 1) := by decide +kernel
theorem dL_law_348 : decode cL_law 348 = .ok (.iadd, 1) := by decide +kernel
theorem dL_law_349 : decode cL_law 349 = .ok (.iaload, 1) := by decide +kernel
theorem dL_law_350 : decode cL_law 350 = .ok (.invokevirtual 41, 3) := by decide +kernel
theorem dL_law_353 : decode cL_law 353 = .ok (.if_icmp .eq 525, 3) := by decide +kernel
theorem dL_law_356 : decode cL_law 356 = .ok (.iconst 0, 1) := by decide +kernel
theorem dL_law_357 : decode cL_law 357 = .ok (.ireturn, 1) := by decide +kernel
theorem dL_law_358 : decode cL_law 358 = .ok (.aload_n 1, 1) := by decide +kernel
theorem dL_law_359 : decode cL_law 359 = .ok (.aload_n 0, 1) := by decide +kernel
theorem dL_law_360 : decode cL_law 360 = .ok (.iload_n 3, 1) := by decide +kernel
theorem dL_law_361 : decode cL_law 361 = .ok (.iconst 1, 1) := by decide +kernel
theorem dL_law_362 : decode cL_law 362 = .ok (.iadd, 1) := by decide +kernel
theorem dL_law_363 : decode cL_law 363 = .ok (.iaload, 1) := by decide +kernel
theorem dL_law_364 : decode cL_law 364 = .ok (.aload_n 0, 1) := by decide +kernel
theorem dL_law_365 : decode cL_law 365 = .ok (.iload_n 3, 1) := by decide +kernel
theorem dL_law_366 : decode cL_law 366 = .ok (.iconst 2, 1) := by decide +kernel
theorem dL_law_367 : decode cL_law 367 = .ok (.iadd, 1) := by decide +kernel
theorem dL_law_368 : decode cL_law 368 = .ok (.iaload, 1) := by decide +kernel
theorem dL_law_369 : decode cL_law 369 = .ok (.invokevirtual 42, 3) := by decide +kernel
theorem dL_law_372 : decode cL_law 372 = .ok (.aload_n 2, 1) := by decide +kernel
theorem dL_law_373 : decode cL_law 373 = .ok (.aload_n 0, 1) := by decide +kernel
theorem dL_law_374 : decode cL_law 374 = .ok (.iload_n 3, 1) := by decide +kernel
theorem dL_law_375 : decode cL_law 375 = .ok (.iconst 1, 1) := by decide +kernel
theorem dL_law_376 : decode cL_law 376 = .ok (.iadd, 1) := by decide +kernel
theorem dL_law_377 : decode cL_law 377 = .ok (.iaload, 1) := by decide +kernel
theorem dL_law_378 : decode cL_law 378 = .ok (.aload_n 0, 1) := by decide +kernel
theorem dL_law_379 : decode cL_law 379 = .ok (.iload_n 3, 1) := by decide +kernel
theorem dL_law_380 : decode cL_law 380 = .ok (.iconst 2, 1) := by decide +kernel
theorem dL_law_381 : decode cL_law 381 = .ok (.iadd, 1) := by decide +kernel
theorem dL_law_382 : decode cL_law 382 = .ok (.iaload, 1) := by decide +kernel
theorem dL_law_383 : decode cL_law 383 = .ok (.invokevirtual 45, 3) := by decide +kernel
theorem dL_law_386 : decode cL_law 386 = .ok (.if_icmp .eq 492, 3) := by decide +kernel
theorem dL_law_389 : decode cL_law 389 = .ok (.iconst 0, 1) := by decide +kernel
theorem dL_law_390 : decode cL_law 390 = .ok (.ireturn, 1) := by decide +kernel
theorem dL_law_391 : decode cL_law 391 = .ok (.aload_n 1, 1) := by decide +kernel
theorem dL_law_392 : decode cL_law 392 = .ok (.aload_n 0, 1) := by decide +kernel
theorem dL_law_393 : decode cL_law 393 = .ok (.iload_n 3, 1) := by decide +kernel
theorem dL_law_394 : decode cL_law 394 = .ok (.iconst 1, 1) := by decide +kernel
theorem dL_law_395 : decode cL_law 395 = .ok (.iadd, 1) := by decide +kernel
theorem dL_law_396 : decode cL_law 396 = .ok (.iaload, 1) := by decide +kernel
theorem dL_law_397 : decode cL_law 397 = .ok (.aload_n 0, 1) := by decide +kernel
theorem dL_law_398 : decode cL_law 398 = .ok (.iload_n 3, 1) := by decide +kernel
theorem dL_law_399 : decode cL_law 399 = .ok (.iconst 2, 1) := by decide +kernel
theorem dL_law_400 : decode cL_law 400 = .ok (.iadd, 1) := by decide +kernel
theorem dL_law_401 : decode cL_law 401 = .ok (.iaload, 1) := by decide +kernel
theorem dL_law_402 : decode cL_law 402 = .ok (.ifCond .eq 7, 3) := by decide +kernel
theorem dL_law_405 : decode cL_law 405 = .ok (.iconst 1, 1) := by decide +kernel
theorem dL_law_406 : decode cL_law 406 = .ok (.goto 4, 3) := by decide +kernel
theorem dL_law_409 : decode cL_law 409 = .ok (.iconst 0, 1) := by decide +kernel
theorem dL_law_410 : decode cL_law 410 = .ok (.invokevirtual 46, 3) := by decide +kernel
theorem dL_law_413 : decode cL_law 413 = .ok (.aload_n 2, 1) := by decide +kernel
theorem dL_law_414 : decode cL_law 414 = .ok (.aload_n 0, 1) := by decide +kernel
theorem dL_law_415 : decode cL_law 415 = .ok (.iload_n 3, 1) := by decide +kernel
theorem dL_law_416 : decode cL_law 416 = .ok (.iconst 1, 1) := by decide +kernel
theorem dL_law_417 : decode cL_law 417 = .ok (.iadd, 1) := by decide +kernel
theorem dL_law_418 : decode cL_law 418 = .ok (.iaload, 1) := by decide +kernel
theorem dL_law_419 : decode cL_law 419 = .ok (.aload_n 0, 1) := by decide +kernel
theorem dL_law_420 : decode cL_law 420 = .ok (.iload_n 3, 1) := by decide +kernel
theorem dL_law_421 : decode cL_law 421 = .ok (.iconst 2, 1) := by decide +kernel
theorem dL_law_422 : decode cL_law 422 = .ok (.iadd, 1) := by decide +kernel
theorem dL_law_423 : decode cL_law 423 = .ok (.iaload, 1) := by decide +kernel
theorem dL_law_424 : decode cL_law 424 = .ok (.ifCond .eq 7, 3) := by decide +kernel
theorem dL_law_427 : decode cL_law 427 = .ok (.iconst 1, 1) := by decide +kernel
theorem dL_law_428 : decode cL_law 428 = .ok (.goto 4, 3) := by decide +kernel
theorem dL_law_431 : decode cL_law 431 = .ok (.iconst 0, 1) := by decide +kernel
theorem dL_law_432 : decode cL_law 432 = .ok (.invokevirtual 50, 3) := by decide +kernel
theorem dL_law_435 : decode cL_law 435 = .ok (.if_icmp .eq 443, 3) := by decide +kernel
theorem dL_law_438 : decode cL_law 438 = .ok (.iconst 0, 1) := by decide +kernel
theorem dL_law_439 : decode cL_law 439 = .ok (.ireturn, 1) := by decide +kernel
theorem dL_law_440 : decode cL_law 440 = .ok (.aload_n 1, 1) := by decide +kernel
theorem dL_law_441 : decode cL_law 441 = .ok (.aload_n 0, 1) := by decide +kernel
theorem dL_law_442 : decode cL_law 442 = .ok (.iload_n 3, 1) := by decide +kernel
theorem dL_law_443 : decode cL_law 443 = .ok (.iconst 1, 1) := by decide +kernel
theorem dL_law_444 : decode cL_law 444 = .ok (.iadd, 1) := by decide +kernel
theorem dL_law_445 : decode cL_law 445 = .ok (.iaload, 1) := by decide +kernel
theorem dL_law_446 : decode cL_law 446 = .ok (.aload_n 0, 1) := by decide +kernel
theorem dL_law_447 : decode cL_law 447 = .ok (.iload_n 3, 1) := by decide +kernel
theorem dL_law_448 : decode cL_law 448 = .ok (.iconst 2, 1) := by decide +kernel
theorem dL_law_449 : decode cL_law 449 = .ok (.iadd, 1) := by decide +kernel
theorem dL_law_450 : decode cL_law 450 = .ok (.iaload, 1) := by decide +kernel
theorem dL_law_451 : decode cL_law 451 = .ok (.aload_n 0, 1) := by decide +kernel
theorem dL_law_452 : decode cL_law 452 = .ok (.iload_n 3, 1) := by decide +kernel
theorem dL_law_453 : decode cL_law 453 = .ok (.iconst 3, 1) := by decide +kernel
theorem dL_law_454 : decode cL_law 454 = .ok (.iadd, 1) := by decide +kernel
theorem dL_law_455 : decode cL_law 455 = .ok (.iaload, 1) := by decide +kernel
theorem dL_law_456 : decode cL_law 456 = .ok (.invokevirtual 51, 3) := by decide +kernel
theorem dL_law_459 : decode cL_law 459 = .ok (.aload_n 2, 1) := by decide +kernel
theorem dL_law_460 : decode cL_law 460 = .ok (.aload_n 0, 1) := by decide +kernel
theorem dL_law_461 : decode cL_law 461 = .ok (.iload_n 3, 1) := by decide +kernel
theorem dL_law_462 : decode cL_law 462 = .ok (.iconst 1, 1) := by decide +kernel
theorem dL_law_463 : decode cL_law 463 = .ok (.iadd, 1) := by decide +kernel
theorem dL_law_464 : decode cL_law 464 = .ok (.iaload, 1) := by decide +kernel
theorem dL_law_465 : decode cL_law 465 = .ok (.aload_n 0, 1) := by decide +kernel
theorem dL_law_466 : decode cL_law 466 = .ok (.iload_n 3, 1) := by decide +kernel
theorem dL_law_467 : decode cL_law 467 = .ok (.iconst 2, 1) := by decide +kernel
theorem dL_law_468 : decode cL_law 468 = .ok (.iadd, 1) := by decide +kernel
theorem dL_law_469 : decode cL_law 469 = .ok (.iaload, 1) := by decide +kernel
theorem dL_law_470 : decode cL_law 470 = .ok (.aload_n 0, 1) := by decide +kernel
theorem dL_law_471 : decode cL_law 471 = .ok (.iload_n 3, 1) := by decide +kernel
theorem dL_law_472 : decode cL_law 472 = .ok (.iconst 3, 1) := by decide +kernel
theorem dL_law_473 : decode cL_law 473 = .ok (.iadd, 1) := by decide +kernel
theorem dL_law_474 : decode cL_law 474 = .ok (.iaload, 1) := by decide +kernel
theorem dL_law_475 : decode cL_law 475 = .ok (.invokevirtual 55, 3) := by decide +kernel
theorem dL_law_478 : decode cL_law 478 = .ok (.if_icmp .eq 400, 3) := by decide +kernel
theorem dL_law_481 : decode cL_law 481 = .ok (.iconst 0, 1) := by decide +kernel
theorem dL_law_482 : decode cL_law 482 = .ok (.ireturn, 1) := by decide +kernel
theorem dL_law_483 : decode cL_law 483 = .ok (.aload_n 1, 1) := by decide +kernel
theorem dL_law_484 : decode cL_law 484 = .ok (.aload_n 0, 1) := by decide +kernel
theorem dL_law_485 : decode cL_law 485 = .ok (.iload_n 3, 1) := by decide +kernel
theorem dL_law_486 : decode cL_law 486 = .ok (.iconst 1, 1) := by decide +kernel
theorem dL_law_487 : decode cL_law 487 = .ok (.iadd, 1) := by decide +kernel
theorem dL_law_488 : decode cL_law 488 = .ok (.iaload, 1) := by decide +kernel
theorem dL_law_489 : decode cL_law 489 = .ok (.aload_n 0, 1) := by decide +kernel
theorem dL_law_490 : decode cL_law 490 = .ok (.iload_n 3, 1) := by decide +kernel
theorem dL_law_491 : decode cL_law 491 = .ok (.iconst 2, 1) := by decide +kernel
theorem dL_law_492 : decode cL_law 492 = .ok (.iadd, 1) := by decide +kernel
theorem dL_law_493 : decode cL_law 493 = .ok (.iaload, 1) := by decide +kernel
theorem dL_law_494 : decode cL_law 494 = .ok (.invokevirtual 56, 3) := by decide +kernel
theorem dL_law_497 : decode cL_law 497 = .ok (.aload_n 2, 1) := by decide +kernel
theorem dL_law_498 : decode cL_law 498 = .ok (.aload_n 0, 1) := by decide +kernel
theorem dL_law_499 : decode cL_law 499 = .ok (.iload_n 3, 1) := by decide +kernel
theorem dL_law_500 : decode cL_law 500 = .ok (.iconst 1, 1) := by decide +kernel
theorem dL_law_501 : decode cL_law 501 = .ok (.iadd, 1) := by decide +kernel
theorem dL_law_502 : decode cL_law 502 = .ok (.iaload, 1) := by decide +kernel
theorem dL_law_503 : decode cL_law 503 = .ok (.aload_n 0, 1) := by decide +kernel
theorem dL_law_504 : decode cL_law 504 = .ok (.iload_n 3, 1) := by decide +kernel
theorem dL_law_505 : decode cL_law 505 = .ok (.iconst 2, 1) := by decide +kernel
theorem dL_law_506 : decode cL_law 506 = .ok (.iadd, 1) := by decide +kernel
theorem dL_law_507 : decode cL_law 507 = .ok (.iaload, 1) := by decide +kernel
theorem dL_law_508 : decode cL_law 508 = .ok (.invokevirtual 59, 3) := by decide +kernel
theorem dL_law_511 : decode cL_law 511 = .ok (.if_icmp .eq 367, 3) := by decide +kernel
theorem dL_law_514 : decode cL_law 514 = .ok (.iconst 0, 1) := by decide +kernel
theorem dL_law_515 : decode cL_law 515 = .ok (.ireturn, 1) := by decide +kernel
theorem dL_law_516 : decode cL_law 516 = .ok (.aload_n 1, 1) := by decide +kernel
theorem dL_law_517 : decode cL_law 517 = .ok (.aload_n 0, 1) := by decide +kernel
theorem dL_law_518 : decode cL_law 518 = .ok (.iload_n 3, 1) := by decide +kernel
theorem dL_law_519 : decode cL_law 519 = .ok (.iconst 1, 1) := by decide +kernel
theorem dL_law_520 : decode cL_law 520 = .ok (.iadd, 1) := by decide +kernel
theorem dL_law_521 : decode cL_law 521 = .ok (.iaload, 1) := by decide +kernel
theorem dL_law_522 : decode cL_law 522 = .ok (.aload_n 0, 1) := by decide +kernel
theorem dL_law_523 : decode cL_law 523 = .ok (.iload_n 3, 1) := by decide +kernel
theorem dL_law_524 : decode cL_law 524 = .ok (.iconst 2, 1) := by decide +kernel
theorem dL_law_525 : decode cL_law 525 = .ok (.iadd, 1) := by decide +kernel
theorem dL_law_526 : decode cL_law 526 = .ok (.iaload, 1) := by decide +kernel
theorem dL_law_527 : decode cL_law 527 = .ok (.aload_n 0, 1) := by decide +kernel
theorem dL_law_528 : decode cL_law 528 = .ok (.iload_n 3, 1) := by decide +kernel
theorem dL_law_529 : decode cL_law 529 = .ok (.iconst 3, 1) := by decide +kernel
theorem dL_law_530 : decode cL_law 530 = .ok (.iadd, 1) := by decide +kernel
theorem dL_law_531 : decode cL_law 531 = .ok (.iaload, 1) := by decide +kernel
theorem dL_law_532 : decode cL_law 532 = .ok (.aload_n 0, 1) := by decide +kernel
theorem dL_law_533 : decode cL_law 533 = .ok (.iload_n 3, 1) := by decide +kernel
theorem dL_law_534 : decode cL_law 534 = .ok (.iconst 4, 1) := by decide +kernel
theorem dL_law_535 : decode cL_law 535 = .ok (.iadd, 1) := by decide +kernel
theorem dL_law_536 : decode cL_law 536 = .ok (.iaload, 1) := by decide +kernel
theorem dL_law_537 : decode cL_law 537 = .ok (.invokevirtual 60, 3) := by decide +kernel
theorem dL_law_540 : decode cL_law 540 = .ok (.aload_n 2, 1) := by decide +kernel
theorem dL_law_541 : decode cL_law 541 = .ok (.aload_n 0, 1) := by decide +kernel
theorem dL_law_542 : decode cL_law 542 = .ok (.iload_n 3, 1) := by decide +kernel
theorem dL_law_543 : decode cL_law 543 = .ok (.iconst 1, 1) := by decide +kernel
theorem dL_law_544 : decode cL_law 544 = .ok (.iadd, 1) := by decide +kernel
theorem dL_law_545 : decode cL_law 545 = .ok (.iaload, 1) := by decide +kernel
theorem dL_law_546 : decode cL_law 546 = .ok (.aload_n 0, 1) := by decide +kernel
theorem dL_law_547 : decode cL_law 547 = .ok (.iload_n 3, 1) := by decide +kernel
theorem dL_law_548 : decode cL_law 548 = .ok (.iconst 2, 1) := by decide +kernel
theorem dL_law_549 : decode cL_law 549 = .ok (.iadd, 1) := by decide +kernel
theorem dL_law_550 : decode cL_law 550 = .ok (.iaload, 1) := by decide +kernel
theorem dL_law_551 : decode cL_law 551 = .ok (.aload_n 0, 1) := by decide +kernel
theorem dL_law_552 : decode cL_law 552 = .ok (.iload_n 3, 1) := by decide +kernel
theorem dL_law_553 : decode cL_law 553 = .ok (.iconst 3, 1) := by decide +kernel
theorem dL_law_554 : decode cL_law 554 = .ok (.iadd, 1) := by decide +kernel
theorem dL_law_555 : decode cL_law 555 = .ok (.iaload, 1) := by decide +kernel
theorem dL_law_556 : decode cL_law 556 = .ok (.aload_n 0, 1) := by decide +kernel
theorem dL_law_557 : decode cL_law 557 = .ok (.iload_n 3, 1) := by decide +kernel
theorem dL_law_558 : decode cL_law 558 = .ok (.iconst 4, 1) := by decide +kernel
theorem dL_law_559 : decode cL_law 559 = .ok (.iadd, 1) := by decide +kernel
theorem dL_law_560 : decode cL_law 560 = .ok (.iaload, 1) := by decide +kernel
theorem dL_law_561 : decode cL_law 561 = .ok (.invokevirtual 64, 3) := by decide +kernel
theorem dL_law_564 : decode cL_law 564 = .ok (.lcmp, 1) := by decide +kernel
theorem dL_law_565 : decode cL_law 565 = .ok (.ifCond .eq 313, 3) := by decide +kernel
theorem dL_law_568 : decode cL_law 568 = .ok (.iconst 0, 1) := by decide +kernel
theorem dL_law_569 : decode cL_law 569 = .ok (.ireturn, 1) := by decide +kernel
theorem dL_law_570 : decode cL_law 570 = .ok (.aload_n 1, 1) := by decide +kernel
theorem dL_law_571 : decode cL_law 571 = .ok (.aload_n 0, 1) := by decide +kernel
theorem dL_law_572 : decode cL_law 572 = .ok (.iload_n 3, 1) := by decide +kernel
theorem dL_law_573 : decode cL_law 573 = .ok (.iconst 1, 1) := by decide +kernel
theorem dL_law_574 : decode cL_law 574 = .ok (.iadd, 1) := by decide +kernel
theorem dL_law_575 : decode cL_law 575 = .ok (.iaload, 1) := by decide +kernel
theorem dL_law_576 : decode cL_law 576 = .ok (.aload_n 0, 1) := by decide +kernel
theorem dL_law_577 : decode cL_law 577 = .ok (.iload_n 3, 1) := by decide +kernel
theorem dL_law_578 : decode cL_law 578 = .ok (.iconst 2, 1) := by decide +kernel
theorem dL_law_579 : decode cL_law 579 = .ok (.iadd, 1) := by decide +kernel
theorem dL_law_580 : decode cL_law 580 = .ok (.iaload, 1) := by decide +kernel
theorem dL_law_581 : decode cL_law 581 = .ok (.aload_n 0, 1) := by decide +kernel
theorem dL_law_582 : decode cL_law 582 = .ok (.iload_n 3, 1) := by decide +kernel
theorem dL_law_583 : decode cL_law 583 = .ok (.iconst 3, 1) := by decide +kernel
theorem dL_law_584 : decode cL_law 584 = .ok (.iadd, 1) := by decide +kernel
theorem dL_law_585 : decode cL_law 585 = .ok (.iaload, 1) := by decide +kernel
theorem dL_law_586 : decode cL_law 586 = .ok (.aload_n 0, 1) := by decide +kernel
theorem dL_law_587 : decode cL_law 587 = .ok (.iload_n 3, 1) := by decide +kernel
theorem dL_law_588 : decode cL_law 588 = .ok (.iconst 4, 1) := by decide +kernel
theorem dL_law_589 : decode cL_law 589 = .ok (.iadd, 1) := by decide +kernel
theorem dL_law_590 : decode cL_law 590 = .ok (.iaload, 1) := by decide +kernel
theorem dL_law_591 : decode cL_law 591 = .ok (.invokevirtual 65, 3) := by decide +kernel
theorem dL_law_594 : decode cL_law 594 = .ok (.aload_n 2, 1) := by decide +kernel
theorem dL_law_595 : decode cL_law 595 = .ok (.aload_n 0, 1) := by decide +kernel
theorem dL_law_596 : decode cL_law 596 = .ok (.iload_n 3, 1) := by decide +kernel
theorem dL_law_597 : decode cL_law 597 = .ok (.iconst 1, 1) := by decide +kernel
theorem dL_law_598 : decode cL_law 598 = .ok (.iadd, 1) := by decide +kernel
theorem dL_law_599 : decode cL_law 599 = .ok (.iaload, 1) := by decide +kernel
theorem dL_law_600 : decode cL_law 600 = .ok (.aload_n 0, 1) := by decide +kernel
theorem dL_law_601 : decode cL_law 601 = .ok (.iload_n 3, 1) := by decide +kernel
theorem dL_law_602 : decode cL_law 602 = .ok (.iconst 2, 1) := by decide +kernel
theorem dL_law_603 : decode cL_law 603 = .ok (.iadd, 1) := by decide +kernel
theorem dL_law_604 : decode cL_law 604 = .ok (.iaload, 1) := by decide +kernel
theorem dL_law_605 : decode cL_law 605 = .ok (.aload_n 0, 1) := by decide +kernel
theorem dL_law_606 : decode cL_law 606 = .ok (.iload_n 3, 1) := by decide +kernel
theorem dL_law_607 : decode cL_law 607 = .ok (.iconst 3, 1) := by decide +kernel
theorem dL_law_608 : decode cL_law 608 = .ok (.iadd, 1) := by decide +kernel
theorem dL_law_609 : decode cL_law 609 = .ok (.iaload, 1) := by decide +kernel
theorem dL_law_610 : decode cL_law 610 = .ok (.aload_n 0, 1) := by decide +kernel
theorem dL_law_611 : decode cL_law 611 = .ok (.iload_n 3, 1) := by decide +kernel
theorem dL_law_612 : decode cL_law 612 = .ok (.iconst 4, 1) := by decide +kernel
theorem dL_law_613 : decode cL_law 613 = .ok (.iadd, 1) := by decide +kernel
theorem dL_law_614 : decode cL_law 614 = .ok (.iaload, 1) := by decide +kernel
theorem dL_law_615 : decode cL_law 615 = .ok (.invokevirtual 69, 3) := by decide +kernel
theorem dL_law_618 : decode cL_law 618 = .ok (.if_icmp .eq 260, 3) := by decide +kernel
theorem dL_law_621 : decode cL_law 621 = .ok (.iconst 0, 1) := by decide +kernel
theorem dL_law_622 : decode cL_law 622 = .ok (.ireturn, 1) := by decide +kernel
theorem dL_law_623 : decode cL_law 623 = .ok (.aload_n 1, 1) := by decide +kernel
theorem dL_law_624 : decode cL_law 624 = .ok (.aload_n 0, 1) := by decide +kernel
theorem dL_law_625 : decode cL_law 625 = .ok (.iload_n 3, 1) := by decide +kernel
theorem dL_law_626 : decode cL_law 626 = .ok (.iconst 1, 1) := by decide +kernel
theorem dL_law_627 : decode cL_law 627 = .ok (.iadd, 1) := by decide +kernel
theorem dL_law_628 : decode cL_law 628 = .ok (.iaload, 1) := by decide +kernel
theorem dL_law_629 : decode cL_law 629 = .ok (.aload_n 0, 1) := by decide +kernel
theorem dL_law_630 : decode cL_law 630 = .ok (.iload_n 3, 1) := by decide +kernel
theorem dL_law_631 : decode cL_law 631 = .ok (.iconst 2, 1) := by decide +kernel
theorem dL_law_632 : decode cL_law 632 = .ok (.iadd, 1) := by decide +kernel
theorem dL_law_633 : decode cL_law 633 = .ok (.iaload, 1) := by decide +kernel
theorem dL_law_634 : decode cL_law 634 = .ok (.aload_n 0, 1) := by decide +kernel
theorem dL_law_635 : decode cL_law 635 = .ok (.iload_n 3, 1) := by decide +kernel
theorem dL_law_636 : decode cL_law 636 = .ok (.iconst 3, 1) := by decide +kernel
theorem dL_law_637 : decode cL_law 637 = .ok (.iadd, 1) := by decide +kernel
theorem dL_law_638 : decode cL_law 638 = .ok (.iaload, 1) := by decide +kernel
theorem dL_law_639 : decode cL_law 639 = .ok (.invokevirtual 70, 3) := by decide +kernel
theorem dL_law_642 : decode cL_law 642 = .ok (.aload_n 2, 1) := by decide +kernel
theorem dL_law_643 : decode cL_law 643 = .ok (.aload_n 0, 1) := by decide +kernel
theorem dL_law_644 : decode cL_law 644 = .ok (.iload_n 3, 1) := by decide +kernel
theorem dL_law_645 : decode cL_law 645 = .ok (.iconst 1, 1) := by decide +kernel
theorem dL_law_646 : decode cL_law 646 = .ok (.iadd, 1) := by decide +kernel
theorem dL_law_647 : decode cL_law 647 = .ok (.iaload, 1) := by decide +kernel
theorem dL_law_648 : decode cL_law 648 = .ok (.aload_n 0, 1) := by decide +kernel
theorem dL_law_649 : decode cL_law 649 = .ok (.iload_n 3, 1) := by decide +kernel
theorem dL_law_650 : decode cL_law 650 = .ok (.iconst 2, 1) := by decide +kernel
theorem dL_law_651 : decode cL_law 651 = .ok (.iadd, 1) := by decide +kernel
theorem dL_law_652 : decode cL_law 652 = .ok (.iaload, 1) := by decide +kernel
theorem dL_law_653 : decode cL_law 653 = .ok (.aload_n 0, 1) := by decide +kernel
theorem dL_law_654 : decode cL_law 654 = .ok (.iload_n 3, 1) := by decide +kernel
theorem dL_law_655 : decode cL_law 655 = .ok (.iconst 3, 1) := by decide +kernel
theorem dL_law_656 : decode cL_law 656 = .ok (.iadd, 1) := by decide +kernel
theorem dL_law_657 : decode cL_law 657 = .ok (.iaload, 1) := by decide +kernel
theorem dL_law_658 : decode cL_law 658 = .ok (.invokevirtual 73, 3) := by decide +kernel
theorem dL_law_661 : decode cL_law 661 = .ok (.if_icmp .eq 217, 3) := by decide +kernel
theorem dL_law_664 : decode cL_law 664 = .ok (.iconst 0, 1) := by decide +kernel
theorem dL_law_665 : decode cL_law 665 = .ok (.ireturn, 1) := by decide +kernel
theorem dL_law_666 : decode cL_law 666 = .ok (.aload_n 1, 1) := by decide +kernel
theorem dL_law_667 : decode cL_law 667 = .ok (.aload_n 0, 1) := by decide +kernel
theorem dL_law_668 : decode cL_law 668 = .ok (.iload_n 3, 1) := by decide +kernel
theorem dL_law_669 : decode cL_law 669 = .ok (.iconst 1, 1) := by decide +kernel
theorem dL_law_670 : decode cL_law 670 = .ok (.iadd, 1) := by decide +kernel
theorem dL_law_671 : decode cL_law 671 = .ok (.iaload, 1) := by decide +kernel
theorem dL_law_672 : decode cL_law 672 = .ok (.aload_n 0, 1) := by decide +kernel
theorem dL_law_673 : decode cL_law 673 = .ok (.iload_n 3, 1) := by decide +kernel
theorem dL_law_674 : decode cL_law 674 = .ok (.iconst 2, 1) := by decide +kernel
theorem dL_law_675 : decode cL_law 675 = .ok (.iadd, 1) := by decide +kernel
theorem dL_law_676 : decode cL_law 676 = .ok (.iaload, 1) := by decide +kernel
theorem dL_law_677 : decode cL_law 677 = .ok (.invokevirtual 74, 3) := by decide +kernel
theorem dL_law_680 : decode cL_law 680 = .ok (.aload_n 2, 1) := by decide +kernel
theorem dL_law_681 : decode cL_law 681 = .ok (.aload_n 0, 1) := by decide +kernel
theorem dL_law_682 : decode cL_law 682 = .ok (.iload_n 3, 1) := by decide +kernel
theorem dL_law_683 : decode cL_law 683 = .ok (.iconst 1, 1) := by decide +kernel
theorem dL_law_684 : decode cL_law 684 = .ok (.iadd, 1) := by decide +kernel
theorem dL_law_685 : decode cL_law 685 = .ok (.iaload, 1) := by decide +kernel
theorem dL_law_686 : decode cL_law 686 = .ok (.aload_n 0, 1) := by decide +kernel
theorem dL_law_687 : decode cL_law 687 = .ok (.iload_n 3, 1) := by decide +kernel
theorem dL_law_688 : decode cL_law 688 = .ok (.iconst 2, 1) := by decide +kernel
theorem dL_law_689 : decode cL_law 689 = .ok (.iadd, 1) := by decide +kernel
theorem dL_law_690 : decode cL_law 690 = .ok (.iaload, 1) := by decide +kernel
theorem dL_law_691 : decode cL_law 691 = .ok (.invokevirtual 77, 3) := by decide +kernel
theorem dL_law_694 : decode cL_law 694 = .ok (.if_icmp .eq 184, 3) := by decide +kernel
theorem dL_law_697 : decode cL_law 697 = .ok (.iconst 0, 1) := by decide +kernel
theorem dL_law_698 : decode cL_law 698 = .ok (.ireturn, 1) := by decide +kernel
theorem dL_law_699 : decode cL_law 699 = .ok (.aload_n 1, 1) := by decide +kernel
theorem dL_law_700 : decode cL_law 700 = .ok (.aload_n 0, 1) := by decide +kernel
theorem dL_law_701 : decode cL_law 701 = .ok (.iload_n 3, 1) := by decide +kernel
theorem dL_law_702 : decode cL_law 702 = .ok (.iconst 1, 1) := by decide +kernel
theorem dL_law_703 : decode cL_law 703 = .ok (.iadd, 1) := by decide +kernel
theorem dL_law_704 : decode cL_law 704 = .ok (.iaload, 1) := by decide +kernel
theorem dL_law_705 : decode cL_law 705 = .ok (.invokevirtual 78, 3) := by decide +kernel
theorem dL_law_708 : decode cL_law 708 = .ok (.aload_n 2, 1) := by decide +kernel
theorem dL_law_709 : decode cL_law 709 = .ok (.aload_n 0, 1) := by decide +kernel
theorem dL_law_710 : decode cL_law 710 = .ok (.iload_n 3, 1) := by decide +kernel
theorem dL_law_711 : decode cL_law 711 = .ok (.iconst 1, 1) := by decide +kernel
theorem dL_law_712 : decode cL_law 712 = .ok (.iadd, 1) := by decide +kernel
theorem dL_law_713 : decode cL_law 713 = .ok (.iaload, 1) := by decide +kernel
theorem dL_law_714 : decode cL_law 714 = .ok (.invokevirtual 82, 3) := by decide +kernel
theorem dL_law_717 : decode cL_law 717 = .ok (.if_icmp .eq 161, 3) := by decide +kernel
theorem dL_law_720 : decode cL_law 720 = .ok (.iconst 0, 1) := by decide +kernel
theorem dL_law_721 : decode cL_law 721 = .ok (.ireturn, 1) := by decide +kernel
theorem dL_law_722 : decode cL_law 722 = .ok (.aload_n 1, 1) := by decide +kernel
theorem dL_law_723 : decode cL_law 723 = .ok (.invokevirtual 83, 3) := by decide +kernel
theorem dL_law_726 : decode cL_law 726 = .ok (.aload_n 2, 1) := by decide +kernel
theorem dL_law_727 : decode cL_law 727 = .ok (.invokevirtual 87, 3) := by decide +kernel
theorem dL_law_730 : decode cL_law 730 = .ok (.if_icmp .eq 148, 3) := by decide +kernel
theorem dL_law_733 : decode cL_law 733 = .ok (.iconst 0, 1) := by decide +kernel
theorem dL_law_734 : decode cL_law 734 = .ok (.ireturn, 1) := by decide +kernel
theorem dL_law_735 : decode cL_law 735 = .ok (.aload_n 1, 1) := by decide +kernel
theorem dL_law_736 : decode cL_law 736 = .ok (.aload_n 0, 1) := by decide +kernel
theorem dL_law_737 : decode cL_law 737 = .ok (.iload_n 3, 1) := by decide +kernel
theorem dL_law_738 : decode cL_law 738 = .ok (.iconst 1, 1) := by decide +kernel
theorem dL_law_739 : decode cL_law 739 = .ok (.iadd, 1) := by decide +kernel
theorem dL_law_740 : decode cL_law 740 = .ok (.iaload, 1) := by decide +kernel
theorem dL_law_741 : decode cL_law 741 = .ok (.aload_n 0, 1) := by decide +kernel
theorem dL_law_742 : decode cL_law 742 = .ok (.iload_n 3, 1) := by decide +kernel
theorem dL_law_743 : decode cL_law 743 = .ok (.iconst 2, 1) := by decide +kernel
theorem dL_law_744 : decode cL_law 744 = .ok (.iadd, 1) := by decide +kernel
theorem dL_law_745 : decode cL_law 745 = .ok (.iaload, 1) := by decide +kernel
theorem dL_law_746 : decode cL_law 746 = .ok (.aload_n 0, 1) := by decide +kernel
theorem dL_law_747 : decode cL_law 747 = .ok (.iload_n 3, 1) := by decide +kernel
theorem dL_law_748 : decode cL_law 748 = .ok (.iconst 3, 1) := by decide +kernel
theorem dL_law_749 : decode cL_law 749 = .ok (.iadd, 1) := by decide +kernel
theorem dL_law_750 : decode cL_law 750 = .ok (.iaload, 1) := by decide +kernel
theorem dL_law_751 : decode cL_law 751 = .ok (.invokevirtual 88, 3) := by decide +kernel
theorem dL_law_754 : decode cL_law 754 = .ok (.aload_n 2, 1) := by decide +kernel
theorem dL_law_755 : decode cL_law 755 = .ok (.aload_n 0, 1) := by decide +kernel
theorem dL_law_756 : decode cL_law 756 = .ok (.iload_n 3, 1) := by decide +kernel
theorem dL_law_757 : decode cL_law 757 = .ok (.iconst 1, 1) := by decide +kernel
theorem dL_law_758 : decode cL_law 758 = .ok (.iadd, 1) := by decide +kernel
theorem dL_law_759 : decode cL_law 759 = .ok (.iaload, 1) := by decide +kernel
theorem dL_law_760 : decode cL_law 760 = .ok (.aload_n 0, 1) := by decide +kernel
theorem dL_law_761 : decode cL_law 761 = .ok (.iload_n 3, 1) := by decide +kernel
theorem dL_law_762 : decode cL_law 762 = .ok (.iconst 2, 1) := by decide +kernel
theorem dL_law_763 : decode cL_law 763 = .ok (.iadd, 1) := by decide +kernel
theorem dL_law_764 : decode cL_law 764 = .ok (.iaload, 1) := by decide +kernel
theorem dL_law_765 : decode cL_law 765 = .ok (.aload_n 0, 1) := by decide +kernel
theorem dL_law_766 : decode cL_law 766 = .ok (.iload_n 3, 1) := by decide +kernel
theorem dL_law_767 : decode cL_law 767 = .ok (.iconst 3, 1) := by decide +kernel
theorem dL_law_768 : decode cL_law 768 = .ok (.iadd, 1) := by decide +kernel
theorem dL_law_769 : decode cL_law 769 = .ok (.iaload, 1) := by decide +kernel
theorem dL_law_770 : decode cL_law 770 = .ok (.invokevirtual 92, 3) := by decide +kernel
theorem dL_law_773 : decode cL_law 773 = .ok (.lcmp, 1) := by decide +kernel
theorem dL_law_774 : decode cL_law 774 = .ok (.ifCond .eq 104, 3) := by decide +kernel
theorem dL_law_777 : decode cL_law 777 = .ok (.iconst 0, 1) := by decide +kernel
theorem dL_law_778 : decode cL_law 778 = .ok (.ireturn, 1) := by decide +kernel
theorem dL_law_779 : decode cL_law 779 = .ok (.aload_n 1, 1) := by decide +kernel
theorem dL_law_780 : decode cL_law 780 = .ok (.invokevirtual 93, 3) := by decide +kernel
theorem dL_law_783 : decode cL_law 783 = .ok (.aload_n 2, 1) := by decide +kernel
theorem dL_law_784 : decode cL_law 784 = .ok (.invokevirtual 97, 3) := by decide +kernel
theorem dL_law_787 : decode cL_law 787 = .ok (.lcmp, 1) := by decide +kernel
theorem dL_law_788 : decode cL_law 788 = .ok (.ifCond .eq 90, 3) := by decide +kernel
theorem dL_law_791 : decode cL_law 791 = .ok (.iconst 0, 1) := by decide +kernel
theorem dL_law_792 : decode cL_law 792 = .ok (.ireturn, 1) := by decide +kernel
theorem dL_law_793 : decode cL_law 793 = .ok (.aload_n 1, 1) := by decide +kernel
theorem dL_law_794 : decode cL_law 794 = .ok (.invokevirtual 98, 3) := by decide +kernel
theorem dL_law_797 : decode cL_law 797 = .ok (.aload_n 2, 1) := by decide +kernel
theorem dL_law_798 : decode cL_law 798 = .ok (.invokevirtual 101, 3) := by decide +kernel
theorem dL_law_801 : decode cL_law 801 = .ok (.if_icmp .eq 77, 3) := by decide +kernel
theorem dL_law_804 : decode cL_law 804 = .ok (.iconst 0, 1) := by decide +kernel
theorem dL_law_805 : decode cL_law 805 = .ok (.ireturn, 1) := by decide +kernel
theorem dL_law_806 : decode cL_law 806 = .ok (.aload_n 1, 1) := by decide +kernel
theorem dL_law_807 : decode cL_law 807 = .ok (.invokevirtual 102, 3) := by decide +kernel
theorem dL_law_810 : decode cL_law 810 = .ok (.aload_n 2, 1) := by decide +kernel
theorem dL_law_811 : decode cL_law 811 = .ok (.invokevirtual 105, 3) := by decide +kernel
theorem dL_law_814 : decode cL_law 814 = .ok (.if_icmp .eq 64, 3) := by decide +kernel
theorem dL_law_817 : decode cL_law 817 = .ok (.iconst 0, 1) := by decide +kernel
theorem dL_law_818 : decode cL_law 818 = .ok (.ireturn, 1) := by decide +kernel
theorem dL_law_819 : decode cL_law 819 = .ok (.aload_n 1, 1) := by decide +kernel
theorem dL_law_820 : decode cL_law 820 = .ok (.invokevirtual 106, 3) := by decide +kernel
theorem dL_law_823 : decode cL_law 823 = .ok (.aload_n 2, 1) := by decide +kernel
theorem dL_law_824 : decode cL_law 824 = .ok (.invokevirtual 109, 3) := by decide +kernel
theorem dL_law_827 : decode cL_law 827 = .ok (.if_icmp .eq 51, 3) := by decide +kernel
theorem dL_law_830 : decode cL_law 830 = .ok (.iconst 0, 1) := by decide +kernel
theorem dL_law_831 : decode cL_law 831 = .ok (.ireturn, 1) := by decide +kernel
theorem dL_law_832 : decode cL_law 832 = .ok (.aload_n 1, 1) := by decide +kernel
theorem dL_law_833 : decode cL_law 833 = .ok (.aload_n 0, 1) := by decide +kernel
theorem dL_law_834 : decode cL_law 834 = .ok (.iload_n 3, 1) := by decide +kernel
theorem dL_law_835 : decode cL_law 835 = .ok (.iconst 1, 1) := by decide +kernel
theorem dL_law_836 : decode cL_law 836 = .ok (.iadd, 1) := by decide +kernel
theorem dL_law_837 : decode cL_law 837 = .ok (.iaload, 1) := by decide +kernel
theorem dL_law_838 : decode cL_law 838 = .ok (.invokevirtual 110, 3) := by decide +kernel
theorem dL_law_841 : decode cL_law 841 = .ok (.aload_n 2, 1) := by decide +kernel
theorem dL_law_842 : decode cL_law 842 = .ok (.aload_n 0, 1) := by decide +kernel
theorem dL_law_843 : decode cL_law 843 = .ok (.iload_n 3, 1) := by decide +kernel
theorem dL_law_844 : decode cL_law 844 = .ok (.iconst 1, 1) := by decide +kernel
theorem dL_law_845 : decode cL_law 845 = .ok (.iadd, 1) := by decide +kernel
theorem dL_law_846 : decode cL_law 846 = .ok (.iaload, 1) := by decide +kernel
theorem dL_law_847 : decode cL_law 847 = .ok (.invokevirtual 113, 3) := by decide +kernel
theorem dL_law_850 : decode cL_law 850 = .ok (.if_icmp .eq 28, 3) := by decide +kernel
theorem dL_law_853 : decode cL_law 853 = .ok (.iconst 0, 1) := by decide +kernel
theorem dL_law_854 : decode cL_law 854 = .ok (.ireturn, 1) := by decide +kernel
theorem dL_law_855 : decode cL_law 855 = .ok (.aload_n 1, 1) := by decide +kernel
theorem dL_law_856 : decode cL_law 856 = .ok (.aload_n 0, 1) := by decide +kernel
theorem dL_law_857 : decode cL_law 857 = .ok (.iload_n 3, 1) := by decide +kernel
theorem dL_law_858 : decode cL_law 858 = .ok (.iconst 1, 1) := by decide +kernel
theorem dL_law_859 : decode cL_law 859 = .ok (.iadd, 1) := by decide +kernel
theorem dL_law_860 : decode cL_law 860 = .ok (.iaload, 1) := by decide +kernel
theorem dL_law_861 : decode cL_law 861 = .ok (.invokevirtual 114, 3) := by decide +kernel
theorem dL_law_864 : decode cL_law 864 = .ok (.aload_n 2, 1) := by decide +kernel
theorem dL_law_865 : decode cL_law 865 = .ok (.aload_n 0, 1) := by decide +kernel
theorem dL_law_866 : decode cL_law 866 = .ok (.iload_n 3, 1) := by decide +kernel
theorem dL_law_867 : decode cL_law 867 = .ok (.iconst 1, 1) := by decide +kernel
theorem dL_law_868 : decode cL_law 868 = .ok (.iadd, 1) := by decide +kernel
theorem dL_law_869 : decode cL_law 869 = .ok (.iaload, 1) := by decide +kernel
theorem dL_law_870 : decode cL_law 870 = .ok (.invokevirtual 117, 3) := by decide +kernel
theorem dL_law_873 : decode cL_law 873 = .ok (.if_icmp .eq 5, 3) := by decide +kernel
theorem dL_law_876 : decode cL_law 876 = .ok (.iconst 0, 1) := by decide +kernel
theorem dL_law_877 : decode cL_law 877 = .ok (.ireturn, 1) := by decide +kernel
theorem dL_law_878 : decode cL_law 878 = .ok (.iinc 3 5, 3) := by decide +kernel
theorem dL_law_881 : decode cL_law 881 = .ok (.goto (-863), 3) := by decide +kernel
theorem dL_law_884 : decode cL_law 884 = .ok (.iconst 1, 1) := by decide +kernel
theorem dL_law_885 : decode cL_law 885 = .ok (.ireturn, 1) := by decide +kernel
end
section
/-! the words that may be handed on to every callee -/
def zTbl : List Cond := lw_tbl.filter goodWord
theorem zTbl_in {w : Cond} (h : w ∈ zTbl) : w ∈ lw_tbl := (List.mem_filter.mp h).1
theorem zTbl_good {w : Cond} (h : w ∈ zTbl) : goodWord w = true := (List.mem_filter.mp h).2
theorem zm0 (i : Nat) {w : Cond} (h : (k2_sels lw_privs)[i]? = some w) (hg : goodWord w = true) : w ∈ zTbl := List.mem_filter.mpr ⟨List.mem_append_left _ (List.mem_of_getElem? h), hg⟩
theorem zm1 (i : Nat) {w : Cond} (h : tables_1_1[i]? = some w) (hg : goodWord w = true) : w ∈ zTbl := List.mem_filter.mpr ⟨List.mem_append_right _ (List.mem_append_left _ (List.mem_of_getElem? h)), hg⟩
theorem zm2 (i : Nat) {w : Cond} (h : tables_1_2[i]? = some w) (hg : goodWord w = true) : w ∈ zTbl := List.mem_filter.mpr ⟨List.mem_append_right _ (List.mem_append_right _ (List.mem_append_left _ (List.mem_of_getElem? h))), hg⟩
theorem zm3 (i : Nat) {w : Cond} (h : tables_1_3[i]? = some w) (hg : goodWord w = true) : w ∈ zTbl := List.mem_filter.mpr ⟨List.mem_append_right _ (List.mem_append_right _ (List.mem_append_right _ (List.mem_append_left _ (List.mem_of_getElem? h)))), hg⟩
theorem zm4 (i : Nat) {w : Cond} (h : tables_1_4[i]? = some w) (hg : goodWord w = true) : w ∈ zTbl := List.mem_filter.mpr ⟨List.mem_append_right _ (List.mem_append_right _ (List.mem_append_right _ (List.mem_append_right _ (List.mem_of_getElem? h)))), hg⟩
/-! the heap as numbers: place p, cell k -/
abbrev GG : Type := Nat → Nat → Int32
def gA (G : GG) (p : Nat) (f : Nat → Int32) : GG := fun q => if q = p then f else G q
def gU (G : GG) (p k : Nat) (v : Int32) : GG := gA G p (upd (G p) k v)
theorem gA_s {G : GG} {p : Nat} {f : Nat → Int32} : gA G p f p = f := by simp [gA]
theorem gA_n {G : GG} {p q : Nat} {f : Nat → Int32} (h : q ≠ p) : gA G p f q = G q := by simp [gA, h]
theorem gU_s {G : GG} {p k : Nat} {v : Int32} : gU G p k v p k = v := by simp [gU, gA, upd]
theorem gU_k {G : GG} {p k j : Nat} {v : Int32} (h : j ≠ k) : gU G p k v p j = G p j := by simp [gU, gA, upd, h]
theorem gU_n {G : GG} {p q k : Nat} {v : Int32} (h : q ≠ p) : gU G p k v q = G q := by simp [gU, gA, h]
/-- what a place holds: an array of numbers (its type, its length), an object (its class, of each field: a number, or where it points), an array of objects -/
abbrev zKd : Type := (Nat × Nat) ⊕ ((Nat × List (Option (Option Nat))) ⊕ List (Option Nat))
def zFld (ad : Nat → Nat) (g : Nat → Int32) : Nat → List (Option (Option Nat)) → List Value
  | _, [] => []
  | k, none :: t => .int (g k) :: zFld ad g (k + 1) t
  | k, some r :: t => va_rf (r.map ad) :: zFld ad g (k + 1) t
def zEnt (aC : Nat → ClassId) (ad : Nat → Nat) (g : Nat → Int32) : zKd → va_E
  | .inl (t, n) => .inl (aC t, n, .inl g)
  | .inr (.inl (ci, fk)) => .inr (ci, zFld ad g 0 fk)
  | .inr (.inr rs) => .inl (aC 3, rs.length, .inr (.inr (.inr (.inr (fun i => (rs.getD i none).map ad)))))
def zWs (aC : Nat → ClassId) (ad : Nat → Nat) (G : GG) : Nat → List zKd → va_W
  | _, [] => []
  | p, k :: t => (ad p, zEnt aC ad (G p) k) :: zWs aC ad G (p + 1) t
theorem zWs_get {aC : Nat → ClassId} {ad : Nat → Nat} {G : GG} : ∀ {lay : List zKd} {b i : Nat} {k : zKd}, lay[i]? = some k → (zWs aC ad G b lay)[i]? = some (ad (b + i), zEnt aC ad (G (b + i)) k)
  | [], _, _, _, h => by simp at h
  | x :: t, b, 0, k, h => by
    simp only [List.getElem?_cons_zero, Option.some.injEq] at h
    subst h
    rfl
  | x :: t, b, i + 1, k, h => by
    simp only [List.getElem?_cons_succ] at h
    have := zWs_get (aC := aC) (ad := ad) (G := G) (b := b + 1) h
    rw [show b + 1 + i = b + (i + 1) by omega] at this
    exact this
theorem zWs_congr {aC : Nat → ClassId} {ad : Nat → Nat} {G G' : GG} : ∀ {lay : List zKd} {b : Nat}, (∀ p, b ≤ p → G p = G' p) → zWs aC ad G b lay = zWs aC ad G' b lay
  | [], _, _ => rfl
  | x :: t, b, h => by
    show (ad b, zEnt aC ad (G b) x) :: zWs aC ad G (b + 1) t = (ad b, zEnt aC ad (G' b) x) :: zWs aC ad G' (b + 1) t
    rw [h b (Nat.le_refl b), zWs_congr (lay := t) (b := b + 1) (fun p hp => h p (by omega))]
theorem zWs_set {aC : Nat → ClassId} {ad : Nat → Nat} {G : GG} {f : Nat → Int32} : ∀ {lay : List zKd} {b i : Nat} {k : zKd}, lay[i]? = some k → (zWs aC ad G b lay).set i (ad (b + i), zEnt aC ad f k) = zWs aC ad (gA G (b + i) f) b lay
  | [], _, _, _, h => by simp at h
  | x :: t, b, 0, k, h => by
    simp only [List.getElem?_cons_zero, Option.some.injEq] at h
    subst h
    show (ad b, zEnt aC ad f x) :: zWs aC ad G (b + 1) t = (ad b, zEnt aC ad (gA G b f b) x) :: zWs aC ad (gA G b f) (b + 1) t
    rw [gA_s, zWs_congr (lay := t) (b := b + 1) (G' := gA G b f) (fun p hp => (gA_n (by omega)).symm)]
  | x :: t, b, i + 1, k, h => by
    simp only [List.getElem?_cons_succ] at h
    have e : b + 1 + i = b + (i + 1) := by omega
    have := zWs_set (aC := aC) (ad := ad) (G := G) (f := f) (b := b + 1) h
    rw [e] at this
    show (ad b, zEnt aC ad (G b) x) :: (zWs aC ad G (b + 1) t).set i _ = (ad b, zEnt aC ad (gA G (b + (i + 1)) f b) x) :: zWs aC ad (gA G (b + (i + 1)) f) (b + 1) t
    rw [this, gA_n (q := b) (by omega)]
theorem zFld_len {ad : Nat → Nat} {g : Nat → Int32} : ∀ {fk : List (Option (Option Nat))} {b : Nat}, (zFld ad g b fk).length = fk.length
  | [], _ => rfl
  | none :: t, b => by simp [zFld, zFld_len (fk := t) (b := b + 1)]
  | some r :: t, b => by simp [zFld, zFld_len (fk := t) (b := b + 1)]
theorem zFld_num {ad : Nat → Nat} {g : Nat → Int32} : ∀ {fk : List (Option (Option Nat))} {b k : Nat}, fk[k]? = some none → (zFld ad g b fk)[k]? = some (.int (g (b + k)))
  | [], _, _, h => by simp at h
  | none :: t, b, 0, _ => rfl
  | some r :: t, b, 0, h => by simp at h
  | none :: t, b, k + 1, h => by
    simp only [List.getElem?_cons_succ] at h
    have := zFld_num (ad := ad) (g := g) (b := b + 1) h
    rw [show b + 1 + k = b + (k + 1) by omega] at this
    exact this
  | some r :: t, b, k + 1, h => by
    simp only [List.getElem?_cons_succ] at h
    have := zFld_num (ad := ad) (g := g) (b := b + 1) h
    rw [show b + 1 + k = b + (k + 1) by omega] at this
    exact this
theorem zFld_ref {ad : Nat → Nat} {g : Nat → Int32} {q : Nat} : ∀ {fk : List (Option (Option Nat))} {b k : Nat}, fk[k]? = some (some (some q)) → (zFld ad g b fk)[k]? = some (.ref (ad q))
  | [], _, _, h => by simp at h
  | none :: t, b, 0, h => by simp at h
  | some r :: t, b, 0, h => by
    simp only [List.getElem?_cons_zero, Option.some.injEq] at h
    subst h
    rfl
  | none :: t, b, k + 1, h => by
    simp only [List.getElem?_cons_succ] at h
    exact zFld_ref (ad := ad) (g := g) (b := b + 1) h
  | some r :: t, b, k + 1, h => by
    simp only [List.getElem?_cons_succ] at h
    exact zFld_ref (ad := ad) (g := g) (b := b + 1) h
theorem zFld_congr {ad : Nat → Nat} {g g' : Nat → Int32} : ∀ {fk : List (Option (Option Nat))} {b : Nat}, (∀ j, b ≤ j → g j = g' j) → zFld ad g b fk = zFld ad g' b fk
  | [], _, _ => rfl
  | none :: t, b, h => by
    show Value.int (g b) :: zFld ad g (b + 1) t = Value.int (g' b) :: zFld ad g' (b + 1) t
    rw [h b (Nat.le_refl b), zFld_congr (fk := t) (b := b + 1) (fun j hj => h j (by omega))]
  | some r :: t, b, h => by
    show va_rf (r.map ad) :: zFld ad g (b + 1) t = va_rf (r.map ad) :: zFld ad g' (b + 1) t
    rw [zFld_congr (fk := t) (b := b + 1) (fun j hj => h j (by omega))]
theorem zFld_set {ad : Nat → Nat} {g : Nat → Int32} {v : Int32} : ∀ {fk : List (Option (Option Nat))} {b k : Nat}, fk[k]? = some none → (zFld ad g b fk).set k (.int v) = zFld ad (upd g (b + k) v) b fk
  | [], _, _, h => by simp at h
  | none :: t, b, 0, _ => by
    show Value.int v :: zFld ad g (b + 1) t = Value.int (upd g (b + 0) v b) :: zFld ad (upd g (b + 0) v) (b + 1) t
    rw [zFld_congr (fk := t) (b := b + 1) (g' := upd g (b + 0) v) (fun j hj => by simp [upd]; omega)]
    simp [upd]
  | some r :: t, b, 0, h => by simp at h
  | none :: t, b, k + 1, h => by
    simp only [List.getElem?_cons_succ] at h
    have := zFld_set (ad := ad) (g := g) (v := v) (b := b + 1) h
    rw [show b + 1 + k = b + (k + 1) by omega] at this
    show Value.int (g b) :: (zFld ad g (b + 1) t).set k _ = Value.int (upd g (b + (k + 1)) v b) :: _
    rw [this]
    simp [upd]
  | some r :: t, b, k + 1, h => by
    simp only [List.getElem?_cons_succ] at h
    have := zFld_set (ad := ad) (g := g) (v := v) (b := b + 1) h
    rw [show b + 1 + k = b + (k + 1) by omega] at this
    show va_rf (r.map ad) :: (zFld ad g (b + 1) t).set k _ = va_rf (r.map ad) :: _
    rw [this]
/-- values whose references are places -/
def zV (ad : Nat → Nat) : Value → Value
  | .ref p => .ref (ad p)
  | v => v
theorem zV_cat (ad : Nat → Nat) (v : Value) : (zV ad v).category = v.category := by cases v <;> rfl
theorem zS_sum (ad : Nat → Nat) (S : List Value) : ((S.map (zV ad)).map fun v => v.category).sum = (S.map fun v => v.category).sum := by
  rw [List.map_map]
  congr 1
  apply List.map_congr_left
  intro v _
  exact zV_cat ad v
def zL (ad : Nat → Nat) (L : List (Nat × Value)) : List (Nat × Value) := L.map fun q => (q.1, zV ad q.2)
theorem zL_args (ad : Nat → Nat) : ∀ (vs : List Value) (i : Nat), lv_args i (vs.map (zV ad)) = zL ad (lv_args i vs)
  | [], _ => rfl
  | v :: t, i => by
    show (i, zV ad v) :: lv_args (if (zV ad v).category = 2 then i + 2 else i + 1) (t.map (zV ad)) = (i, zV ad v) :: zL ad (lv_args (if v.category = 2 then i + 2 else i + 1) t)
    rw [zV_cat, zL_args ad t]
theorem zSl_len (ad : Nat → Nat) : ∀ (vs : List Value), (lg_sl (vs.map (zV ad))).length = (lg_sl vs).length
  | [] => rfl
  | v :: t => by
    have := zSl_len ad t
    simp only [lg_sl, List.map_cons, List.flatMap_cons, List.length_append, zV_cat] at this ⊢
    split <;> simp [this]
theorem zL_at {ad : Nat → Nat} {L : List (Nat × Value)} {k i : Nat} {v : Value} (h : L[k]? = some (i, v)) : (zL ad L)[k]? = some (i, zV ad v) := by
  simp [zL, List.getElem?_map, h]
def zIns (i : Nat) (v : Value) : List (Nat × Value) → List (Nat × Value)
  | [] => [(i, v)]
  | q :: t => if q.1 < i then q :: zIns i v t else (i, v) :: q :: t
theorem zIns_mem {i : Nat} {v : Value} {q : Nat × Value} : ∀ {l : List (Nat × Value)}, q ∈ zIns i v l → q = (i, v) ∨ q ∈ l
  | [], h => Or.inl (List.mem_singleton.mp h)
  | x :: t, h => by
    unfold zIns at h
    split at h
    · rcases List.mem_cons.mp h with h | h
      · exact Or.inr (h ▸ List.mem_cons_self)
      · exact (zIns_mem h).imp id (List.mem_cons_of_mem _)
    · rcases List.mem_cons.mp h with h | h
      · exact Or.inl h
      · exact Or.inr h
def zF1 (i : Nat) (L : List (Nat × Value)) : List (Nat × Value) := L.filter fun q => !(q.1 == i) && !(q.1 + 1 == i && q.2.category == 2)
def zF2 (i : Nat) (L : List (Nat × Value)) : List (Nat × Value) := L.filter fun q => !(q.1 == i) && (!(q.1 == i + 1) && !(q.1 + 1 == i && q.2.category == 2))
theorem zF1_L (ad : Nat → Nat) (i : Nat) (L : List (Nat × Value)) : (zL ad L).filter (fun q => !(q.1 == i) && !(q.1 + 1 == i && q.2.category == 2)) = zL ad (zF1 i L) := by
  unfold zL zF1
  rw [List.filter_map]
  congr 1
  apply List.filter_congr
  intro q _
  simp [zV_cat]
theorem zF2_L (ad : Nat → Nat) (i : Nat) (L : List (Nat × Value)) : (zL ad L).filter (fun q => !(q.1 == i) && (!(q.1 == i + 1) && !(q.1 + 1 == i && q.2.category == 2))) = zL ad (zF2 i L) := by
  unfold zL zF2
  rw [List.filter_map]
  congr 1
  apply List.filter_congr
  intro q _
  simp [zV_cat]
theorem zHas_ins {ls : Array Slot} {n i : Nat} {ad : Nat → Nat} {v : Value} {L L' : List (Nat × Value)} (h : lv_has ls n ((i, zV ad v) :: zL ad L)) (hL : zIns i v L = L') : lv_has ls n (zL ad L') := by
  refine ⟨h.1, h.2.1, fun q hq => ?_⟩
  obtain ⟨x, hx, rfl⟩ := List.mem_map.mp hq
  rw [← hL] at hx
  rcases zIns_mem hx with rfl | hx
  · exact h.2.2 _ List.mem_cons_self
  · exact h.2.2 _ (List.mem_cons_of_mem _ (List.mem_map.mpr ⟨x, hx, rfl⟩))
end
section
/-! the places of the two objects -/
def LAY : List zKd := [
  .inr (.inl (7, [some (some 1), some (some 7), some (some 13), some (some 14), some (some 15), some (some 18), some (some 23), some (some 24), none, none, none])),
  .inr (.inl (3, [none, none, none, some (some 2), some (some 3), some (some 4), some (some 5), some (some 6)])),
  .inl (0, 30), .inl (0, 30), .inl (0, 30), .inl (0, 30), .inl (0, 30),
  .inr (.inl (5, [some (some 8), none, none, some (some 9), some (some 10), some (some 11), some (some 12)])),
  .inr (.inr [some 25, some 28, some 31, some 34, some 37, some 40, some 43, some 46]),
  .inl (0, 30), .inl (0, 30), .inl (0, 30), .inl (0, 30),
  .inr (.inl (6, [none, none, none])),
  .inr (.inl (2, [some (some 1), some (some 7), some (some 13), none, none, none, none])),
  .inr (.inl (1, [some (some 1), some (some 7), some (some 13), some (some 16), some (some 17)])),
  .inl (0, 3480), .inl (0, 30),
  .inr (.inl (4, [some (some 7), some (some 15), none, some (some 19), none, some (some 20), some (some 21), some (some 22)])),
  .inl (0, 10), .inl (0, 10), .inl (0, 10), .inl (0, 30),
  .inl (0, 30), .inl (0, 30),
  .inr (.inl (0, [none, some (some 26), some (some 27)])), .inl (0, 8), .inl (0, 8),
  .inr (.inl (0, [none, some (some 29), some (some 30)])), .inl (0, 8), .inl (0, 8),
  .inr (.inl (0, [none, some (some 32), some (some 33)])), .inl (0, 8), .inl (0, 8),
  .inr (.inl (0, [none, some (some 35), some (some 36)])), .inl (0, 8), .inl (0, 8),
  .inr (.inl (0, [none, some (some 38), some (some 39)])), .inl (0, 8), .inl (0, 8),
  .inr (.inl (0, [none, some (some 41), some (some 42)])), .inl (0, 8), .inl (0, 8),
  .inr (.inl (0, [none, some (some 44), some (some 45)])), .inl (0, 8), .inl (0, 8),
  .inr (.inl (0, [none, some (some 47), some (some 48)])), .inl (0, 8), .inl (0, 8),
  .inr (.inl (8, [none, none, none, none, none, none, some (some 50), some (some 51), some (some 52), some (some 53), some (some 54), some (some 55), some (some 56), some (some 57), some (some 58), some (some 59), some (some 60), none, some (some 61), none, some (some 62), some (some 63), some (some 64), none, none, none, none, none, some (some 65), some (some 66), none, some (some 67)])),
  .inl (0, 30), .inl (0, 30), .inl (0, 30), .inl (0, 8), .inl (0, 64), .inl (0, 64), .inl (1, 30), .inl (0, 30), .inl (0, 30), .inl (0, 30), .inl (1, 30), .inl (0, 30), .inl (1, 30), .inl (1, 30), .inl (0, 10), .inl (0, 30), .inl (0, 30), .inl (2, 1024)]
def zT (aC : Nat → ClassId) : List (ClassId × FieldType) := [(aC 0, .int), (aC 1, .boolean), (aC 2, .byte), (aC 3, .object RX0)]
def zNest : List Cond := [.methodLinkNest RX0 22 yX7_isWithin RX7, .methodLinkNest RX5 35 yX7_holds RX7, .methodLinkNest RX3 41 yX7_holds RX7, .methodLinkNest RX3 45 yX7_isWithin RX7, .methodLinkNest RX2 94 yX7_holds RX7, .methodLinkNest RX1 57 yX7_holds RX7, .methodLinkNest RX4 55 yX7_holds RX7]
theorem zNest_form {w : Cond} (h : w ∈ zNest) : ∃ a i x b, w = .methodLinkNest a i x b := by
  simp only [zNest, List.mem_cons, List.not_mem_nil, or_false] at h
  rcases h with rfl | rfl | rfl | rfl | rfl | rfl | rfl <;> exact ⟨_, _, _, _, rfl⟩
theorem zNest_warm {s U : State} (hW : s.WarmedH U.vm) (h : ∀ w ∈ zNest, va_Nw w s) : ∀ w ∈ zNest, va_Nw w U := by
  intro w hw
  obtain ⟨a, i, x, b, rfl⟩ := zNest_form hw
  exact va_Nw.warmM hW (h _ hw)
theorem zNest_same {s U : State} (hv : s.vm = U.vm) (h : ∀ w ∈ zNest, va_Nw w s) : ∀ w ∈ zNest, va_Nw w U := by
  intro w hw
  obtain ⟨a, i, x, b, rfl⟩ := zNest_form hw
  exact va_Nw.same rfl hv (h _ hw)
/-- the tables' part of the world -/
def zK (D : va_G) (aC : Nat → ClassId) (U : State) : Prop := va_K D vwCl (zT aC) U ∧ ∀ w ∈ zNest, va_Nw w U
theorem zK.warm {D : va_G} {aC : Nat → ClassId} {s U : State} (h : zK D aC s) (hW : s.WarmedH U.vm) : zK D aC U := ⟨va_K.moved hW.alike h.1, zNest_warm hW h.2⟩
/-- the heap's part -/
def zP (D : va_G) (aC : Nat → ClassId) (ad : Nat → Nat) (base : Nat) (G : GG) (H : Heap) : Prop := va_P D vwCl (zWs aC ad G 0 LAY) H ∧ va_D (fun q => base ≤ q) (zWs aC ad G 0 LAY)
/-- a method: its name, code, locals, answer, and its room: frames, locals -/
abbrev zM : Type := MethodName × ByteArray × Nat × Option FieldType × Nat × Nat
def zRoom (K : zM) : Room := { frames := K.2.2.2.2.1, cells := 0, slots := 0, locals := K.2.2.2.2.2 }
def zWd (K : zM) : List Cond := Cond.code K.1 K.2.1 K.2.2.1 K.2.2.2.1 :: zTbl
def zQc (D : va_G) (aC : Nat → ClassId) (ad : Nat → Nat) (base : Nat) (post : Option Value → GG → Prop) : Array Value → State → Outcome → State → Prop := fun _ st oc t =>
  (∃ (r : Option Value) (G' : GG), oc = .returned (r.map (zV ad)) ∧ post r G' ∧ zK D aC t ∧ zP D aC ad base G' t.heap) ∧ va_F (fun q => base ≤ q) st t
def zPc (D : va_G) (aC : Nat → ClassId) (ad : Nat → Nat) (base : Nat) (args : List Value) (G : GG) : Array Value → State → Prop :=
  va_Pc (args.map (zV ad)) (fun U => base ≤ U.heap.size ∧ zK D aC U ∧ zP D aC ad base G U.heap)
/-- the contract of a method: called with these arguments at this heap it returns, and 'post' holds of its answer and the heap behind it -/
def CT (K : zM) (args : List Value) (G : GG) (post : Option Value → GG → Prop) : Prop :=
  ∀ (l : Launch) (D : va_G) (aC : Nat → ClassId) (ad : Nat → Nat) (base : Nat), Met l K.1 (zWd K) (zRoom K) (zPc D aC ad base args G) (zQc D aC ad base post) 0 0 (fun q => base ≤ q)
def CTi (K : zM) (args : List Value) (G : GG) (post : Int32 → GG → Prop) : Prop := CT K args G (fun r G' => ∃ x : Int32, r = some (.int x) ∧ post x G')
def CTl (K : zM) (args : List Value) (G : GG) (post : Int64 → GG → Prop) : Prop := CT K args G (fun r G' => ∃ x : Int64, r = some (.long x) ∧ post x G')
def CTv (K : zM) (args : List Value) (G : GG) (post : GG → Prop) : Prop := CT K args G (fun r G' => r = none ∧ post G')
def zCx (K : zM) (p : Program) (s : State) (m : MethodId) (args : Array Value) (meth : Method) (c : Code) : Prop :=
  p.tables.exec = Jvm.exec ∧ c.code = K.2.1 ∧ c.maxLocals = K.2.2.1 ∧ s.vm.findClass K.1.cls = some m.cls ∧ (∀ w ∈ zTbl, w.before args s = true) ∧ meth.sig.returnType = K.2.2.2.1 ∧ meth.locks = false
/-- the judgement: from this point of the method on, with these locals, stack and heap, it comes to its end with 'post' -/
def zJ (K : zM) (post : Option Value → GG → Prop) (pc : Nat) (L : List (Nat × Value)) (S : List Value) (G : GG) : Prop :=
  ∀ (l : Launch) (p : Program) (e : Env) (s : State) (m : MethodId) (args : Array Value) (below : List Frame) (meth : Method) (c : Code) (D : va_G) (aC : Nat → ClassId) (ad : Nat → Nat) (base : Nat) (H : Heap) (locs : List Loc) (ls : Array Slot),
    zCx K p s m args meth c → base ≤ s.heap.size → zK D aC s → zP D aC ad base G H → va_S (fun q => base ≤ q) s.heap H locs → lv_has ls K.2.2.1 (zL ad L) →
    W p l e (zRoom K) s m args below meth c H locs 0 0 (MQ below (zQc D aC ad base post) args s 0 0 (fun q => base ≤ q)) (F0 m pc ls (S.map (zV ad)))
theorem zBlind {D : va_G} {aC : Nat → ClassId} {ad : Nat → Nat} {base : Nat} {args : List Value} {G : GG} : FrameBlind (zPc D aC ad base args G) := by
  intro a U g mk h
  obtain ⟨h1, h2, h3, h4⟩ := h
  exact ⟨h1, h2, ⟨va_K.moved (u := U) (U := U.calling g mk a) (Vm.Alike.refl U.vm) h3.1, zNest_same (s := U) (U := U.calling g mk a) rfl h3.2⟩, h4⟩
theorem CT.of {K : zM} {av : List Value} {G : GG} {post : Option Value → GG → Prop} (hy : plainName K.1.cls = true) (hn : (lg_sl av).length ≤ K.2.2.1) (h : zJ K post 0 (lv_args 0 av) [] G) : CT K av G post := by
  intro l D aC ad base
  refine Met.ofW (cc := K.2.1) (maxL := K.2.2.1) (ret := K.2.2.2.1) (ws' := zTbl) hy rfl ?_
  intro p e s m args below meth c s₁ B hml hv
  obtain ⟨rfl, hbase, hK, hP⟩ := hv
  have hts := atoms_spec (ws := zWd K) B.pre
  have hl := lv_entry (av.map (zV ad)) (n := K.2.2.1) (by rw [zSl_len]; exact hn)
  rw [zL_args] at hl
  rw [lg_entry_eq]
  exact h l p e s m _ below meth c D aC ad base s.heap [] _ ⟨B.exec, B.bytes, hml, findClass_of_methodNamed B.named, fun w hw => hts w (List.mem_cons_of_mem _ hw), B.returns, B.notSynchronized⟩ hbase hK hP va_S.rf hl
/-- behind a call -/
theorem z_call {p : Program} {l : Launch} {e : Env} {R : Room} {s : State} {m : MethodId} {args : Array Value} {below : List Frame} {meth : Method} {c : Code} {H : Heap} {locs : List Loc} {Q : State → Prop} {pc base : Nat} {ls : Array Slot} {rest st0 : List Value} {a : Array Value} {D : va_G} {aC : Nat → ClassId} {ad : Nat → Nat} {post : Option Value → GG → Prop} {H0 : Heap}
    (hr : va_Run p l e R s m args below meth c H locs 0 0 0 0 (F0 m pc ls st0) rest (zQc D aC ad base post a) (fun q => base ≤ q)) (hS : va_S (fun q => base ≤ q) H0 H locs) (hK : zK D aC s)
    (kk : ∀ (r : Option Value) (G' : GG) (H1 : Heap) (locs1 : List Loc), post r G' → zP D aC ad base G' H1 → va_S (fun q => base ≤ q) H0 H1 locs1 → W p l e R s m args below meth c H1 locs1 0 0 Q (F0 m (pc + 3) ls ((r.map (zV ad)).toList ++ rest))) : W p l e R s m args below meth c H locs 0 0 Q (F0 m pc ls st0) := by
  intro T hT X
  obtain ⟨v, st₀, t, T', L, h0, X', hL, e1, e2, ⟨⟨r, G', hv, hp, hk, hP⟩, hz, hkk⟩, st⟩ := hr T hT X
  cases hv
  rw [h0] at hz hkk
  obtain ⟨t2, a1, b1⟩ := kk r G' T'.heap (locs ++ L) hp (by rw [e1]; exact hP)
    ⟨Nat.le_trans hS.1 (by rw [e1]; exact hz), fun q h1 h2 => by rw [e1, hkk q (Nat.lt_of_lt_of_le h1 hS.1) h2]; exact hS.2.1 q h1 h2, fun q hq => by
      rcases List.mem_append.mp hq with h | h
      · exact hS.2.2 q h
      · exact hL q h⟩ T' rfl X'
  exact ⟨t2, st t2 a1, b1⟩
/-- what the words say of a method that is called on an object, of one that is static -/
def zOkV (K : zM) (n : Nat) : Prop := Cond.instanceMethod K.1 ∈ zTbl ∧ Cond.selects K.1.cls K.1 K.1 ∈ zTbl ∧ Cond.initialized K.1.cls ∈ zTbl ∧ Cond.code K.1 K.2.1 K.2.2.1 K.2.2.2.1 ∈ zTbl ∧ K.1.cls ≠ "java/lang/invoke/MethodHandle" ∧ K.1.cls ≠ "java/lang/invoke/VarHandle" ∧ (parseMethodDescriptor K.1.desc).map (fun d => d.parameters.length) = some n
def zOkS (K : zM) (n : Nat) : Prop := Cond.static K.1 ∈ zTbl ∧ Cond.initialized K.1.cls ∈ zTbl ∧ Cond.code K.1 K.2.1 K.2.2.1 K.2.2.2.1 ∈ zTbl ∧ K.1.cls ≠ "java/lang/invoke/MethodHandle" ∧ K.1.cls ≠ "java/lang/invoke/VarHandle" ∧ (parseMethodDescriptor K.1.desc).map (fun d => d.parameters.length) = some n
/-- the callee's room fits the caller's -/
def zFit (K K' : zM) : Prop := K'.2.2.2.2.1 + 1 ≤ K.2.2.2.2.1 ∧ 8 + (K'.2.2.1 + 11) + K'.2.2.2.2.2 ≤ K.2.2.2.2.2
theorem zGood {K : zM} (h : Cond.code K.1 K.2.1 K.2.2.1 K.2.2.2.1 ∈ zTbl) : GoodIn zTbl (zWd K) := by
  intro w hw
  have hm : w ∈ zTbl := by
    rcases List.mem_cons.mp hw with rfl | hw
    · exact h
    · exact hw
  exact ⟨hm, good_of_word (zTbl_good hm)⟩
theorem zGoodV {K : zM} {n idx : Nat} {own : String} (h : zOkV K n) (hl : Cond.methodLink own idx K.1 ∈ zTbl) : GoodIn zTbl (wsV own idx K.1.cls K.1 (zWd K)) := by
  intro w hw
  have hm : w ∈ zTbl := by
    unfold wsV at hw
    rcases List.mem_append.mp hw with hw | hw
    · simp only [List.mem_cons, List.not_mem_nil, or_false] at hw
      rcases hw with rfl | rfl | rfl | rfl
      · exact hl
      · exact h.1
      · exact h.2.1
      · exact h.2.2.1
    · exact (zGood h.2.2.2.1 w hw).1
  exact ⟨hm, good_of_word (zTbl_good hm)⟩
theorem zGoodS {K : zM} {n idx : Nat} {own : String} (h : zOkS K n) (hl : Cond.methodLink own idx K.1 ∈ zTbl) : GoodIn zTbl (va_wsS own idx K.1 (zWd K)) := by
  intro w hw
  have hm : w ∈ zTbl := by
    unfold va_wsS at hw
    rcases List.mem_append.mp hw with hw | hw
    · simp only [List.mem_cons, List.not_mem_nil, or_false] at hw
      rcases hw with rfl | rfl | rfl
      · exact hl
      · exact h.1
      · exact h.2.1
    · exact (zGood h.2.2.1 w hw).1
  exact ⟨hm, good_of_word (zTbl_good hm)⟩
theorem zPre {D : va_G} {aC : Nat → ClassId} {ad : Nat → Nat} {base : Nat} {G : GG} {s : State} {H : Heap} {locs : List Loc} {av : List Value} (hb : base ≤ s.heap.size) (hK : zK D aC s) (hP : zP D aC ad base G H) (hS : va_S (fun q => base ≤ q) s.heap H locs) : ∀ U : State, U.heap = H → s.WarmedH U.vm → zPc D aC ad base av G (av.map (zV ad)).toArray U :=
  fun U hU hW => ⟨rfl, by rw [hU]; exact Nat.le_trans hb hS.1, hK.warm hW, by rw [hU]; exact hP⟩
theorem zRecv {D : va_G} {aC : Nat → ClassId} {ad : Nat → Nat} {base : Nat} {G : GG} {s : State} {H : Heap} {b ci : Nat} {fk : List (Option (Option Nat))} {q : vw_C} (hK : zK D aC s) (hP : zP D aC ad base G H) (hb : LAY[b]? = some (.inr (.inl (ci, fk)))) (hc : vwCl[ci]? = some q) : ∃ cell : Cell, H[ad b]? = some cell ∧ cell.vm.isStatics = false ∧ s.vm.findClass q.1 = some cell.cls := by
  have h := zWs_get (aC := aC) (ad := ad) (G := G) (b := 0) hb
  rw [Nat.zero_add] at h
  exact va_recv hK.1 hP.1 (ci := ci) (q0 := b) hc h
section ZC
variable {K K' : zM} {post : Option Value → GG → Prop} {pc idx n b ci : Nat} {L : List (Nat × Value)} {S S0 As : List Value} {G : GG} {fk : List (Option (Option Nat))} {T : u_T} {N : Nat}
theorem zTop (ad : Nat → Nat) (r : Option Value) (S : List Value) : (r.map (zV ad)).toList ++ S.map (zV ad) = (r.toList ++ S).map (zV ad) := by cases r <;> rfl
theorem j_callV (d : decode K.2.1 pc = .ok (.invokevirtual idx, 3)) (hl : Cond.methodLink K.1.cls idx K'.1 ∈ zTbl) (hok : zOkV K' n) (hfit : zFit K K') (hb : LAY[b]? = some (.inr (.inl (ci, fk)))) (hc : vwCl[ci]? = some (K'.1.cls, T, N)) (hn : As.length = n) (hs : (S.map fun v => v.category).sum ≤ 8) (hS0 : S0 = As.reverse ++ .ref b :: S)
    (h : CT K' (.ref b :: As) G (fun r G' => zJ K post (pc + 3) L (r.toList ++ S) G')) : zJ K post pc L S0 G := by
  intro l p e s m args below meth c D aC ad base H locs ls hC hb0 hK hP hS hl0
  obtain ⟨hx, hcb, hml, hown, hts, hr, hlk⟩ := id hC
  subst hS0
  have hrun := va_runV (e := e) (below := below) (meth := meth) (As := As.map (zV ad)) (rest := S.map (zV ad)) (b := ad b) (C := K'.1.cls) (g := F0 m pc ls ((As.reverse ++ .ref b :: S).map (zV ad))) (H := H) (locs := locs) (cells := 0) (slots := 0) (R := zRoom K) (cc := K.2.1) (nL := K.2.2.1) (Ts := zTbl) ⟨hx, hcb, hml, hown, hts⟩ (h l D aC ad base)
    (cwV n hts (zGoodV hok hl) rfl rfl rfl ⟨rfl, hok.2.2.2.2⟩ ⟨hfit.1, hfit.2⟩)
    ⟨zBlind, zRecv hK hP hb hc, fun U hU hW => by
      have := zPre (av := .ref b :: As) hb0 hK hP hS U hU hW
      exact this⟩ rfl (by rw [List.length_map]; exact hn) hl0.1 (by simp [zV, List.map_reverse]) (lv_room (by rw [zS_sum]; exact hs)) d ⟨Nat.le_refl 0, Nat.le_refl 0⟩
  refine z_call hrun hS hK fun r G' H1 locs1 hp hP1 hS1 => ?_
  rw [zTop]
  exact hp l p e s m args below meth c D aC ad base H1 locs1 ls hC hb0 hK hP1 hS1 hl0
theorem j_callS (d : decode K.2.1 pc = .ok (.invokestatic idx, 3)) (hl : Cond.methodLink K.1.cls idx K'.1 ∈ zTbl) (hok : zOkS K' n) (hfit : zFit K K') (hn : As.length = n) (hs : (S.map fun v => v.category).sum ≤ 8) (hS0 : S0 = As.reverse ++ S)
    (h : CT K' As G (fun r G' => zJ K post (pc + 3) L (r.toList ++ S) G')) : zJ K post pc L S0 G := by
  intro l p e s m args below meth c D aC ad base H locs ls hC hb0 hK hP hS hl0
  obtain ⟨hx, hcb, hml, hown, hts, hr, hlk⟩ := id hC
  subst hS0
  have hrun := va_runS (e := e) (below := below) (meth := meth) (As := As.map (zV ad)) (rest := S.map (zV ad)) (g := F0 m pc ls ((As.reverse ++ S).map (zV ad))) (H := H) (locs := locs) (cells := 0) (slots := 0) (R := zRoom K) (cc := K.2.1) (nL := K.2.2.1) (Ts := zTbl) ⟨hx, hcb, hml, hown, hts⟩ (h l D aC ad base)
    (va_cwS n hts (zGoodS hok hl) rfl rfl rfl hok.2.2.2 ⟨hfit.1, hfit.2⟩)
    ⟨zBlind, fun U hU hW => zPre (av := As) hb0 hK hP hS U hU hW⟩ rfl (by rw [List.length_map]; exact hn) hl0.1 (by simp [List.map_reverse]) (lv_room (by rw [zS_sum]; exact hs)) d ⟨Nat.le_refl 0, Nat.le_refl 0⟩
  refine z_call hrun hS hK fun r G' H1 locs1 hp hP1 hS1 => ?_
  rw [zTop]
  exact hp l p e s m args below meth c D aC ad base H1 locs1 ls hC hb0 hK hP1 hS1 hl0
theorem j_callN {host : String} (d : decode K.2.1 pc = .ok (.invokestatic idx, 3)) (hl : Cond.methodLinkNest K.1.cls idx K'.1 host ∈ zNest) (hok : zOkS K' n) (hfit : zFit K K') (hn : As.length = n) (hs : (S.map fun v => v.category).sum ≤ 8) (hS0 : S0 = As.reverse ++ S)
    (h : CT K' As G (fun r G' => zJ K post (pc + 3) L (r.toList ++ S) G')) : zJ K post pc L S0 G := by
  intro l p e s m args below meth c D aC ad base H locs ls hC hb0 hK hP hS hl0
  obtain ⟨hx, hcb, hml, hown, hts, hr, hlk⟩ := id hC
  subst hS0
  have hrun := va_runSN (e := e) (below := below) (meth := meth) (As := As.map (zV ad)) (rest := S.map (zV ad)) (g := F0 m pc ls ((As.reverse ++ S).map (zV ad))) (H := H) (locs := locs) (cells := 0) (slots := 0) (R := zRoom K) (cc := K.2.1) (nL := K.2.2.1) (Ts := zTbl) ⟨hx, hcb, hml, hown, hts⟩ (h l D aC ad base)
    ⟨va_cnB n hts (zGood hok.2.2.1) rfl rfl rfl (hK.2 _ hl) (hts _ hok.2.1) hok.2.2.2 ⟨hfit.1, hfit.2⟩, hts _ hok.1, trivial⟩
    ⟨zBlind, fun U hU hW => zPre (av := As) hb0 hK hP hS U hU hW⟩ rfl (by rw [List.length_map]; exact hn) hl0.1 (by simp [List.map_reverse]) (lv_room (by rw [zS_sum]; exact hs)) d ⟨Nat.le_refl 0, Nat.le_refl 0⟩
  refine z_call hrun hS hK fun r G' H1 locs1 hp hP1 hS1 => ?_
  rw [zTop]
  exact hp l p e s m args below meth c D aC ad base H1 locs1 ls hC hb0 hK hP1 hS1 hl0
end ZC
end
section
theorem zW {aC : Nat → ClassId} {ad : Nat → Nat} {G : GG} {b : Nat} {k : zKd} (h : LAY[b]? = some k) : (zWs aC ad G 0 LAY)[b]? = some (ad b, zEnt aC ad (G b) k) := by
  have := zWs_get (aC := aC) (ad := ad) (G := G) (b := 0) h
  rwa [Nat.zero_add] at this
theorem zWset {aC : Nat → ClassId} {ad : Nat → Nat} {G : GG} {b : Nat} {k : zKd} (f : Nat → Int32) (h : LAY[b]? = some k) : (zWs aC ad G 0 LAY).set b (ad b, zEnt aC ad f k) = zWs aC ad (gA G b f) 0 LAY := by
  have := zWs_set (aC := aC) (ad := ad) (G := G) (f := f) (b := 0) h
  rwa [Nat.zero_add] at this
def zFL (own : String) (idx ci k : Nat) : Prop := ∃ (R : String) (T : u_T) (N : Nat), vwCl[ci]? = some (R, T, N) ∧ k < N ∧ (∀ w ∈ u_ws R T N, w ∈ zTbl) ∧ Cond.fieldLink own idx (T k).1 (T k).2.1 (T k).2.2.1 ∈ zTbl
def zFP (own : String) (idx ci k : Nat) (ty : FieldType) : Prop := ∃ (R : String) (T : u_T) (N : Nat) (ty0 : Nat → FieldType), vwCl[ci]? = some (R, T, N) ∧ k < N ∧ (∀ w ∈ u_ws R T N, w ∈ zTbl) ∧ Cond.fieldLink own idx (T k).1 (T k).2.1 (T k).2.2.1 ∈ zTbl ∧ (T k).2.2.2 = false ∧ parseFieldDescriptor (T k).2.2.1 = some ty ∧ (∀ k, k < N → parseFieldDescriptor (T k).2.2.1 = some (ty0 k)) ∧ (∀ a, a < N → ∀ b, b < N → a ≠ b → (T a).2.1 ≠ (T b).2.1)
theorem zc_lt {x y : Int64} : lg_cmp x y < 0 ↔ x < y := by
  unfold lg_cmp
  by_cases h1 : y < x
  · have : ¬ x < y := fun h => by rw [Int64.lt_iff_toInt_lt] at h h1; omega
    simp [h1, this]
  · by_cases h2 : x = y
    · subst h2; simp [h1]
    · have : x < y := by
        rw [Int64.lt_iff_toInt_lt] at h1 ⊢
        have : x.toInt ≠ y.toInt := fun h => h2 (Int64.toInt_inj.mp h)
        omega
      simp [h1, h2, this]
theorem zc_gt {x y : Int64} : 0 < lg_cmp x y ↔ y < x := by
  unfold lg_cmp
  by_cases h1 : y < x
  · simp [h1]
  · by_cases h2 : x = y
    · subst h2; simp [h1]
    · simp [h1, h2]
theorem zc_ge {x y : Int64} : 0 ≤ lg_cmp x y ↔ y ≤ x := by
  rw [← Int32.not_lt, zc_lt, Int64.not_lt]
theorem zc_le {x y : Int64} : lg_cmp x y ≤ 0 ↔ x ≤ y := by
  rw [← Int32.not_lt, zc_gt, Int64.not_lt]
theorem zc_eq {x y : Int64} : lg_cmp x y = 0 ↔ x = y := by
  unfold lg_cmp
  by_cases h1 : y < x
  · have : ¬ x = y := fun h => by subst h; rw [Int64.lt_iff_toInt_lt] at h1; omega
    simp [h1, this]
  · by_cases h2 : x = y
    · subst h2; simp [h1]
    · simp [h1, h2]
section ZR
variable {K : zM} {post : Option Value → GG → Prop} {pc j : Nat} {L L' : List (Nat × Value)} {S : List Value} {G : GG}
theorem j_sub (ks : List Nat) (h : lv_pick L ks = L') (k : zJ K post pc L' S G) : zJ K post pc L S G := by
  intro l p e s m args below meth c D aC ad base H locs ls hC hb0 hK hP hS hl
  refine k l p e s m args below meth c D aC ad base H locs ls hC hb0 hK hP hS ⟨hl.1, hl.2.1, fun q hq => hl.2.2 q ?_⟩
  obtain ⟨x, hx, rfl⟩ := List.mem_map.mp hq
  rw [← h] at hx
  obtain ⟨i, -, hi⟩ := List.mem_filterMap.mp hx
  exact List.mem_map.mpr ⟨x, List.mem_of_getElem? hi, rfl⟩
theorem j_iconst {n : Int} (v : Int32) (q : Nat) (hq : pc + 1 = q) (d : decode K.2.1 pc = .ok (.iconst n, 1)) (hv : Int32.ofInt n = v) (k : zJ K post q L (.int v :: S) G) : zJ K post pc L S G := by
  intro l p e s m args below meth c D aC ad base H locs ls hC hb0 hK hP hS hl
  obtain ⟨hx, hb, hml, hown, hts, hr, hlk⟩ := id hC
  subst hq
  exact lv_iconst (rest := S.map (zV ad)) hx hb d hv (k l p e s m args below meth c D aC ad base H locs ls hC hb0 hK hP hS hl)
theorem j_bipush {n : Int} (v : Int32) (q : Nat) (hq : pc + 2 = q) (d : decode K.2.1 pc = .ok (.bipush n, 2)) (hv : (Int8.ofInt n).toInt32 = v) (k : zJ K post q L (.int v :: S) G) : zJ K post pc L S G := by
  intro l p e s m args below meth c D aC ad base H locs ls hC hb0 hK hP hS hl
  obtain ⟨hx, hb, hml, hown, hts, hr, hlk⟩ := id hC
  subst hq
  exact lv_bipush (rest := S.map (zV ad)) hx hb d hv (k l p e s m args below meth c D aC ad base H locs ls hC hb0 hK hP hS hl)
theorem j_sipush {n : Int} (v : Int32) (q : Nat) (hq : pc + 3 = q) (d : decode K.2.1 pc = .ok (.sipush n, 3)) (hv : (Int16.ofInt n).toInt32 = v) (k : zJ K post q L (.int v :: S) G) : zJ K post pc L S G := by
  intro l p e s m args below meth c D aC ad base H locs ls hC hb0 hK hP hS hl
  obtain ⟨hx, hb, hml, hown, hts, hr, hlk⟩ := id hC
  subst hq
  exact lv_sipush (rest := S.map (zV ad)) hx hb d hv (k l p e s m args below meth c D aC ad base H locs ls hC hb0 hK hP hS hl)
theorem j_lconst {n : Fin 2} (v : Int64) (q : Nat) (hq : pc + 1 = q) (d : decode K.2.1 pc = .ok (.lconst n, 1)) (hv : Int64.ofNat (n : Nat) = v) (k : zJ K post q L (.long v :: S) G) : zJ K post pc L S G := by
  intro l p e s m args below meth c D aC ad base H locs ls hC hb0 hK hP hS hl
  obtain ⟨hx, hb, hml, hown, hts, hr, hlk⟩ := id hC
  subst hq
  exact lv_lconst (rest := S.map (zV ad)) hx hb d hv (k l p e s m args below meth c D aC ad base H locs ls hC hb0 hK hP hS hl)
theorem j_ldc {idx : Nat} (v : Int32) (q : Nat) (hq : pc + 2 = q) (d : decode K.2.1 pc = .ok (.ldc idx, 2)) (hw : Cond.constant K.1.cls idx v ∈ zTbl) (k : zJ K post q L (.int v :: S) G) : zJ K post pc L S G := by
  intro l p e s m args below meth c D aC ad base H locs ls hC hb0 hK hP hS hl
  obtain ⟨hx, hb, hml, hown, hts, hr, hlk⟩ := id hC
  subst hq
  exact lv_ldc (rest := S.map (zV ad)) hx hb hown (hts _ hw) d (k l p e s m args below meth c D aC ad base H locs ls hC hb0 hK hP hS hl)
theorem j_ldc_w {idx : Nat} (v : Int32) (q : Nat) (hq : pc + 3 = q) (d : decode K.2.1 pc = .ok (.ldc_w idx, 3)) (hw : Cond.constant K.1.cls idx v ∈ zTbl) (k : zJ K post q L (.int v :: S) G) : zJ K post pc L S G := by
  intro l p e s m args below meth c D aC ad base H locs ls hC hb0 hK hP hS hl
  obtain ⟨hx, hb, hml, hown, hts, hr, hlk⟩ := id hC
  subst hq
  exact lv_ldcw (rest := S.map (zV ad)) hx hb hown (hts _ hw) d (k l p e s m args below meth c D aC ad base H locs ls hC hb0 hK hP hS hl)
theorem j_ldc2_w {idx : Nat} (v : Int64) (q : Nat) (hq : pc + 3 = q) (d : decode K.2.1 pc = .ok (.ldc2_w idx, 3)) (hw : Cond.constantLong K.1.cls idx v ∈ zTbl) (k : zJ K post q L (.long v :: S) G) : zJ K post pc L S G := by
  intro l p e s m args below meth c D aC ad base H locs ls hC hb0 hK hP hS hl
  obtain ⟨hx, hb, hml, hown, hts, hr, hlk⟩ := id hC
  subst hq
  exact lv_ldc2 (rest := S.map (zV ad)) hx hb hown (hts _ hw) d (k l p e s m args below meth c D aC ad base H locs ls hC hb0 hK hP hS hl)
theorem j_iload_n {k0 : Fin 4} {i : Nat} {x : Int32} (j : Nat) (q : Nat) (hq : pc + 1 = q) (d : decode K.2.1 pc = .ok (.iload_n k0, 1)) (hi : (k0 : Nat) = i) (hL : L[j]? = some (i, .int x)) (k : zJ K post q L (.int x :: S) G) : zJ K post pc L S G := by
  intro l p e s m args below meth c D aC ad base H locs ls hC hb0 hK hP hS hl
  obtain ⟨hx, hb, hml, hown, hts, hr, hlk⟩ := id hC
  subst hq
  exact lv_iload_n (rest := S.map (zV ad)) hx hb d hi (lv_at hl j (zL_at hL)) (k l p e s m args below meth c D aC ad base H locs ls hC hb0 hK hP hS hl)
theorem j_iload {i : Nat} {x : Int32} (j : Nat) (q : Nat) (hq : pc + 2 = q) (d : decode K.2.1 pc = .ok (.iload i, 2)) (hL : L[j]? = some (i, .int x)) (k : zJ K post q L (.int x :: S) G) : zJ K post pc L S G := by
  intro l p e s m args below meth c D aC ad base H locs ls hC hb0 hK hP hS hl
  obtain ⟨hx, hb, hml, hown, hts, hr, hlk⟩ := id hC
  subst hq
  exact lv_iload (rest := S.map (zV ad)) hx hb d (lv_at hl j (zL_at hL)) (k l p e s m args below meth c D aC ad base H locs ls hC hb0 hK hP hS hl)
theorem j_istore_n {k0 : Fin 4} {i : Nat} {x : Int32} (L' : List (Nat × Value)) (q : Nat) (hq : pc + 1 = q) (d : decode K.2.1 pc = .ok (.istore_n k0, 1)) (hi : (k0 : Nat) = i) (hn : i < K.2.2.1) (hL : zIns i (.int x) (zF1 i L) = L') (k : zJ K post q L' S G) : zJ K post pc L (.int x :: S) G := by
  intro l p e s m args below meth c D aC ad base H locs ls hC hb0 hK hP hS hl
  obtain ⟨hx, hb, hml, hown, hts, hr, hlk⟩ := id hC
  subst hq
  refine lv_istore_n (x := x) (rest := S.map (zV ad)) (lv' := (i, zV ad (.int x)) :: zL ad (zF1 i L)) hx hb d hi hl hn (by rw [zF1_L]; rfl) (fun ls hl => ?_)
  exact k l p e s m args below meth c D aC ad base H locs ls hC hb0 hK hP hS (zHas_ins hl hL)
theorem j_istore {i : Nat} {x : Int32} (L' : List (Nat × Value)) (q : Nat) (hq : pc + 2 = q) (d : decode K.2.1 pc = .ok (.istore i, 2)) (hn : i < K.2.2.1) (hL : zIns i (.int x) (zF1 i L) = L') (k : zJ K post q L' S G) : zJ K post pc L (.int x :: S) G := by
  intro l p e s m args below meth c D aC ad base H locs ls hC hb0 hK hP hS hl
  obtain ⟨hx, hb, hml, hown, hts, hr, hlk⟩ := id hC
  subst hq
  refine lv_istore (x := x) (rest := S.map (zV ad)) (lv' := (i, zV ad (.int x)) :: zL ad (zF1 i L)) hx hb d hl hn (by rw [zF1_L]; rfl) (fun ls hl => ?_)
  exact k l p e s m args below meth c D aC ad base H locs ls hC hb0 hK hP hS (zHas_ins hl hL)
theorem j_lload_n {k0 : Fin 4} {i : Nat} {x : Int64} (j : Nat) (q : Nat) (hq : pc + 1 = q) (d : decode K.2.1 pc = .ok (.lload_n k0, 1)) (hi : (k0 : Nat) = i) (hL : L[j]? = some (i, .long x)) (k : zJ K post q L (.long x :: S) G) : zJ K post pc L S G := by
  intro l p e s m args below meth c D aC ad base H locs ls hC hb0 hK hP hS hl
  obtain ⟨hx, hb, hml, hown, hts, hr, hlk⟩ := id hC
  subst hq
  exact lv_lload_n (rest := S.map (zV ad)) hx hb d hi (lv_at hl j (zL_at hL)) (k l p e s m args below meth c D aC ad base H locs ls hC hb0 hK hP hS hl)
theorem j_lload {i : Nat} {x : Int64} (j : Nat) (q : Nat) (hq : pc + 2 = q) (d : decode K.2.1 pc = .ok (.lload i, 2)) (hL : L[j]? = some (i, .long x)) (k : zJ K post q L (.long x :: S) G) : zJ K post pc L S G := by
  intro l p e s m args below meth c D aC ad base H locs ls hC hb0 hK hP hS hl
  obtain ⟨hx, hb, hml, hown, hts, hr, hlk⟩ := id hC
  subst hq
  exact lv_lload (rest := S.map (zV ad)) hx hb d (lv_at hl j (zL_at hL)) (k l p e s m args below meth c D aC ad base H locs ls hC hb0 hK hP hS hl)
theorem j_lstore_n {k0 : Fin 4} {i : Nat} {x : Int64} (L' : List (Nat × Value)) (q : Nat) (hq : pc + 1 = q) (d : decode K.2.1 pc = .ok (.lstore_n k0, 1)) (hi : (k0 : Nat) = i) (hn : i + 1 < K.2.2.1) (hL : zIns i (.long x) (zF2 i L) = L') (k : zJ K post q L' S G) : zJ K post pc L (.long x :: S) G := by
  intro l p e s m args below meth c D aC ad base H locs ls hC hb0 hK hP hS hl
  obtain ⟨hx, hb, hml, hown, hts, hr, hlk⟩ := id hC
  subst hq
  refine lv_lstore_n (x := x) (rest := S.map (zV ad)) (lv' := (i, zV ad (.long x)) :: zL ad (zF2 i L)) hx hb d hi hl hn (by rw [zF2_L]; rfl) (fun ls hl => ?_)
  exact k l p e s m args below meth c D aC ad base H locs ls hC hb0 hK hP hS (zHas_ins hl hL)
theorem j_lstore {i : Nat} {x : Int64} (L' : List (Nat × Value)) (q : Nat) (hq : pc + 2 = q) (d : decode K.2.1 pc = .ok (.lstore i, 2)) (hn : i + 1 < K.2.2.1) (hL : zIns i (.long x) (zF2 i L) = L') (k : zJ K post q L' S G) : zJ K post pc L (.long x :: S) G := by
  intro l p e s m args below meth c D aC ad base H locs ls hC hb0 hK hP hS hl
  obtain ⟨hx, hb, hml, hown, hts, hr, hlk⟩ := id hC
  subst hq
  refine lv_lstore (x := x) (rest := S.map (zV ad)) (lv' := (i, zV ad (.long x)) :: zL ad (zF2 i L)) hx hb d hl hn (by rw [zF2_L]; rfl) (fun ls hl => ?_)
  exact k l p e s m args below meth c D aC ad base H locs ls hC hb0 hK hP hS (zHas_ins hl hL)
theorem j_aload_n {k0 : Fin 4} {i : Nat} {x : Nat} (j : Nat) (q : Nat) (hq : pc + 1 = q) (d : decode K.2.1 pc = .ok (.aload_n k0, 1)) (hi : (k0 : Nat) = i) (hL : L[j]? = some (i, .ref x)) (k : zJ K post q L (.ref x :: S) G) : zJ K post pc L S G := by
  intro l p e s m args below meth c D aC ad base H locs ls hC hb0 hK hP hS hl
  obtain ⟨hx, hb, hml, hown, hts, hr, hlk⟩ := id hC
  subst hq
  exact lv_aload_n (rest := S.map (zV ad)) hx hb d hi (lv_at hl j (zL_at hL)) (k l p e s m args below meth c D aC ad base H locs ls hC hb0 hK hP hS hl)
theorem j_aload {i : Nat} {x : Nat} (j : Nat) (q : Nat) (hq : pc + 2 = q) (d : decode K.2.1 pc = .ok (.aload i, 2)) (hL : L[j]? = some (i, .ref x)) (k : zJ K post q L (.ref x :: S) G) : zJ K post pc L S G := by
  intro l p e s m args below meth c D aC ad base H locs ls hC hb0 hK hP hS hl
  obtain ⟨hx, hb, hml, hown, hts, hr, hlk⟩ := id hC
  subst hq
  exact lv_aload (rest := S.map (zV ad)) hx hb d (lv_at hl j (zL_at hL)) (k l p e s m args below meth c D aC ad base H locs ls hC hb0 hK hP hS hl)
theorem j_astore_n {k0 : Fin 4} {i : Nat} {x : Nat} (L' : List (Nat × Value)) (q : Nat) (hq : pc + 1 = q) (d : decode K.2.1 pc = .ok (.astore_n k0, 1)) (hi : (k0 : Nat) = i) (hn : i < K.2.2.1) (hL : zIns i (.ref x) (zF1 i L) = L') (k : zJ K post q L' S G) : zJ K post pc L (.ref x :: S) G := by
  intro l p e s m args below meth c D aC ad base H locs ls hC hb0 hK hP hS hl
  obtain ⟨hx, hb, hml, hown, hts, hr, hlk⟩ := id hC
  subst hq
  refine lv_astore_n (x := ad x) (rest := S.map (zV ad)) (lv' := (i, zV ad (.ref x)) :: zL ad (zF1 i L)) hx hb d hi hl hn (by rw [zF1_L]; rfl) (fun ls hl => ?_)
  exact k l p e s m args below meth c D aC ad base H locs ls hC hb0 hK hP hS (zHas_ins hl hL)
theorem j_astore {i : Nat} {x : Nat} (L' : List (Nat × Value)) (q : Nat) (hq : pc + 2 = q) (d : decode K.2.1 pc = .ok (.astore i, 2)) (hn : i < K.2.2.1) (hL : zIns i (.ref x) (zF1 i L) = L') (k : zJ K post q L' S G) : zJ K post pc L (.ref x :: S) G := by
  intro l p e s m args below meth c D aC ad base H locs ls hC hb0 hK hP hS hl
  obtain ⟨hx, hb, hml, hown, hts, hr, hlk⟩ := id hC
  subst hq
  refine lv_astore (x := ad x) (rest := S.map (zV ad)) (lv' := (i, zV ad (.ref x)) :: zL ad (zF1 i L)) hx hb d hl hn (by rw [zF1_L]; rfl) (fun ls hl => ?_)
  exact k l p e s m args below meth c D aC ad base H locs ls hC hb0 hK hP hS (zHas_ins hl hL)
theorem j_iinc {i : Nat} {n : Int} {x : Int32} (j : Nat) (v : Int32) (L' : List (Nat × Value)) (q : Nat) (hq : pc + 3 = q) (d : decode K.2.1 pc = .ok (.iinc i n, 3)) (hL0 : L[j]? = some (i, .int x)) (hv : x + Int32.ofInt n = v) (hn : i < K.2.2.1) (hL : zIns i (.int v) (zF1 i L) = L') (k : zJ K post q L' S G) : zJ K post pc L S G := by
  intro l p e s m args below meth c D aC ad base H locs ls hC hb0 hK hP hS hl
  obtain ⟨hx, hb, hml, hown, hts, hr, hlk⟩ := id hC
  subst hq
  refine lv_iinc (v := v) (lv' := (i, zV ad (.int v)) :: zL ad (zF1 i L)) hx hb d hl (zL_at hL0) hv hn (by rw [zF1_L]; rfl) (fun ls hl => ?_)
  exact k l p e s m args below meth c D aC ad base H locs ls hC hb0 hK hP hS (zHas_ins hl hL)
theorem j_iadd {x y : Int32} (q : Nat) (hq : pc + 1 = q) (d : decode K.2.1 pc = .ok (.iadd, 1)) (k : zJ K post q L (.int (x + y) :: S) G) : zJ K post pc L (.int y :: .int x :: S) G := by
  intro l p e s m args below meth c D aC ad base H locs ls hC hb0 hK hP hS hl
  obtain ⟨hx, hb, hml, hown, hts, hr, hlk⟩ := id hC
  subst hq
  exact lv_iadd (rest := S.map (zV ad)) hx hb d (k l p e s m args below meth c D aC ad base H locs ls hC hb0 hK hP hS hl)
theorem j_isub {x y : Int32} (q : Nat) (hq : pc + 1 = q) (d : decode K.2.1 pc = .ok (.isub, 1)) (k : zJ K post q L (.int (x - y) :: S) G) : zJ K post pc L (.int y :: .int x :: S) G := by
  intro l p e s m args below meth c D aC ad base H locs ls hC hb0 hK hP hS hl
  obtain ⟨hx, hb, hml, hown, hts, hr, hlk⟩ := id hC
  subst hq
  exact lv_isub (rest := S.map (zV ad)) hx hb d (k l p e s m args below meth c D aC ad base H locs ls hC hb0 hK hP hS hl)
theorem j_imul {x y : Int32} (q : Nat) (hq : pc + 1 = q) (d : decode K.2.1 pc = .ok (.imul, 1)) (k : zJ K post q L (.int (x * y) :: S) G) : zJ K post pc L (.int y :: .int x :: S) G := by
  intro l p e s m args below meth c D aC ad base H locs ls hC hb0 hK hP hS hl
  obtain ⟨hx, hb, hml, hown, hts, hr, hlk⟩ := id hC
  subst hq
  exact lv_imul (rest := S.map (zV ad)) hx hb d (k l p e s m args below meth c D aC ad base H locs ls hC hb0 hK hP hS hl)
theorem j_iand {x y : Int32} (q : Nat) (hq : pc + 1 = q) (d : decode K.2.1 pc = .ok (.iand, 1)) (k : zJ K post q L (.int (x &&& y) :: S) G) : zJ K post pc L (.int y :: .int x :: S) G := by
  intro l p e s m args below meth c D aC ad base H locs ls hC hb0 hK hP hS hl
  obtain ⟨hx, hb, hml, hown, hts, hr, hlk⟩ := id hC
  subst hq
  exact lv_iand (rest := S.map (zV ad)) hx hb d (k l p e s m args below meth c D aC ad base H locs ls hC hb0 hK hP hS hl)
theorem j_ior {x y : Int32} (q : Nat) (hq : pc + 1 = q) (d : decode K.2.1 pc = .ok (.ior, 1)) (k : zJ K post q L (.int (x ||| y) :: S) G) : zJ K post pc L (.int y :: .int x :: S) G := by
  intro l p e s m args below meth c D aC ad base H locs ls hC hb0 hK hP hS hl
  obtain ⟨hx, hb, hml, hown, hts, hr, hlk⟩ := id hC
  subst hq
  exact lv_ior (rest := S.map (zV ad)) hx hb d (k l p e s m args below meth c D aC ad base H locs ls hC hb0 hK hP hS hl)
theorem j_ixor {x y : Int32} (q : Nat) (hq : pc + 1 = q) (d : decode K.2.1 pc = .ok (.ixor, 1)) (k : zJ K post q L (.int (x ^^^ y) :: S) G) : zJ K post pc L (.int y :: .int x :: S) G := by
  intro l p e s m args below meth c D aC ad base H locs ls hC hb0 hK hP hS hl
  obtain ⟨hx, hb, hml, hown, hts, hr, hlk⟩ := id hC
  subst hq
  exact lv_ixor (rest := S.map (zV ad)) hx hb d (k l p e s m args below meth c D aC ad base H locs ls hC hb0 hK hP hS hl)
theorem j_ishl {x y : Int32} (q : Nat) (hq : pc + 1 = q) (d : decode K.2.1 pc = .ok (.ishl, 1)) (k : zJ K post q L (.int (x <<< (y &&& 31)) :: S) G) : zJ K post pc L (.int y :: .int x :: S) G := by
  intro l p e s m args below meth c D aC ad base H locs ls hC hb0 hK hP hS hl
  obtain ⟨hx, hb, hml, hown, hts, hr, hlk⟩ := id hC
  subst hq
  exact lv_ishl (rest := S.map (zV ad)) hx hb d (k l p e s m args below meth c D aC ad base H locs ls hC hb0 hK hP hS hl)
theorem j_ishr {x y : Int32} (q : Nat) (hq : pc + 1 = q) (d : decode K.2.1 pc = .ok (.ishr, 1)) (k : zJ K post q L (.int (x >>> (y &&& 31)) :: S) G) : zJ K post pc L (.int y :: .int x :: S) G := by
  intro l p e s m args below meth c D aC ad base H locs ls hC hb0 hK hP hS hl
  obtain ⟨hx, hb, hml, hown, hts, hr, hlk⟩ := id hC
  subst hq
  exact lv_ishr (rest := S.map (zV ad)) hx hb d (k l p e s m args below meth c D aC ad base H locs ls hC hb0 hK hP hS hl)
theorem j_ladd {x y : Int64} (q : Nat) (hq : pc + 1 = q) (d : decode K.2.1 pc = .ok (.ladd, 1)) (k : zJ K post q L (.long (x + y) :: S) G) : zJ K post pc L (.long y :: .long x :: S) G := by
  intro l p e s m args below meth c D aC ad base H locs ls hC hb0 hK hP hS hl
  obtain ⟨hx, hb, hml, hown, hts, hr, hlk⟩ := id hC
  subst hq
  exact lv_ladd (rest := S.map (zV ad)) hx hb d (k l p e s m args below meth c D aC ad base H locs ls hC hb0 hK hP hS hl)
theorem j_lsub {x y : Int64} (q : Nat) (hq : pc + 1 = q) (d : decode K.2.1 pc = .ok (.lsub, 1)) (k : zJ K post q L (.long (x - y) :: S) G) : zJ K post pc L (.long y :: .long x :: S) G := by
  intro l p e s m args below meth c D aC ad base H locs ls hC hb0 hK hP hS hl
  obtain ⟨hx, hb, hml, hown, hts, hr, hlk⟩ := id hC
  subst hq
  exact lv_lsub (rest := S.map (zV ad)) hx hb d (k l p e s m args below meth c D aC ad base H locs ls hC hb0 hK hP hS hl)
theorem j_lmul {x y : Int64} (q : Nat) (hq : pc + 1 = q) (d : decode K.2.1 pc = .ok (.lmul, 1)) (k : zJ K post q L (.long (x * y) :: S) G) : zJ K post pc L (.long y :: .long x :: S) G := by
  intro l p e s m args below meth c D aC ad base H locs ls hC hb0 hK hP hS hl
  obtain ⟨hx, hb, hml, hown, hts, hr, hlk⟩ := id hC
  subst hq
  exact lv_lmul (rest := S.map (zV ad)) hx hb d (k l p e s m args below meth c D aC ad base H locs ls hC hb0 hK hP hS hl)
theorem j_idiv {x y : Int32} (q : Nat) (hq : pc + 1 = q) (d : decode K.2.1 pc = .ok (.idiv, 1)) (hne : ¬ y = 0) (k : zJ K post q L (.int (x / y) :: S) G) : zJ K post pc L (.int y :: .int x :: S) G := by
  intro l p e s m args below meth c D aC ad base H locs ls hC hb0 hK hP hS hl
  obtain ⟨hx, hb, hml, hown, hts, hr, hlk⟩ := id hC
  subst hq
  exact lv_idiv (rest := S.map (zV ad)) hx hb d hne (k l p e s m args below meth c D aC ad base H locs ls hC hb0 hK hP hS hl)
theorem j_irem {x y : Int32} (q : Nat) (hq : pc + 1 = q) (d : decode K.2.1 pc = .ok (.irem, 1)) (hne : ¬ y = 0) (k : zJ K post q L (.int (x - x / y * y) :: S) G) : zJ K post pc L (.int y :: .int x :: S) G := by
  intro l p e s m args below meth c D aC ad base H locs ls hC hb0 hK hP hS hl
  obtain ⟨hx, hb, hml, hown, hts, hr, hlk⟩ := id hC
  subst hq
  exact lv_irem (rest := S.map (zV ad)) hx hb d hne (k l p e s m args below meth c D aC ad base H locs ls hC hb0 hK hP hS hl)
theorem j_ldiv {x y : Int64} (q : Nat) (hq : pc + 1 = q) (d : decode K.2.1 pc = .ok (.ldiv, 1)) (hne : ¬ y = 0) (k : zJ K post q L (.long (x / y) :: S) G) : zJ K post pc L (.long y :: .long x :: S) G := by
  intro l p e s m args below meth c D aC ad base H locs ls hC hb0 hK hP hS hl
  obtain ⟨hx, hb, hml, hown, hts, hr, hlk⟩ := id hC
  subst hq
  exact lv_ldiv (rest := S.map (zV ad)) hx hb d hne (k l p e s m args below meth c D aC ad base H locs ls hC hb0 hK hP hS hl)
theorem j_lrem {x y : Int64} (q : Nat) (hq : pc + 1 = q) (d : decode K.2.1 pc = .ok (.lrem, 1)) (hne : ¬ y = 0) (k : zJ K post q L (.long (x - x / y * y) :: S) G) : zJ K post pc L (.long y :: .long x :: S) G := by
  intro l p e s m args below meth c D aC ad base H locs ls hC hb0 hK hP hS hl
  obtain ⟨hx, hb, hml, hown, hts, hr, hlk⟩ := id hC
  subst hq
  exact lv_lrem (rest := S.map (zV ad)) hx hb d hne (k l p e s m args below meth c D aC ad base H locs ls hC hb0 hK hP hS hl)
theorem j_iushr {x y : Int32} (q : Nat) (hq : pc + 1 = q) (d : decode K.2.1 pc = .ok (.iushr, 1)) (k : zJ K post q L (.int (x.toUInt32 >>> (y.toUInt32 &&& Int32.toUInt32 31)).toInt32 :: S) G) : zJ K post pc L (.int y :: .int x :: S) G := by
  intro l p e s m args below meth c D aC ad base H locs ls hC hb0 hK hP hS hl
  obtain ⟨hx, hb, hml, hown, hts, hr, hlk⟩ := id hC
  subst hq
  exact lv_iushr (rest := S.map (zV ad)) hx hb d rfl (k l p e s m args below meth c D aC ad base H locs ls hC hb0 hK hP hS hl)
theorem j_i2l {x : Int32} (q : Nat) (hq : pc + 1 = q) (d : decode K.2.1 pc = .ok (.i2l, 1)) (k : zJ K post q L (.long x.toInt64 :: S) G) : zJ K post pc L (.int x :: S) G := by
  intro l p e s m args below meth c D aC ad base H locs ls hC hb0 hK hP hS hl
  obtain ⟨hx, hb, hml, hown, hts, hr, hlk⟩ := id hC
  subst hq
  exact lv_i2l (rest := S.map (zV ad)) hx hb d rfl (k l p e s m args below meth c D aC ad base H locs ls hC hb0 hK hP hS hl)
theorem j_l2i {x : Int64} (q : Nat) (hq : pc + 1 = q) (d : decode K.2.1 pc = .ok (.l2i, 1)) (k : zJ K post q L (.int x.toInt32 :: S) G) : zJ K post pc L (.long x :: S) G := by
  intro l p e s m args below meth c D aC ad base H locs ls hC hb0 hK hP hS hl
  obtain ⟨hx, hb, hml, hown, hts, hr, hlk⟩ := id hC
  subst hq
  exact lv_l2i (rest := S.map (zV ad)) hx hb d rfl (k l p e s m args below meth c D aC ad base H locs ls hC hb0 hK hP hS hl)
theorem j_i2b {x : Int32} (q : Nat) (hq : pc + 1 = q) (d : decode K.2.1 pc = .ok (.i2b, 1)) (k : zJ K post q L (.int x.toInt8.toInt32 :: S) G) : zJ K post pc L (.int x :: S) G := by
  intro l p e s m args below meth c D aC ad base H locs ls hC hb0 hK hP hS hl
  obtain ⟨hx, hb, hml, hown, hts, hr, hlk⟩ := id hC
  subst hq
  exact lv_i2b (rest := S.map (zV ad)) hx hb d rfl (k l p e s m args below meth c D aC ad base H locs ls hC hb0 hK hP hS hl)
theorem j_lcmp {x y : Int64} (q : Nat) (hq : pc + 1 = q) (d : decode K.2.1 pc = .ok (.lcmp, 1)) (k : zJ K post q L (.int (lg_cmp x y) :: S) G) : zJ K post pc L (.long y :: .long x :: S) G := by
  intro l p e s m args below meth c D aC ad base H locs ls hC hb0 hK hP hS hl
  obtain ⟨hx, hb, hml, hown, hts, hr, hlk⟩ := id hC
  subst hq
  exact W.lcmp (rest := S.map (zV ad)) hx hb d (k l p e s m args below meth c D aC ad base H locs ls hC hb0 hK hP hS hl)
theorem j_dup {v : Value} (q : Nat) (hq : pc + 1 = q) (d : decode K.2.1 pc = .ok (.dup, 1)) (hv : v.category = 1) (k : zJ K post q L (v :: v :: S) G) : zJ K post pc L (v :: S) G := by
  intro l p e s m args below meth c D aC ad base H locs ls hC hb0 hK hP hS hl
  obtain ⟨hx, hb, hml, hown, hts, hr, hlk⟩ := id hC
  subst hq
  exact lv_dup (rest := S.map (zV ad)) hx hb d (by rw [zV_cat]; exact hv) (k l p e s m args below meth c D aC ad base H locs ls hC hb0 hK hP hS hl)
theorem j_dup2 {v w : Value} (q : Nat) (hq : pc + 1 = q) (d : decode K.2.1 pc = .ok (.dup2, 1)) (hv : v.category = 1) (hw : w.category = 1) (k : zJ K post q L (v :: w :: v :: w :: S) G) : zJ K post pc L (v :: w :: S) G := by
  intro l p e s m args below meth c D aC ad base H locs ls hC hb0 hK hP hS hl
  obtain ⟨hx, hb, hml, hown, hts, hr, hlk⟩ := id hC
  subst hq
  exact lv_dup2_11 (rest := S.map (zV ad)) hx hb d (by rw [zV_cat]; exact hv) (by rw [zV_cat]; exact hw) (k l p e s m args below meth c D aC ad base H locs ls hC hb0 hK hP hS hl)
theorem j_pop {v : Value} (q : Nat) (hq : pc + 1 = q) (d : decode K.2.1 pc = .ok (.pop, 1)) (hv : v.category = 1) (k : zJ K post q L S G) : zJ K post pc L (v :: S) G := by
  intro l p e s m args below meth c D aC ad base H locs ls hC hb0 hK hP hS hl
  obtain ⟨hx, hb, hml, hown, hts, hr, hlk⟩ := id hC
  subst hq
  exact lv_pop (rest := S.map (zV ad)) hx hb d (by rw [zV_cat]; exact hv) (k l p e s m args below meth c D aC ad base H locs ls hC hb0 hK hP hS hl)
theorem j_if_eq {x : Int32} {off : Int} (q tgt : Nat) (hq : pc + 3 = q) (ht : (pc : Int) + off = (tgt : Int)) (d : decode K.2.1 pc = .ok (.ifCond .eq off, 3)) (kt : x = 0 → zJ K post tgt L S G) (kf : ¬ x = 0 → zJ K post q L S G) : zJ K post pc L (.int x :: S) G := by
  intro l p e s m args below meth c D aC ad base H locs ls hC hb0 hK hP hS hl
  obtain ⟨hx, hb, hml, hown, hts, hr, hlk⟩ := id hC
  subst hq
  exact lv_if_eq (rest := S.map (zV ad)) hx hb d ht (fun h => kt h l p e s m args below meth c D aC ad base H locs ls hC hb0 hK hP hS hl) (fun h => kf h l p e s m args below meth c D aC ad base H locs ls hC hb0 hK hP hS hl)
theorem j_icmp_eq {x y : Int32} {off : Int} (q tgt : Nat) (hq : pc + 3 = q) (ht : (pc : Int) + off = (tgt : Int)) (d : decode K.2.1 pc = .ok (.if_icmp .eq off, 3)) (kt : x = y → zJ K post tgt L S G) (kf : ¬ x = y → zJ K post q L S G) : zJ K post pc L (.int y :: .int x :: S) G := by
  intro l p e s m args below meth c D aC ad base H locs ls hC hb0 hK hP hS hl
  obtain ⟨hx, hb, hml, hown, hts, hr, hlk⟩ := id hC
  subst hq
  exact lv_icmp_eq (rest := S.map (zV ad)) hx hb d ht (fun h => kt h l p e s m args below meth c D aC ad base H locs ls hC hb0 hK hP hS hl) (fun h => kf h l p e s m args below meth c D aC ad base H locs ls hC hb0 hK hP hS hl)
theorem j_lif_eq {x y : Int64} {off : Int} (q1 q tgt : Nat) (hq1 : pc + 1 = q1) (hq : q1 + 3 = q) (ht : (q1 : Int) + off = (tgt : Int)) (d1 : decode K.2.1 pc = .ok (.lcmp, 1)) (d : decode K.2.1 q1 = .ok (.ifCond .eq off, 3)) (kt : x = y → zJ K post tgt L S G) (kf : ¬ x = y → zJ K post q L S G) : zJ K post pc L (.long y :: .long x :: S) G :=
  j_lcmp q1 hq1 d1 (j_if_eq q tgt hq ht d (fun h => kt (zc_eq.mp h)) (fun h => kf (fun z => h (zc_eq.mpr z))))
theorem j_if_ne {x : Int32} {off : Int} (q tgt : Nat) (hq : pc + 3 = q) (ht : (pc : Int) + off = (tgt : Int)) (d : decode K.2.1 pc = .ok (.ifCond .ne off, 3)) (kt : ¬ x = 0 → zJ K post tgt L S G) (kf : x = 0 → zJ K post q L S G) : zJ K post pc L (.int x :: S) G := by
  intro l p e s m args below meth c D aC ad base H locs ls hC hb0 hK hP hS hl
  obtain ⟨hx, hb, hml, hown, hts, hr, hlk⟩ := id hC
  subst hq
  exact lv_if_ne (rest := S.map (zV ad)) hx hb d ht (fun h => kt h l p e s m args below meth c D aC ad base H locs ls hC hb0 hK hP hS hl) (fun h => kf h l p e s m args below meth c D aC ad base H locs ls hC hb0 hK hP hS hl)
theorem j_icmp_ne {x y : Int32} {off : Int} (q tgt : Nat) (hq : pc + 3 = q) (ht : (pc : Int) + off = (tgt : Int)) (d : decode K.2.1 pc = .ok (.if_icmp .ne off, 3)) (kt : ¬ x = y → zJ K post tgt L S G) (kf : x = y → zJ K post q L S G) : zJ K post pc L (.int y :: .int x :: S) G := by
  intro l p e s m args below meth c D aC ad base H locs ls hC hb0 hK hP hS hl
  obtain ⟨hx, hb, hml, hown, hts, hr, hlk⟩ := id hC
  subst hq
  exact lv_icmp_ne (rest := S.map (zV ad)) hx hb d ht (fun h => kt h l p e s m args below meth c D aC ad base H locs ls hC hb0 hK hP hS hl) (fun h => kf h l p e s m args below meth c D aC ad base H locs ls hC hb0 hK hP hS hl)
theorem j_lif_ne {x y : Int64} {off : Int} (q1 q tgt : Nat) (hq1 : pc + 1 = q1) (hq : q1 + 3 = q) (ht : (q1 : Int) + off = (tgt : Int)) (d1 : decode K.2.1 pc = .ok (.lcmp, 1)) (d : decode K.2.1 q1 = .ok (.ifCond .ne off, 3)) (kt : ¬ x = y → zJ K post tgt L S G) (kf : x = y → zJ K post q L S G) : zJ K post pc L (.long y :: .long x :: S) G :=
  j_lcmp q1 hq1 d1 (j_if_ne q tgt hq ht d (fun h => kt (fun z => h (zc_eq.mpr z))) (fun h => kf (zc_eq.mp h)))
theorem j_if_lt {x : Int32} {off : Int} (q tgt : Nat) (hq : pc + 3 = q) (ht : (pc : Int) + off = (tgt : Int)) (d : decode K.2.1 pc = .ok (.ifCond .lt off, 3)) (kt : x < 0 → zJ K post tgt L S G) (kf : ¬ x < 0 → zJ K post q L S G) : zJ K post pc L (.int x :: S) G := by
  intro l p e s m args below meth c D aC ad base H locs ls hC hb0 hK hP hS hl
  obtain ⟨hx, hb, hml, hown, hts, hr, hlk⟩ := id hC
  subst hq
  exact lv_if_lt (rest := S.map (zV ad)) hx hb d ht (fun h => kt h l p e s m args below meth c D aC ad base H locs ls hC hb0 hK hP hS hl) (fun h => kf h l p e s m args below meth c D aC ad base H locs ls hC hb0 hK hP hS hl)
theorem j_icmp_lt {x y : Int32} {off : Int} (q tgt : Nat) (hq : pc + 3 = q) (ht : (pc : Int) + off = (tgt : Int)) (d : decode K.2.1 pc = .ok (.if_icmp .lt off, 3)) (kt : x < y → zJ K post tgt L S G) (kf : ¬ x < y → zJ K post q L S G) : zJ K post pc L (.int y :: .int x :: S) G := by
  intro l p e s m args below meth c D aC ad base H locs ls hC hb0 hK hP hS hl
  obtain ⟨hx, hb, hml, hown, hts, hr, hlk⟩ := id hC
  subst hq
  exact lv_icmp_lt (rest := S.map (zV ad)) hx hb d ht (fun h => kt h l p e s m args below meth c D aC ad base H locs ls hC hb0 hK hP hS hl) (fun h => kf h l p e s m args below meth c D aC ad base H locs ls hC hb0 hK hP hS hl)
theorem j_lif_lt {x y : Int64} {off : Int} (q1 q tgt : Nat) (hq1 : pc + 1 = q1) (hq : q1 + 3 = q) (ht : (q1 : Int) + off = (tgt : Int)) (d1 : decode K.2.1 pc = .ok (.lcmp, 1)) (d : decode K.2.1 q1 = .ok (.ifCond .lt off, 3)) (kt : x < y → zJ K post tgt L S G) (kf : ¬ x < y → zJ K post q L S G) : zJ K post pc L (.long y :: .long x :: S) G :=
  j_lcmp q1 hq1 d1 (j_if_lt q tgt hq ht d (fun h => kt (zc_lt.mp h)) (fun h => kf (fun z => h (zc_lt.mpr z))))
theorem j_if_ge {x : Int32} {off : Int} (q tgt : Nat) (hq : pc + 3 = q) (ht : (pc : Int) + off = (tgt : Int)) (d : decode K.2.1 pc = .ok (.ifCond .ge off, 3)) (kt : 0 ≤ x → zJ K post tgt L S G) (kf : ¬ 0 ≤ x → zJ K post q L S G) : zJ K post pc L (.int x :: S) G := by
  intro l p e s m args below meth c D aC ad base H locs ls hC hb0 hK hP hS hl
  obtain ⟨hx, hb, hml, hown, hts, hr, hlk⟩ := id hC
  subst hq
  exact lv_if_ge (rest := S.map (zV ad)) hx hb d ht (fun h => kt h l p e s m args below meth c D aC ad base H locs ls hC hb0 hK hP hS hl) (fun h => kf h l p e s m args below meth c D aC ad base H locs ls hC hb0 hK hP hS hl)
theorem j_icmp_ge {x y : Int32} {off : Int} (q tgt : Nat) (hq : pc + 3 = q) (ht : (pc : Int) + off = (tgt : Int)) (d : decode K.2.1 pc = .ok (.if_icmp .ge off, 3)) (kt : y ≤ x → zJ K post tgt L S G) (kf : ¬ y ≤ x → zJ K post q L S G) : zJ K post pc L (.int y :: .int x :: S) G := by
  intro l p e s m args below meth c D aC ad base H locs ls hC hb0 hK hP hS hl
  obtain ⟨hx, hb, hml, hown, hts, hr, hlk⟩ := id hC
  subst hq
  exact lv_icmp_ge (rest := S.map (zV ad)) hx hb d ht (fun h => kt h l p e s m args below meth c D aC ad base H locs ls hC hb0 hK hP hS hl) (fun h => kf h l p e s m args below meth c D aC ad base H locs ls hC hb0 hK hP hS hl)
theorem j_lif_ge {x y : Int64} {off : Int} (q1 q tgt : Nat) (hq1 : pc + 1 = q1) (hq : q1 + 3 = q) (ht : (q1 : Int) + off = (tgt : Int)) (d1 : decode K.2.1 pc = .ok (.lcmp, 1)) (d : decode K.2.1 q1 = .ok (.ifCond .ge off, 3)) (kt : y ≤ x → zJ K post tgt L S G) (kf : ¬ y ≤ x → zJ K post q L S G) : zJ K post pc L (.long y :: .long x :: S) G :=
  j_lcmp q1 hq1 d1 (j_if_ge q tgt hq ht d (fun h => kt (zc_ge.mp h)) (fun h => kf (fun z => h (zc_ge.mpr z))))
theorem j_if_gt {x : Int32} {off : Int} (q tgt : Nat) (hq : pc + 3 = q) (ht : (pc : Int) + off = (tgt : Int)) (d : decode K.2.1 pc = .ok (.ifCond .gt off, 3)) (kt : 0 < x → zJ K post tgt L S G) (kf : ¬ 0 < x → zJ K post q L S G) : zJ K post pc L (.int x :: S) G := by
  intro l p e s m args below meth c D aC ad base H locs ls hC hb0 hK hP hS hl
  obtain ⟨hx, hb, hml, hown, hts, hr, hlk⟩ := id hC
  subst hq
  exact lv_if_gt (rest := S.map (zV ad)) hx hb d ht (fun h => kt h l p e s m args below meth c D aC ad base H locs ls hC hb0 hK hP hS hl) (fun h => kf h l p e s m args below meth c D aC ad base H locs ls hC hb0 hK hP hS hl)
theorem j_icmp_gt {x y : Int32} {off : Int} (q tgt : Nat) (hq : pc + 3 = q) (ht : (pc : Int) + off = (tgt : Int)) (d : decode K.2.1 pc = .ok (.if_icmp .gt off, 3)) (kt : y < x → zJ K post tgt L S G) (kf : ¬ y < x → zJ K post q L S G) : zJ K post pc L (.int y :: .int x :: S) G := by
  intro l p e s m args below meth c D aC ad base H locs ls hC hb0 hK hP hS hl
  obtain ⟨hx, hb, hml, hown, hts, hr, hlk⟩ := id hC
  subst hq
  exact lv_icmp_gt (rest := S.map (zV ad)) hx hb d ht (fun h => kt h l p e s m args below meth c D aC ad base H locs ls hC hb0 hK hP hS hl) (fun h => kf h l p e s m args below meth c D aC ad base H locs ls hC hb0 hK hP hS hl)
theorem j_lif_gt {x y : Int64} {off : Int} (q1 q tgt : Nat) (hq1 : pc + 1 = q1) (hq : q1 + 3 = q) (ht : (q1 : Int) + off = (tgt : Int)) (d1 : decode K.2.1 pc = .ok (.lcmp, 1)) (d : decode K.2.1 q1 = .ok (.ifCond .gt off, 3)) (kt : y < x → zJ K post tgt L S G) (kf : ¬ y < x → zJ K post q L S G) : zJ K post pc L (.long y :: .long x :: S) G :=
  j_lcmp q1 hq1 d1 (j_if_gt q tgt hq ht d (fun h => kt (zc_gt.mp h)) (fun h => kf (fun z => h (zc_gt.mpr z))))
theorem j_if_le {x : Int32} {off : Int} (q tgt : Nat) (hq : pc + 3 = q) (ht : (pc : Int) + off = (tgt : Int)) (d : decode K.2.1 pc = .ok (.ifCond .le off, 3)) (kt : x ≤ 0 → zJ K post tgt L S G) (kf : ¬ x ≤ 0 → zJ K post q L S G) : zJ K post pc L (.int x :: S) G := by
  intro l p e s m args below meth c D aC ad base H locs ls hC hb0 hK hP hS hl
  obtain ⟨hx, hb, hml, hown, hts, hr, hlk⟩ := id hC
  subst hq
  exact lv_if_le (rest := S.map (zV ad)) hx hb d ht (fun h => kt h l p e s m args below meth c D aC ad base H locs ls hC hb0 hK hP hS hl) (fun h => kf h l p e s m args below meth c D aC ad base H locs ls hC hb0 hK hP hS hl)
theorem j_icmp_le {x y : Int32} {off : Int} (q tgt : Nat) (hq : pc + 3 = q) (ht : (pc : Int) + off = (tgt : Int)) (d : decode K.2.1 pc = .ok (.if_icmp .le off, 3)) (kt : x ≤ y → zJ K post tgt L S G) (kf : ¬ x ≤ y → zJ K post q L S G) : zJ K post pc L (.int y :: .int x :: S) G := by
  intro l p e s m args below meth c D aC ad base H locs ls hC hb0 hK hP hS hl
  obtain ⟨hx, hb, hml, hown, hts, hr, hlk⟩ := id hC
  subst hq
  exact lv_icmp_le (rest := S.map (zV ad)) hx hb d ht (fun h => kt h l p e s m args below meth c D aC ad base H locs ls hC hb0 hK hP hS hl) (fun h => kf h l p e s m args below meth c D aC ad base H locs ls hC hb0 hK hP hS hl)
theorem j_lif_le {x y : Int64} {off : Int} (q1 q tgt : Nat) (hq1 : pc + 1 = q1) (hq : q1 + 3 = q) (ht : (q1 : Int) + off = (tgt : Int)) (d1 : decode K.2.1 pc = .ok (.lcmp, 1)) (d : decode K.2.1 q1 = .ok (.ifCond .le off, 3)) (kt : x ≤ y → zJ K post tgt L S G) (kf : ¬ x ≤ y → zJ K post q L S G) : zJ K post pc L (.long y :: .long x :: S) G :=
  j_lcmp q1 hq1 d1 (j_if_le q tgt hq ht d (fun h => kt (zc_le.mp h)) (fun h => kf (fun z => h (zc_le.mpr z))))
theorem j_goto {off : Int} (tgt : Nat) (ht : (pc : Int) + off = (tgt : Int)) (d : decode K.2.1 pc = .ok (.goto off, 3)) (k : zJ K post tgt L S G) : zJ K post pc L S G := by
  intro l p e s m args below meth c D aC ad base H locs ls hC hb0 hK hP hS hl
  obtain ⟨hx, hb, hml, hown, hts, hr, hlk⟩ := id hC
  exact lv_goto hx hb d ht (k l p e s m args below meth c D aC ad base H locs ls hC hb0 hK hP hS hl)
theorem j_tabOut {dflt lo hi : Int} {offs : Array Int} {len : Nat} {x : Int32} (tgt : Nat) (d : decode K.2.1 pc = .ok (.tableswitch dflt lo hi offs, len)) (h : x.toInt < lo ∨ hi < x.toInt) (ht : (pc : Int) + dflt = (tgt : Int)) (k : zJ K post tgt L S G) : zJ K post pc L (.int x :: S) G := by
  intro l p e s m args below meth c D aC ad base H locs ls hC hb0 hK hP hS hl
  obtain ⟨hx, hb, hml, hown, hts, hr, hlk⟩ := id hC
  exact lv_tableOut (rest := S.map (zV ad)) hx hb d h ht (k l p e s m args below meth c D aC ad base H locs ls hC hb0 hK hP hS hl)
theorem j_tabIn {dflt lo hi v off : Int} {offs : Array Int} {len : Nat} {x : Int32} (tgt : Nat) (d : decode K.2.1 pc = .ok (.tableswitch dflt lo hi offs, len)) (h : x.toInt = v) (h1 : ¬ v < lo) (h2 : ¬ hi < v) (ho : offs[(v - lo).toNat]? = some off) (ht : (pc : Int) + off = (tgt : Int)) (k : zJ K post tgt L S G) : zJ K post pc L (.int x :: S) G := by
  intro l p e s m args below meth c D aC ad base H locs ls hC hb0 hK hP hS hl
  obtain ⟨hx, hb, hml, hown, hts, hr, hlk⟩ := id hC
  exact lv_tableIn (rest := S.map (zV ad)) hx hb d (by rw [h]; exact h1) (by rw [h]; exact h2) (by rw [h]; exact ho) ht (k l p e s m args below meth c D aC ad base H locs ls hC hb0 hK hP hS hl)
theorem j_iret {v : Int32} {ty : FieldType} (d : decode K.2.1 pc = .ok (.ireturn, 1)) (hret : K.2.2.2.1 = some ty) (hn : narrow ty (.int v) = .int v) (h : post (some (.int v)) G) : zJ K post pc L [.int v] G := by
  intro l p e s m args below meth c D aC ad base H locs ls hC hb0 hK hP hS hl
  obtain ⟨hx, hb, hml, hown, hts, hr, hlk⟩ := id hC
  exact W.zret hx hb (hr.trans hret) hn (fun t ht hW => ⟨⟨some (.int v), G, rfl, h, hK.warm hW, by rw [ht]; exact hP⟩, hS.F ht⟩) hS.2.2 d hlk
theorem j_lret {v : Int64} (d : decode K.2.1 pc = .ok (.lreturn, 1)) (hret : K.2.2.2.1 = some .long) (h : post (some (.long v)) G) : zJ K post pc L [.long v] G := by
  intro l p e s m args below meth c D aC ad base H locs ls hC hb0 hK hP hS hl
  obtain ⟨hx, hb, hml, hown, hts, hr, hlk⟩ := id hC
  exact W.lret hx hb (hr.trans hret) (fun t ht hW => ⟨⟨some (.long v), G, rfl, h, hK.warm hW, by rw [ht]; exact hP⟩, hS.F ht⟩) hS.2.2 d hlk
theorem j_vret (d : decode K.2.1 pc = .ok (.return_, 1)) (hret : K.2.2.2.1 = none) (h : post none G) : zJ K post pc L [] G := by
  intro l p e s m args below meth c D aC ad base H locs ls hC hb0 hK hP hS hl
  obtain ⟨hx, hb, hml, hown, hts, hr, hlk⟩ := id hC
  exact W.vret hx hb (hr.trans hret) (fun t ht hW => ⟨⟨none, G, rfl, h, hK.warm hW, by rw [ht]; exact hP⟩, hS.F ht⟩) hS.2.2 d hlk
theorem j_getI {idx b ci n : Nat} {fk : List (Option (Option Nat))} (q : Nat) (hq : pc + 3 = q) (d : decode K.2.1 pc = .ok (.getfield idx, 3)) (hf : zFL K.1.cls idx ci n) (hy : LAY[b]? = some (.inr (.inl (ci, fk)))) (hn : fk[n]? = some none) (k : zJ K post q L (.int (G b n) :: S) G) : zJ K post pc L (.ref b :: S) G := by
  intro l p e s m args below meth c D aC ad base H locs ls hC hb0 hK hP hS hl
  obtain ⟨hx, hb, hml, hown, hts, hr, hlk⟩ := id hC
  subst hq
  obtain ⟨R, T, N, hc, hkN, hin, hlw⟩ := hf
  have hv := zFld_num (ad := ad) (g := G b) (b := 0) hn
  rw [Nat.zero_add] at hv
  exact va_get (rest := S.map (zV ad)) (D := D) (ci := ci) hx hb hts hin hown hK.1 hP.1 b (zW hy) hc n hkN (hts _ hlw) (fun _ h9 => h9) hv d (k l p e s m args below meth c D aC ad base H locs ls hC hb0 hK hP hS hl)
theorem j_getR {idx b ci n r : Nat} {fk : List (Option (Option Nat))} (q : Nat) (hq : pc + 3 = q) (d : decode K.2.1 pc = .ok (.getfield idx, 3)) (hf : zFL K.1.cls idx ci n) (hy : LAY[b]? = some (.inr (.inl (ci, fk)))) (hn : fk[n]? = some (some (some r))) (k : zJ K post q L (.ref r :: S) G) : zJ K post pc L (.ref b :: S) G := by
  intro l p e s m args below meth c D aC ad base H locs ls hC hb0 hK hP hS hl
  obtain ⟨hx, hb, hml, hown, hts, hr, hlk⟩ := id hC
  subst hq
  obtain ⟨R, T, N, hc, hkN, hin, hlw⟩ := hf
  exact va_get (rest := S.map (zV ad)) (D := D) (ci := ci) hx hb hts hin hown hK.1 hP.1 b (zW hy) hc n hkN (hts _ hlw) (fun _ h9 => h9) (zFld_ref (ad := ad) (g := G b) (b := 0) hn) d (k l p e s m args below meth c D aC ad base H locs ls hC hb0 hK hP hS hl)
theorem j_put {idx b ci n : Nat} {v : Int32} {ty : FieldType} {fk : List (Option (Option Nat))} (q : Nat) (hq : pc + 3 = q) (d : decode K.2.1 pc = .ok (.putfield idx, 3)) (hf : zFP K.1.cls idx ci n ty) (hy : LAY[b]? = some (.inr (.inl (ci, fk)))) (hn : fk[n]? = some none) (hna : narrow ty (.int v) = .int v) (hfi : fits ty (.int v) = true) (k : zJ K post q L S (gU G b n v)) : zJ K post pc L (.int v :: .ref b :: S) G := by
  intro l p e s m args below meth c D aC ad base H locs ls hC hb0 hK hP hS hl
  obtain ⟨hx, hb, hml, hown, hts, hr, hlk⟩ := id hC
  subst hq
  obtain ⟨R, T, N, ty0, hc, hkN, hin, hlw, hfin, hpd, hty, hnm⟩ := hf
  have hlen : n < (zFld ad (G b) 0 fk).length := by
    rw [zFld_len]
    exact (List.getElem?_eq_some_iff.mp hn).1
  have hset := zFld_set (ad := ad) (g := G b) (v := v) (b := 0) hn
  rw [Nat.zero_add] at hset
  have hw := zWset (aC := aC) (ad := ad) (G := G) (upd (G b) n v) hy
  refine va_put (rest := S.map (zV ad)) (D := D) (ci := ci) (v := .int v) (ty := ty) hx hb hts hin ty0 hty hnm hown hK.1 hP.1 hP.2 hS b (zW hy) hc n hkN (hts _ hlw) (fun _ h9 => h9) hfin hpd hna hfi hlen d (fun H1 locs1 hP1 hD1 hS1 => ?_)
  have e9 : (zWs aC ad G 0 LAY).set b (ad b, .inr (ci, (zFld ad (G b) 0 fk).set n (.int v))) = zWs aC ad (gU G b n v) 0 LAY := by
    rw [hset]
    exact hw
  rw [e9] at hP1 hD1
  exact k l p e s m args below meth c D aC ad base H1 locs1 ls hC hb0 hK ⟨hP1, hD1⟩ hS1 hl
theorem j_aald {b r : Nat} {i : Int32} {rs : List (Option Nat)} (q : Nat) (hq : pc + 1 = q) (d : decode K.2.1 pc = .ok (.aaload, 1)) (hy : LAY[b]? = some (.inr (.inr rs))) (hin : vp_in i rs.length) (hr0 : rs.getD i.toNatClampNeg none = some r) (k : zJ K post q L (.ref r :: S) G) : zJ K post pc L (.int i :: .ref b :: S) G := by
  intro l p e s m args below meth c D aC ad base H locs ls hC hb0 hK hP hS hl
  obtain ⟨hx, hb, hml, hown, hts, hr, hlk⟩ := id hC
  subst hq
  refine va_aldq (rest := S.map (zV ad)) (C := RX0) hx hb hK.1 hP.1 b 3 (zW hy) rfl hin d ?_
  rw [hr0]
  exact k l p e s m args below meth c D aC ad base H locs ls hC hb0 hK hP hS hl
theorem j_alen {b t n : Nat} (v : Int32) (q : Nat) (hq : pc + 1 = q) (d : decode K.2.1 pc = .ok (.arraylength, 1)) (hy : LAY[b]? = some (.inl (0, n))) (hv : Int32.ofNat n = v) (k : zJ K post q L (.int v :: S) G) : zJ K post pc L (.ref b :: S) G := by
  intro l p e s m args below meth c D aC ad base H locs ls hC hb0 hK hP hS hl
  obtain ⟨hx, hb, hml, hown, hts, hr, hlk⟩ := id hC
  subst hq
  exact va_alen (rest := S.map (zV ad)) (ty := .int) hx hb hK.1 hP.1 b 0 (zW hy) rfl hv d (k l p e s m args below meth c D aC ad base H locs ls hC hb0 hK hP hS hl)
theorem j_iald {b n : Nat} {i : Int32} (q : Nat) (hq : pc + 1 = q) (d : decode K.2.1 pc = .ok (.iaload, 1)) (hy : LAY[b]? = some (.inl (0, n))) (hin : vp_in i n) (k : zJ K post q L (.int (G b i.toNatClampNeg) :: S) G) : zJ K post pc L (.int i :: .ref b :: S) G := by
  intro l p e s m args below meth c D aC ad base H locs ls hC hb0 hK hP hS hl
  obtain ⟨hx, hb, hml, hown, hts, hr, hlk⟩ := id hC
  subst hq
  exact va_iald (rest := S.map (zV ad)) hx hb hK.1 hP.1 b 0 (zW hy) rfl hin d (k l p e s m args below meth c D aC ad base H locs ls hC hb0 hK hP hS hl)
theorem j_iast {b n : Nat} {i x : Int32} (q : Nat) (hq : pc + 1 = q) (d : decode K.2.1 pc = .ok (.iastore, 1)) (hy : LAY[b]? = some (.inl (0, n))) (hin : vp_in i n) (k : zJ K post q L S (gU G b i.toNatClampNeg x)) : zJ K post pc L (.int x :: .int i :: .ref b :: S) G := by
  intro l p e s m args below meth c D aC ad base H locs ls hC hb0 hK hP hS hl
  obtain ⟨hx, hb, hml, hown, hts, hr, hlk⟩ := id hC
  subst hq
  have hw := zWset (aC := aC) (ad := ad) (G := G) (upd (G b) i.toNatClampNeg x) hy
  refine va_iast (rest := S.map (zV ad)) hx hb hK.1 hP.1 hP.2 hS b 0 (zW hy) rfl hin d (fun H1 locs1 hP1 hD1 hS1 => ?_)
  have e9 : (zWs aC ad G 0 LAY).set b (ad b, .inl (aC 0, n, .inl (upd (G b) i.toNatClampNeg x))) = zWs aC ad (gU G b i.toNatClampNeg x) 0 LAY := hw
  rw [e9] at hP1 hD1
  exact k l p e s m args below meth c D aC ad base H1 locs1 ls hC hb0 hK ⟨hP1, hD1⟩ hS1 hl
theorem j_zald {b n : Nat} {i : Int32} (q : Nat) (hq : pc + 1 = q) (d : decode K.2.1 pc = .ok (.baload, 1)) (hy : LAY[b]? = some (.inl (1, n))) (hin : vp_in i n) (k : zJ K post q L (.int (G b i.toNatClampNeg) :: S) G) : zJ K post pc L (.int i :: .ref b :: S) G := by
  intro l p e s m args below meth c D aC ad base H locs ls hC hb0 hK hP hS hl
  obtain ⟨hx, hb, hml, hown, hts, hr, hlk⟩ := id hC
  subst hq
  exact va_zald (rest := S.map (zV ad)) hx hb hK.1 hP.1 b 1 (zW hy) rfl hin d (k l p e s m args below meth c D aC ad base H locs ls hC hb0 hK hP hS hl)
theorem j_zast {b n : Nat} {i x : Int32} (q : Nat) (hq : pc + 1 = q) (d : decode K.2.1 pc = .ok (.bastore, 1)) (hy : LAY[b]? = some (.inl (1, n))) (hin : vp_in i n) (hx0 : vp_nar .boolean x = x) (k : zJ K post q L S (gU G b i.toNatClampNeg x)) : zJ K post pc L (.int x :: .int i :: .ref b :: S) G := by
  intro l p e s m args below meth c D aC ad base H locs ls hC hb0 hK hP hS hl
  obtain ⟨hx, hb, hml, hown, hts, hr, hlk⟩ := id hC
  subst hq
  have hw := zWset (aC := aC) (ad := ad) (G := G) (upd (G b) i.toNatClampNeg x) hy
  refine va_zast (rest := S.map (zV ad)) hx hb hK.1 hP.1 hP.2 hS b 1 (zW hy) rfl hin d (fun H1 locs1 hP1 hD1 hS1 => ?_)
  rw [hx0] at hP1 hD1
  have e9 : (zWs aC ad G 0 LAY).set b (ad b, .inl (aC 1, n, .inl (upd (G b) i.toNatClampNeg x))) = zWs aC ad (gU G b i.toNatClampNeg x) 0 LAY := hw
  rw [e9] at hP1 hD1
  exact k l p e s m args below meth c D aC ad base H1 locs1 ls hC hb0 hK ⟨hP1, hD1⟩ hS1 hl
theorem j_bald {b n : Nat} {i : Int32} (q : Nat) (hq : pc + 1 = q) (d : decode K.2.1 pc = .ok (.baload, 1)) (hy : LAY[b]? = some (.inl (2, n))) (hin : vp_in i n) (k : zJ K post q L (.int (G b i.toNatClampNeg) :: S) G) : zJ K post pc L (.int i :: .ref b :: S) G := by
  intro l p e s m args below meth c D aC ad base H locs ls hC hb0 hK hP hS hl
  obtain ⟨hx, hb, hml, hown, hts, hr, hlk⟩ := id hC
  subst hq
  exact va_bald (rest := S.map (zV ad)) hx hb hK.1 hP.1 b 2 (zW hy) rfl hin d (k l p e s m args below meth c D aC ad base H locs ls hC hb0 hK hP hS hl)
theorem j_bast {b n : Nat} {i x : Int32} (q : Nat) (hq : pc + 1 = q) (d : decode K.2.1 pc = .ok (.bastore, 1)) (hy : LAY[b]? = some (.inl (2, n))) (hin : vp_in i n) (hx0 : vp_nar .byte x = x) (k : zJ K post q L S (gU G b i.toNatClampNeg x)) : zJ K post pc L (.int x :: .int i :: .ref b :: S) G := by
  intro l p e s m args below meth c D aC ad base H locs ls hC hb0 hK hP hS hl
  obtain ⟨hx, hb, hml, hown, hts, hr, hlk⟩ := id hC
  subst hq
  have hw := zWset (aC := aC) (ad := ad) (G := G) (upd (G b) i.toNatClampNeg x) hy
  refine va_bast (rest := S.map (zV ad)) hx hb hK.1 hP.1 hP.2 hS b 2 (zW hy) rfl hin d (fun H1 locs1 hP1 hD1 hS1 => ?_)
  rw [hx0] at hP1 hD1
  have e9 : (zWs aC ad G 0 LAY).set b (ad b, .inl (aC 2, n, .inl (upd (G b) i.toNatClampNeg x))) = zWs aC ad (gU G b i.toNatClampNeg x) 0 LAY := hw
  rw [e9] at hP1 hD1
  exact k l p e s m args below meth c D aC ad base H1 locs1 ls hC hb0 hK ⟨hP1, hD1⟩ hS1 hl
theorem j_copy {idx b0 b1 n0 n1 : Nat} {sp dp n : Int32} (q : Nat) (hq : pc + 3 = q) (d : decode K.2.1 pc = .ok (.invokestatic idx, 3)) (hl0 : Cond.methodLink K.1.cls idx arraycopyName ∈ zTbl) (hw1 : Cond.native arraycopyName ∈ zTbl ∧ Cond.static arraycopyName ∈ zTbl ∧ Cond.initialized "java/lang/System" ∈ zTbl) (hy0 : LAY[b0]? = some (.inl (0, n0))) (hy1 : LAY[b1]? = some (.inl (0, n1)))
    (h1 : ¬ sp < 0) (h2 : ¬ dp < 0) (h3 : ¬ n < 0) (h4 : sp.toNatClampNeg + n.toNatClampNeg ≤ n0) (h5 : dp.toNatClampNeg + n.toNatClampNeg ≤ n1) (hfr : 1 ≤ K.2.2.2.2.1) (hlo : (S.map fun v => v.category).sum + (nativeFrameWords "java/lang/System" "arraycopy" 5 + 11) ≤ K.2.2.2.2.2)
    (k : zJ K post q L S (gA G b1 (va_cpy (G b0) (G b1) sp.toNatClampNeg dp.toNatClampNeg n.toNatClampNeg))) : zJ K post pc L (.int n :: .int dp :: .ref b1 :: .int sp :: .ref b0 :: S) G := by
  intro l p e s m args below meth c D aC ad base H locs ls hC hb0 hK hP hS hl
  obtain ⟨hx, hb, hml, hown, hts, hr, hlk⟩ := id hC
  subst hq
  have hw := zWset (aC := aC) (ad := ad) (G := G) (va_cpy (G b0) (G b1) sp.toNatClampNeg dp.toNatClampNeg n.toNatClampNeg) hy1
  refine va_copyi (rest := S.map (zV ad)) (ty := .int) hx hb (by rw [hml]; exact hl.1.symm) hown (hts _ hl0) (hts _ hw1.1) (hts _ hw1.2.1) (hts _ hw1.2.2) hK.1 hP.1 hP.2 hS b0 b1 0 0 (zW hy0) (zW hy1) rfl rfl rfl h1 h2 h3 h4 h5 (fun _ _ => rfl) hfr (by rw [zS_sum]; exact hlo) d (fun H1 locs1 hP1 hD1 hS1 => ?_)
  have e9 : (zWs aC ad G 0 LAY).set b1 (ad b1, .inl (aC 0, n1, .inl (va_cpy (G b0) (G b1) sp.toNatClampNeg dp.toNatClampNeg n.toNatClampNeg))) = zWs aC ad (gA G b1 (va_cpy (G b0) (G b1) sp.toNatClampNeg dp.toNatClampNeg n.toNatClampNeg)) 0 LAY := hw
  rw [e9] at hP1 hD1
  exact k l p e s m args below meth c D aC ad base H1 locs1 ls hC hb0 hK ⟨hP1, hD1⟩ hS1 hl
theorem j_mmax {idx : Nat} {x y : Int32} (q : Nat) (hq : pc + 3 = q) (d : decode K.2.1 pc = .ok (.invokestatic idx, 3)) (hl0 : Cond.methodLink K.1.cls idx Lib.Math.max.name ∈ zTbl) (hw1 : Cond.static Lib.Math.max.name ∈ zTbl ∧ Cond.initialized "java/lang/Math" ∈ zTbl ∧ Cond.code Lib.Math.max.name Lib.Math.max.code 2 (some .int) ∈ zTbl) (hfr : 1 ≤ K.2.2.2.2.1) (hlo : (S.map fun v => v.category).sum + 13 ≤ K.2.2.2.2.2) (k : zJ K post q L (.int (if x < y then y else x) :: S) G) : zJ K post pc L (.int y :: .int x :: S) G := by
  intro l p e s m args below meth c D aC ad base H locs ls hC hb0 hK hP hS hl
  obtain ⟨hx, hb, hml, hown, hts, hr, hlk⟩ := id hC
  subst hq
  exact va_mmax (rest := S.map (zV ad)) hx hb (by rw [hml]; exact hl.1.symm) hown (hts _ hl0) (hts _ hw1.1) (hts _ hw1.2.1) (hts _ hw1.2.2) hfr (by rw [zS_sum]; exact hlo) (Nat.zero_le _) (Nat.zero_le _) d (k l p e s m args below meth c D aC ad base H locs ls hC hb0 hK hP hS hl)
theorem j_lmax {idx : Nat} {x y : Int64} (q : Nat) (hq : pc + 3 = q) (d : decode K.2.1 pc = .ok (.invokestatic idx, 3)) (hl0 : Cond.methodLink K.1.cls idx Lib.MathLoose.max_long.x ∈ zTbl) (hw1 : Cond.static Lib.MathLoose.max_long.x ∈ zTbl ∧ Cond.initialized "java/lang/Math" ∈ zTbl ∧ Cond.code Lib.MathLoose.max_long.x Lib.MathLoose.max_long.code 4 (some .long) ∈ zTbl) (hfr : 1 ≤ K.2.2.2.2.1) (hlo : (S.map fun v => v.category).sum + 15 ≤ K.2.2.2.2.2) (k : zJ K post q L (.long (if y < x then x else y) :: S) G) : zJ K post pc L (.long y :: .long x :: S) G := by
  intro l p e s m args below meth c D aC ad base H locs ls hC hb0 hK hP hS hl
  obtain ⟨hx, hb, hml, hown, hts, hr, hlk⟩ := id hC
  subst hq
  exact va_mmax_long (rest := S.map (zV ad)) hx hb (by rw [hml]; exact hl.1.symm) hown (hts _ hl0) (hts _ hw1.1) (hts _ hw1.2.1) (hts _ hw1.2.2) hfr (by rw [zS_sum]; exact hlo) (Nat.zero_le _) (Nat.zero_le _) d (k l p e s m args below meth c D aC ad base H locs ls hC hb0 hK hP hS hl)
theorem j_lmin {idx : Nat} {x y : Int64} (q : Nat) (hq : pc + 3 = q) (d : decode K.2.1 pc = .ok (.invokestatic idx, 3)) (hl0 : Cond.methodLink K.1.cls idx Lib.MathLoose.min_long.x ∈ zTbl) (hw1 : Cond.static Lib.MathLoose.min_long.x ∈ zTbl ∧ Cond.initialized "java/lang/Math" ∈ zTbl ∧ Cond.code Lib.MathLoose.min_long.x Lib.MathLoose.min_long.code 4 (some .long) ∈ zTbl) (hfr : 1 ≤ K.2.2.2.2.1) (hlo : (S.map fun v => v.category).sum + 15 ≤ K.2.2.2.2.2) (k : zJ K post q L (.long (if y < x then y else x) :: S) G) : zJ K post pc L (.long y :: .long x :: S) G := by
  intro l p e s m args below meth c D aC ad base H locs ls hC hb0 hK hP hS hl
  obtain ⟨hx, hb, hml, hown, hts, hr, hlk⟩ := id hC
  subst hq
  exact va_mmin_long (rest := S.map (zV ad)) hx hb (by rw [hml]; exact hl.1.symm) hown (hts _ hl0) (hts _ hw1.1) (hts _ hw1.2.1) (hts _ hw1.2.2) hfr (by rw [zS_sum]; exact hlo) (Nat.zero_le _) (Nat.zero_le _) d (k l p e s m args below meth c D aC ad base H locs ls hC hb0 hK hP hS hl)
end ZR
end
