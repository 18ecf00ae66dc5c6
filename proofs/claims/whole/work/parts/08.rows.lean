theorem zW {aC : Nat → ClassId} {ad : Nat → Nat} {G : GG} {b : Nat} {k : zKd} (h : LAY[b]? = some k) : (zWs aC ad G 0 LAY)[b]? = some (ad b, zEnt aC ad (G b) k) := by
  have := zWs_get (aC := aC) (ad := ad) (G := G) (b := 0) h
  rwa [Nat.zero_add] at this
theorem zWset {aC : Nat → ClassId} {ad : Nat → Nat} {G : GG} {b : Nat} {k : zKd} (f : Nat → Int32) (h : LAY[b]? = some k) : (zWs aC ad G 0 LAY).set b (ad b, zEnt aC ad f k) = zWs aC ad (gA G b f) 0 LAY := by
  have := zWs_set (aC := aC) (ad := ad) (G := G) (f := f) (b := 0) h
  rwa [Nat.zero_add] at this
def zFL (own : String) (idx ci k : Nat) : Prop := ∃ (R : String) (T : u_T) (N : Nat), vwCl[ci]? = some (R, T, N) ∧ k < N ∧ (∀ w ∈ u_ws R T N, w ∈ zTbl) ∧ Cond.fieldLink own idx (T k).1 (T k).2.1 (T k).2.2.1 ∈ zTbl
def zFP (own : String) (idx ci k : Nat) (ty : FieldType) : Prop := ∃ (R : String) (T : u_T) (N : Nat) (ty0 : Nat → FieldType), vwCl[ci]? = some (R, T, N) ∧ k < N ∧ (∀ w ∈ u_ws R T N, w ∈ zTbl) ∧ Cond.fieldLink own idx (T k).1 (T k).2.1 (T k).2.2.1 ∈ zTbl ∧ (T k).2.2.2 = false ∧ parseFieldDescriptor (T k).2.2.1 = some ty ∧ (∀ k, k < N → parseFieldDescriptor (T k).2.2.1 = some (ty0 k)) ∧ (∀ a, a < N → ∀ b, b < N → a ≠ b → (T a).2.1 ≠ (T b).2.1)
theorem zc_lt {x y : Int64} : lg_cmp x y < 0 ↔ x < y := by
  unfold lg_cmp
  by_cases h1 : y < x
  · have : ¬ x < y := fun h => by rw [Int64.lt_iff_toInt_lt] at h h1; omega
    simp [h1, this]
  · by_cases h2 : x = y
    · subst h2; simp [h1]
    · have : x < y := by
        rw [Int64.lt_iff_toInt_lt] at h1 ⊢
        have : x.toInt ≠ y.toInt := fun h => h2 (Int64.toInt_inj.mp h)
        omega
      simp [h1, h2, this]
theorem zc_gt {x y : Int64} : 0 < lg_cmp x y ↔ y < x := by
  unfold lg_cmp
  by_cases h1 : y < x
  · simp [h1]
  · by_cases h2 : x = y
    · subst h2; simp [h1]
    · simp [h1, h2]
theorem zc_ge {x y : Int64} : 0 ≤ lg_cmp x y ↔ y ≤ x := by
  rw [← Int32.not_lt, zc_lt, Int64.not_lt]
theorem zc_le {x y : Int64} : lg_cmp x y ≤ 0 ↔ x ≤ y := by
  rw [← Int32.not_lt, zc_gt, Int64.not_lt]
theorem zc_eq {x y : Int64} : lg_cmp x y = 0 ↔ x = y := by
  unfold lg_cmp
  by_cases h1 : y < x
  · have : ¬ x = y := fun h => by subst h; rw [Int64.lt_iff_toInt_lt] at h1; omega
    simp [h1, this]
  · by_cases h2 : x = y
    · subst h2; simp [h1]
    · simp [h1, h2]
def zCv (c : Int32) : Nat := 25 + 3 * c.toNatClampNeg
theorem zCv_cases {c : Int32} (h : vp_in c 8) : ∃ n, n < 8 ∧ c.toNatClampNeg = n := ⟨_, Nat.not_le.mp fun q => h (Or.inr q), rfl⟩
theorem zCv_r {c : Int32} (h : vp_in c 8) : ([some 25, some 28, some 31, some 34, some 37, some 40, some 43, some 46] : List (Option Nat)).getD c.toNatClampNeg none = some (zCv c) := by
  obtain ⟨n, hn, e⟩ := zCv_cases h
  unfold zCv
  rw [e]
  rcases n with _ | _ | _ | _ | _ | _ | _ | _ | n <;> first | rfl | omega
theorem zCv_0 {c : Int32} (h : vp_in c 8) : LAY[zCv c]? = some (.inr (.inl (0, [none, some (some (zCv c + 1)), some (some (zCv c + 2))]))) := by
  obtain ⟨n, hn, e⟩ := zCv_cases h
  unfold zCv
  rw [e]
  rcases n with _ | _ | _ | _ | _ | _ | _ | _ | n <;> first | rfl | omega
theorem zCv_1 {c : Int32} (h : vp_in c 8) : LAY[zCv c + 1]? = some (.inl (0, 8)) := by
  obtain ⟨n, hn, e⟩ := zCv_cases h
  unfold zCv
  rw [e]
  rcases n with _ | _ | _ | _ | _ | _ | _ | _ | n <;> first | rfl | omega
theorem zCv_2 {c : Int32} (h : vp_in c 8) : LAY[zCv c + 2]? = some (.inl (0, 8)) := by
  obtain ⟨n, hn, e⟩ := zCv_cases h
  unfold zCv
  rw [e]
  rcases n with _ | _ | _ | _ | _ | _ | _ | _ | n <;> first | rfl | omega
def zBo (v : Int32) : Prop := v = 0 ∨ v = 1
theorem zBo_n {v : Int32} (h : zBo v) : narrow .boolean (.int v) = .int v := by
  rcases h with rfl | rfl <;> rfl
theorem zBo_f {v : Int32} (h : zBo v) : fits .boolean (.int v) = true := by
  rcases h with rfl | rfl <;> rfl
theorem zBo_s {v : Int32} (h : zBo v) : vp_nar .boolean v = v := by
  rcases h with rfl | rfl <;> rfl
section ZR
variable {K : zM} {post : Option Value → GG → Prop} {pc j : Nat} {L L' : List (Nat × Value)} {S : List Value} {G : GG}
theorem j_sub (ks : List Nat) (h : lv_pick L ks = L') (k : zJ K post pc L' S G) : zJ K post pc L S G := by
  intro l p e s m args below meth c D aC ad base H locs ls hC hb0 hK hP hS hl
  refine k l p e s m args below meth c D aC ad base H locs ls hC hb0 hK hP hS ⟨hl.1, hl.2.1, fun q hq => hl.2.2 q ?_⟩
  obtain ⟨x, hx, rfl⟩ := List.mem_map.mp hq
  rw [← h] at hx
  obtain ⟨i, -, hi⟩ := List.mem_filterMap.mp hx
  exact List.mem_map.mpr ⟨x, List.mem_of_getElem? hi, rfl⟩
theorem j_iconst {n : Int} (v : Int32) (q : Nat) (hq : pc + 1 = q) (d : decode K.2.1 pc = .ok (.iconst n, 1)) (hv : Int32.ofInt n = v) (k : zJ K post q L (.int v :: S) G) : zJ K post pc L S G := by
  intro l p e s m args below meth c D aC ad base H locs ls hC hb0 hK hP hS hl
  obtain ⟨hx, hb, hml, hown, hts, hr, hlk⟩ := id hC
  subst hq
  exact lv_iconst (rest := S.map (zV ad)) hx hb d hv (k l p e s m args below meth c D aC ad base H locs ls hC hb0 hK hP hS hl)
theorem j_bipush {n : Int} (v : Int32) (q : Nat) (hq : pc + 2 = q) (d : decode K.2.1 pc = .ok (.bipush n, 2)) (hv : (Int8.ofInt n).toInt32 = v) (k : zJ K post q L (.int v :: S) G) : zJ K post pc L S G := by
  intro l p e s m args below meth c D aC ad base H locs ls hC hb0 hK hP hS hl
  obtain ⟨hx, hb, hml, hown, hts, hr, hlk⟩ := id hC
  subst hq
  exact lv_bipush (rest := S.map (zV ad)) hx hb d hv (k l p e s m args below meth c D aC ad base H locs ls hC hb0 hK hP hS hl)
theorem j_sipush {n : Int} (v : Int32) (q : Nat) (hq : pc + 3 = q) (d : decode K.2.1 pc = .ok (.sipush n, 3)) (hv : (Int16.ofInt n).toInt32 = v) (k : zJ K post q L (.int v :: S) G) : zJ K post pc L S G := by
  intro l p e s m args below meth c D aC ad base H locs ls hC hb0 hK hP hS hl
  obtain ⟨hx, hb, hml, hown, hts, hr, hlk⟩ := id hC
  subst hq
  exact lv_sipush (rest := S.map (zV ad)) hx hb d hv (k l p e s m args below meth c D aC ad base H locs ls hC hb0 hK hP hS hl)
theorem j_lconst {n : Fin 2} (v : Int64) (q : Nat) (hq : pc + 1 = q) (d : decode K.2.1 pc = .ok (.lconst n, 1)) (hv : Int64.ofNat (n : Nat) = v) (k : zJ K post q L (.long v :: S) G) : zJ K post pc L S G := by
  intro l p e s m args below meth c D aC ad base H locs ls hC hb0 hK hP hS hl
  obtain ⟨hx, hb, hml, hown, hts, hr, hlk⟩ := id hC
  subst hq
  exact lv_lconst (rest := S.map (zV ad)) hx hb d hv (k l p e s m args below meth c D aC ad base H locs ls hC hb0 hK hP hS hl)
theorem j_ldc {idx : Nat} (v : Int32) (q : Nat) (hq : pc + 2 = q) (d : decode K.2.1 pc = .ok (.ldc idx, 2)) (hw : Cond.constant K.1.cls idx v ∈ zTbl) (k : zJ K post q L (.int v :: S) G) : zJ K post pc L S G := by
  intro l p e s m args below meth c D aC ad base H locs ls hC hb0 hK hP hS hl
  obtain ⟨hx, hb, hml, hown, hts, hr, hlk⟩ := id hC
  subst hq
  exact lv_ldc (rest := S.map (zV ad)) hx hb hown (hts _ hw) d (k l p e s m args below meth c D aC ad base H locs ls hC hb0 hK hP hS hl)
theorem j_ldc_w {idx : Nat} (v : Int32) (q : Nat) (hq : pc + 3 = q) (d : decode K.2.1 pc = .ok (.ldc_w idx, 3)) (hw : Cond.constant K.1.cls idx v ∈ zTbl) (k : zJ K post q L (.int v :: S) G) : zJ K post pc L S G := by
  intro l p e s m args below meth c D aC ad base H locs ls hC hb0 hK hP hS hl
  obtain ⟨hx, hb, hml, hown, hts, hr, hlk⟩ := id hC
  subst hq
  exact lv_ldcw (rest := S.map (zV ad)) hx hb hown (hts _ hw) d (k l p e s m args below meth c D aC ad base H locs ls hC hb0 hK hP hS hl)
theorem j_ldc2_w {idx : Nat} (v : Int64) (q : Nat) (hq : pc + 3 = q) (d : decode K.2.1 pc = .ok (.ldc2_w idx, 3)) (hw : Cond.constantLong K.1.cls idx v ∈ zTbl) (k : zJ K post q L (.long v :: S) G) : zJ K post pc L S G := by
  intro l p e s m args below meth c D aC ad base H locs ls hC hb0 hK hP hS hl
  obtain ⟨hx, hb, hml, hown, hts, hr, hlk⟩ := id hC
  subst hq
  exact lv_ldc2 (rest := S.map (zV ad)) hx hb hown (hts _ hw) d (k l p e s m args below meth c D aC ad base H locs ls hC hb0 hK hP hS hl)
theorem j_iload_n {k0 : Fin 4} {i : Nat} {x : Int32} (j : Nat) (q : Nat) (hq : pc + 1 = q) (d : decode K.2.1 pc = .ok (.iload_n k0, 1)) (hi : (k0 : Nat) = i) (hL : L[j]? = some (i, .int x)) (k : zJ K post q L (.int x :: S) G) : zJ K post pc L S G := by
  intro l p e s m args below meth c D aC ad base H locs ls hC hb0 hK hP hS hl
  obtain ⟨hx, hb, hml, hown, hts, hr, hlk⟩ := id hC
  subst hq
  exact lv_iload_n (rest := S.map (zV ad)) hx hb d hi (lv_at hl j (zL_at hL)) (k l p e s m args below meth c D aC ad base H locs ls hC hb0 hK hP hS hl)
theorem j_iload {i : Nat} {x : Int32} (j : Nat) (q : Nat) (hq : pc + 2 = q) (d : decode K.2.1 pc = .ok (.iload i, 2)) (hL : L[j]? = some (i, .int x)) (k : zJ K post q L (.int x :: S) G) : zJ K post pc L S G := by
  intro l p e s m args below meth c D aC ad base H locs ls hC hb0 hK hP hS hl
  obtain ⟨hx, hb, hml, hown, hts, hr, hlk⟩ := id hC
  subst hq
  exact lv_iload (rest := S.map (zV ad)) hx hb d (lv_at hl j (zL_at hL)) (k l p e s m args below meth c D aC ad base H locs ls hC hb0 hK hP hS hl)
theorem j_istore_n {k0 : Fin 4} {i : Nat} {x : Int32} (L' : List (Nat × Value)) (q : Nat) (hq : pc + 1 = q) (d : decode K.2.1 pc = .ok (.istore_n k0, 1)) (hi : (k0 : Nat) = i) (hn : i < K.2.2.1) (hL : zIns i (.int x) (zF1 i L) = L') (k : zJ K post q L' S G) : zJ K post pc L (.int x :: S) G := by
  intro l p e s m args below meth c D aC ad base H locs ls hC hb0 hK hP hS hl
  obtain ⟨hx, hb, hml, hown, hts, hr, hlk⟩ := id hC
  subst hq
  refine lv_istore_n (x := x) (rest := S.map (zV ad)) (lv' := (i, zV ad (.int x)) :: zL ad (zF1 i L)) hx hb d hi hl hn (by rw [zF1_L]; rfl) (fun ls hl => ?_)
  exact k l p e s m args below meth c D aC ad base H locs ls hC hb0 hK hP hS (zHas_ins hl hL)
theorem j_istore {i : Nat} {x : Int32} (L' : List (Nat × Value)) (q : Nat) (hq : pc + 2 = q) (d : decode K.2.1 pc = .ok (.istore i, 2)) (hn : i < K.2.2.1) (hL : zIns i (.int x) (zF1 i L) = L') (k : zJ K post q L' S G) : zJ K post pc L (.int x :: S) G := by
  intro l p e s m args below meth c D aC ad base H locs ls hC hb0 hK hP hS hl
  obtain ⟨hx, hb, hml, hown, hts, hr, hlk⟩ := id hC
  subst hq
  refine lv_istore (x := x) (rest := S.map (zV ad)) (lv' := (i, zV ad (.int x)) :: zL ad (zF1 i L)) hx hb d hl hn (by rw [zF1_L]; rfl) (fun ls hl => ?_)
  exact k l p e s m args below meth c D aC ad base H locs ls hC hb0 hK hP hS (zHas_ins hl hL)
theorem j_lload_n {k0 : Fin 4} {i : Nat} {x : Int64} (j : Nat) (q : Nat) (hq : pc + 1 = q) (d : decode K.2.1 pc = .ok (.lload_n k0, 1)) (hi : (k0 : Nat) = i) (hL : L[j]? = some (i, .long x)) (k : zJ K post q L (.long x :: S) G) : zJ K post pc L S G := by
  intro l p e s m args below meth c D aC ad base H locs ls hC hb0 hK hP hS hl
  obtain ⟨hx, hb, hml, hown, hts, hr, hlk⟩ := id hC
  subst hq
  exact lv_lload_n (rest := S.map (zV ad)) hx hb d hi (lv_at hl j (zL_at hL)) (k l p e s m args below meth c D aC ad base H locs ls hC hb0 hK hP hS hl)
theorem j_lload {i : Nat} {x : Int64} (j : Nat) (q : Nat) (hq : pc + 2 = q) (d : decode K.2.1 pc = .ok (.lload i, 2)) (hL : L[j]? = some (i, .long x)) (k : zJ K post q L (.long x :: S) G) : zJ K post pc L S G := by
  intro l p e s m args below meth c D aC ad base H locs ls hC hb0 hK hP hS hl
  obtain ⟨hx, hb, hml, hown, hts, hr, hlk⟩ := id hC
  subst hq
  exact lv_lload (rest := S.map (zV ad)) hx hb d (lv_at hl j (zL_at hL)) (k l p e s m args below meth c D aC ad base H locs ls hC hb0 hK hP hS hl)
theorem j_lstore_n {k0 : Fin 4} {i : Nat} {x : Int64} (L' : List (Nat × Value)) (q : Nat) (hq : pc + 1 = q) (d : decode K.2.1 pc = .ok (.lstore_n k0, 1)) (hi : (k0 : Nat) = i) (hn : i + 1 < K.2.2.1) (hL : zIns i (.long x) (zF2 i L) = L') (k : zJ K post q L' S G) : zJ K post pc L (.long x :: S) G := by
  intro l p e s m args below meth c D aC ad base H locs ls hC hb0 hK hP hS hl
  obtain ⟨hx, hb, hml, hown, hts, hr, hlk⟩ := id hC
  subst hq
  refine lv_lstore_n (x := x) (rest := S.map (zV ad)) (lv' := (i, zV ad (.long x)) :: zL ad (zF2 i L)) hx hb d hi hl hn (by rw [zF2_L]; rfl) (fun ls hl => ?_)
  exact k l p e s m args below meth c D aC ad base H locs ls hC hb0 hK hP hS (zHas_ins hl hL)
theorem j_lstore {i : Nat} {x : Int64} (L' : List (Nat × Value)) (q : Nat) (hq : pc + 2 = q) (d : decode K.2.1 pc = .ok (.lstore i, 2)) (hn : i + 1 < K.2.2.1) (hL : zIns i (.long x) (zF2 i L) = L') (k : zJ K post q L' S G) : zJ K post pc L (.long x :: S) G := by
  intro l p e s m args below meth c D aC ad base H locs ls hC hb0 hK hP hS hl
  obtain ⟨hx, hb, hml, hown, hts, hr, hlk⟩ := id hC
  subst hq
  refine lv_lstore (x := x) (rest := S.map (zV ad)) (lv' := (i, zV ad (.long x)) :: zL ad (zF2 i L)) hx hb d hl hn (by rw [zF2_L]; rfl) (fun ls hl => ?_)
  exact k l p e s m args below meth c D aC ad base H locs ls hC hb0 hK hP hS (zHas_ins hl hL)
theorem j_aload_n {k0 : Fin 4} {i : Nat} {x : Nat} (j : Nat) (q : Nat) (hq : pc + 1 = q) (d : decode K.2.1 pc = .ok (.aload_n k0, 1)) (hi : (k0 : Nat) = i) (hL : L[j]? = some (i, .ref x)) (k : zJ K post q L (.ref x :: S) G) : zJ K post pc L S G := by
  intro l p e s m args below meth c D aC ad base H locs ls hC hb0 hK hP hS hl
  obtain ⟨hx, hb, hml, hown, hts, hr, hlk⟩ := id hC
  subst hq
  exact lv_aload_n (rest := S.map (zV ad)) hx hb d hi (lv_at hl j (zL_at hL)) (k l p e s m args below meth c D aC ad base H locs ls hC hb0 hK hP hS hl)
theorem j_aload {i : Nat} {x : Nat} (j : Nat) (q : Nat) (hq : pc + 2 = q) (d : decode K.2.1 pc = .ok (.aload i, 2)) (hL : L[j]? = some (i, .ref x)) (k : zJ K post q L (.ref x :: S) G) : zJ K post pc L S G := by
  intro l p e s m args below meth c D aC ad base H locs ls hC hb0 hK hP hS hl
  obtain ⟨hx, hb, hml, hown, hts, hr, hlk⟩ := id hC
  subst hq
  exact lv_aload (rest := S.map (zV ad)) hx hb d (lv_at hl j (zL_at hL)) (k l p e s m args below meth c D aC ad base H locs ls hC hb0 hK hP hS hl)
theorem j_astore_n {k0 : Fin 4} {i : Nat} {x : Nat} (L' : List (Nat × Value)) (q : Nat) (hq : pc + 1 = q) (d : decode K.2.1 pc = .ok (.astore_n k0, 1)) (hi : (k0 : Nat) = i) (hn : i < K.2.2.1) (hL : zIns i (.ref x) (zF1 i L) = L') (k : zJ K post q L' S G) : zJ K post pc L (.ref x :: S) G := by
  intro l p e s m args below meth c D aC ad base H locs ls hC hb0 hK hP hS hl
  obtain ⟨hx, hb, hml, hown, hts, hr, hlk⟩ := id hC
  subst hq
  refine lv_astore_n (x := ad x) (rest := S.map (zV ad)) (lv' := (i, zV ad (.ref x)) :: zL ad (zF1 i L)) hx hb d hi hl hn (by rw [zF1_L]; rfl) (fun ls hl => ?_)
  exact k l p e s m args below meth c D aC ad base H locs ls hC hb0 hK hP hS (zHas_ins hl hL)
theorem j_astore {i : Nat} {x : Nat} (L' : List (Nat × Value)) (q : Nat) (hq : pc + 2 = q) (d : decode K.2.1 pc = .ok (.astore i, 2)) (hn : i < K.2.2.1) (hL : zIns i (.ref x) (zF1 i L) = L') (k : zJ K post q L' S G) : zJ K post pc L (.ref x :: S) G := by
  intro l p e s m args below meth c D aC ad base H locs ls hC hb0 hK hP hS hl
  obtain ⟨hx, hb, hml, hown, hts, hr, hlk⟩ := id hC
  subst hq
  refine lv_astore (x := ad x) (rest := S.map (zV ad)) (lv' := (i, zV ad (.ref x)) :: zL ad (zF1 i L)) hx hb d hl hn (by rw [zF1_L]; rfl) (fun ls hl => ?_)
  exact k l p e s m args below meth c D aC ad base H locs ls hC hb0 hK hP hS (zHas_ins hl hL)
theorem j_iinc {i : Nat} {n : Int} {x : Int32} (j : Nat) (v : Int32) (L' : List (Nat × Value)) (q : Nat) (hq : pc + 3 = q) (d : decode K.2.1 pc = .ok (.iinc i n, 3)) (hL0 : L[j]? = some (i, .int x)) (hv : x + Int32.ofInt n = v) (hn : i < K.2.2.1) (hL : zIns i (.int v) (zF1 i L) = L') (k : zJ K post q L' S G) : zJ K post pc L S G := by
  intro l p e s m args below meth c D aC ad base H locs ls hC hb0 hK hP hS hl
  obtain ⟨hx, hb, hml, hown, hts, hr, hlk⟩ := id hC
  subst hq
  refine lv_iinc (v := v) (lv' := (i, zV ad (.int v)) :: zL ad (zF1 i L)) hx hb d hl (zL_at hL0) hv hn (by rw [zF1_L]; rfl) (fun ls hl => ?_)
  exact k l p e s m args below meth c D aC ad base H locs ls hC hb0 hK hP hS (zHas_ins hl hL)
theorem j_iadd {x y : Int32} (q : Nat) (hq : pc + 1 = q) (d : decode K.2.1 pc = .ok (.iadd, 1)) (k : zJ K post q L (.int (x + y) :: S) G) : zJ K post pc L (.int y :: .int x :: S) G := by
  intro l p e s m args below meth c D aC ad base H locs ls hC hb0 hK hP hS hl
  obtain ⟨hx, hb, hml, hown, hts, hr, hlk⟩ := id hC
  subst hq
  exact lv_iadd (rest := S.map (zV ad)) hx hb d (k l p e s m args below meth c D aC ad base H locs ls hC hb0 hK hP hS hl)
theorem j_isub {x y : Int32} (q : Nat) (hq : pc + 1 = q) (d : decode K.2.1 pc = .ok (.isub, 1)) (k : zJ K post q L (.int (x - y) :: S) G) : zJ K post pc L (.int y :: .int x :: S) G := by
  intro l p e s m args below meth c D aC ad base H locs ls hC hb0 hK hP hS hl
  obtain ⟨hx, hb, hml, hown, hts, hr, hlk⟩ := id hC
  subst hq
  exact lv_isub (rest := S.map (zV ad)) hx hb d (k l p e s m args below meth c D aC ad base H locs ls hC hb0 hK hP hS hl)
theorem j_imul {x y : Int32} (q : Nat) (hq : pc + 1 = q) (d : decode K.2.1 pc = .ok (.imul, 1)) (k : zJ K post q L (.int (x * y) :: S) G) : zJ K post pc L (.int y :: .int x :: S) G := by
  intro l p e s m args below meth c D aC ad base H locs ls hC hb0 hK hP hS hl
  obtain ⟨hx, hb, hml, hown, hts, hr, hlk⟩ := id hC
  subst hq
  exact lv_imul (rest := S.map (zV ad)) hx hb d (k l p e s m args below meth c D aC ad base H locs ls hC hb0 hK hP hS hl)
theorem j_iand {x y : Int32} (q : Nat) (hq : pc + 1 = q) (d : decode K.2.1 pc = .ok (.iand, 1)) (k : zJ K post q L (.int (x &&& y) :: S) G) : zJ K post pc L (.int y :: .int x :: S) G := by
  intro l p e s m args below meth c D aC ad base H locs ls hC hb0 hK hP hS hl
  obtain ⟨hx, hb, hml, hown, hts, hr, hlk⟩ := id hC
  subst hq
  exact lv_iand (rest := S.map (zV ad)) hx hb d (k l p e s m args below meth c D aC ad base H locs ls hC hb0 hK hP hS hl)
theorem j_ior {x y : Int32} (q : Nat) (hq : pc + 1 = q) (d : decode K.2.1 pc = .ok (.ior, 1)) (k : zJ K post q L (.int (x ||| y) :: S) G) : zJ K post pc L (.int y :: .int x :: S) G := by
  intro l p e s m args below meth c D aC ad base H locs ls hC hb0 hK hP hS hl
  obtain ⟨hx, hb, hml, hown, hts, hr, hlk⟩ := id hC
  subst hq
  exact lv_ior (rest := S.map (zV ad)) hx hb d (k l p e s m args below meth c D aC ad base H locs ls hC hb0 hK hP hS hl)
theorem j_ixor {x y : Int32} (q : Nat) (hq : pc + 1 = q) (d : decode K.2.1 pc = .ok (.ixor, 1)) (k : zJ K post q L (.int (x ^^^ y) :: S) G) : zJ K post pc L (.int y :: .int x :: S) G := by
  intro l p e s m args below meth c D aC ad base H locs ls hC hb0 hK hP hS hl
  obtain ⟨hx, hb, hml, hown, hts, hr, hlk⟩ := id hC
  subst hq
  exact lv_ixor (rest := S.map (zV ad)) hx hb d (k l p e s m args below meth c D aC ad base H locs ls hC hb0 hK hP hS hl)
theorem j_ishl {x y : Int32} (q : Nat) (hq : pc + 1 = q) (d : decode K.2.1 pc = .ok (.ishl, 1)) (k : zJ K post q L (.int (x <<< (y &&& 31)) :: S) G) : zJ K post pc L (.int y :: .int x :: S) G := by
  intro l p e s m args below meth c D aC ad base H locs ls hC hb0 hK hP hS hl
  obtain ⟨hx, hb, hml, hown, hts, hr, hlk⟩ := id hC
  subst hq
  exact lv_ishl (rest := S.map (zV ad)) hx hb d (k l p e s m args below meth c D aC ad base H locs ls hC hb0 hK hP hS hl)
theorem j_ishr {x y : Int32} (q : Nat) (hq : pc + 1 = q) (d : decode K.2.1 pc = .ok (.ishr, 1)) (k : zJ K post q L (.int (x >>> (y &&& 31)) :: S) G) : zJ K post pc L (.int y :: .int x :: S) G := by
  intro l p e s m args below meth c D aC ad base H locs ls hC hb0 hK hP hS hl
  obtain ⟨hx, hb, hml, hown, hts, hr, hlk⟩ := id hC
  subst hq
  exact lv_ishr (rest := S.map (zV ad)) hx hb d (k l p e s m args below meth c D aC ad base H locs ls hC hb0 hK hP hS hl)
theorem j_ladd {x y : Int64} (q : Nat) (hq : pc + 1 = q) (d : decode K.2.1 pc = .ok (.ladd, 1)) (k : zJ K post q L (.long (x + y) :: S) G) : zJ K post pc L (.long y :: .long x :: S) G := by
  intro l p e s m args below meth c D aC ad base H locs ls hC hb0 hK hP hS hl
  obtain ⟨hx, hb, hml, hown, hts, hr, hlk⟩ := id hC
  subst hq
  exact lv_ladd (rest := S.map (zV ad)) hx hb d (k l p e s m args below meth c D aC ad base H locs ls hC hb0 hK hP hS hl)
theorem j_lsub {x y : Int64} (q : Nat) (hq : pc + 1 = q) (d : decode K.2.1 pc = .ok (.lsub, 1)) (k : zJ K post q L (.long (x - y) :: S) G) : zJ K post pc L (.long y :: .long x :: S) G := by
  intro l p e s m args below meth c D aC ad base H locs ls hC hb0 hK hP hS hl
  obtain ⟨hx, hb, hml, hown, hts, hr, hlk⟩ := id hC
  subst hq
  exact lv_lsub (rest := S.map (zV ad)) hx hb d (k l p e s m args below meth c D aC ad base H locs ls hC hb0 hK hP hS hl)
theorem j_lmul {x y : Int64} (q : Nat) (hq : pc + 1 = q) (d : decode K.2.1 pc = .ok (.lmul, 1)) (k : zJ K post q L (.long (x * y) :: S) G) : zJ K post pc L (.long y :: .long x :: S) G := by
  intro l p e s m args below meth c D aC ad base H locs ls hC hb0 hK hP hS hl
  obtain ⟨hx, hb, hml, hown, hts, hr, hlk⟩ := id hC
  subst hq
  exact lv_lmul (rest := S.map (zV ad)) hx hb d (k l p e s m args below meth c D aC ad base H locs ls hC hb0 hK hP hS hl)
theorem j_idiv {x y : Int32} (q : Nat) (hq : pc + 1 = q) (d : decode K.2.1 pc = .ok (.idiv, 1)) (hne : ¬ y = 0) (k : zJ K post q L (.int (x / y) :: S) G) : zJ K post pc L (.int y :: .int x :: S) G := by
  intro l p e s m args below meth c D aC ad base H locs ls hC hb0 hK hP hS hl
  obtain ⟨hx, hb, hml, hown, hts, hr, hlk⟩ := id hC
  subst hq
  exact lv_idiv (rest := S.map (zV ad)) hx hb d hne (k l p e s m args below meth c D aC ad base H locs ls hC hb0 hK hP hS hl)
theorem j_irem {x y : Int32} (q : Nat) (hq : pc + 1 = q) (d : decode K.2.1 pc = .ok (.irem, 1)) (hne : ¬ y = 0) (k : zJ K post q L (.int (x - x / y * y) :: S) G) : zJ K post pc L (.int y :: .int x :: S) G := by
  intro l p e s m args below meth c D aC ad base H locs ls hC hb0 hK hP hS hl
  obtain ⟨hx, hb, hml, hown, hts, hr, hlk⟩ := id hC
  subst hq
  exact lv_irem (rest := S.map (zV ad)) hx hb d hne (k l p e s m args below meth c D aC ad base H locs ls hC hb0 hK hP hS hl)
theorem j_ldiv {x y : Int64} (q : Nat) (hq : pc + 1 = q) (d : decode K.2.1 pc = .ok (.ldiv, 1)) (hne : ¬ y = 0) (k : zJ K post q L (.long (x / y) :: S) G) : zJ K post pc L (.long y :: .long x :: S) G := by
  intro l p e s m args below meth c D aC ad base H locs ls hC hb0 hK hP hS hl
  obtain ⟨hx, hb, hml, hown, hts, hr, hlk⟩ := id hC
  subst hq
  exact lv_ldiv (rest := S.map (zV ad)) hx hb d hne (k l p e s m args below meth c D aC ad base H locs ls hC hb0 hK hP hS hl)
theorem j_lrem {x y : Int64} (q : Nat) (hq : pc + 1 = q) (d : decode K.2.1 pc = .ok (.lrem, 1)) (hne : ¬ y = 0) (k : zJ K post q L (.long (x - x / y * y) :: S) G) : zJ K post pc L (.long y :: .long x :: S) G := by
  intro l p e s m args below meth c D aC ad base H locs ls hC hb0 hK hP hS hl
  obtain ⟨hx, hb, hml, hown, hts, hr, hlk⟩ := id hC
  subst hq
  exact lv_lrem (rest := S.map (zV ad)) hx hb d hne (k l p e s m args below meth c D aC ad base H locs ls hC hb0 hK hP hS hl)
theorem j_iushr {x y : Int32} (q : Nat) (hq : pc + 1 = q) (d : decode K.2.1 pc = .ok (.iushr, 1)) (k : zJ K post q L (.int (x.toUInt32 >>> (y.toUInt32 &&& Int32.toUInt32 31)).toInt32 :: S) G) : zJ K post pc L (.int y :: .int x :: S) G := by
  intro l p e s m args below meth c D aC ad base H locs ls hC hb0 hK hP hS hl
  obtain ⟨hx, hb, hml, hown, hts, hr, hlk⟩ := id hC
  subst hq
  exact lv_iushr (rest := S.map (zV ad)) hx hb d rfl (k l p e s m args below meth c D aC ad base H locs ls hC hb0 hK hP hS hl)
theorem j_i2l {x : Int32} (q : Nat) (hq : pc + 1 = q) (d : decode K.2.1 pc = .ok (.i2l, 1)) (k : zJ K post q L (.long x.toInt64 :: S) G) : zJ K post pc L (.int x :: S) G := by
  intro l p e s m args below meth c D aC ad base H locs ls hC hb0 hK hP hS hl
  obtain ⟨hx, hb, hml, hown, hts, hr, hlk⟩ := id hC
  subst hq
  exact lv_i2l (rest := S.map (zV ad)) hx hb d rfl (k l p e s m args below meth c D aC ad base H locs ls hC hb0 hK hP hS hl)
theorem j_l2i {x : Int64} (q : Nat) (hq : pc + 1 = q) (d : decode K.2.1 pc = .ok (.l2i, 1)) (k : zJ K post q L (.int x.toInt32 :: S) G) : zJ K post pc L (.long x :: S) G := by
  intro l p e s m args below meth c D aC ad base H locs ls hC hb0 hK hP hS hl
  obtain ⟨hx, hb, hml, hown, hts, hr, hlk⟩ := id hC
  subst hq
  exact lv_l2i (rest := S.map (zV ad)) hx hb d rfl (k l p e s m args below meth c D aC ad base H locs ls hC hb0 hK hP hS hl)
theorem j_i2b {x : Int32} (q : Nat) (hq : pc + 1 = q) (d : decode K.2.1 pc = .ok (.i2b, 1)) (k : zJ K post q L (.int x.toInt8.toInt32 :: S) G) : zJ K post pc L (.int x :: S) G := by
  intro l p e s m args below meth c D aC ad base H locs ls hC hb0 hK hP hS hl
  obtain ⟨hx, hb, hml, hown, hts, hr, hlk⟩ := id hC
  subst hq
  exact lv_i2b (rest := S.map (zV ad)) hx hb d rfl (k l p e s m args below meth c D aC ad base H locs ls hC hb0 hK hP hS hl)
theorem j_lcmp {x y : Int64} (q : Nat) (hq : pc + 1 = q) (d : decode K.2.1 pc = .ok (.lcmp, 1)) (k : zJ K post q L (.int (lg_cmp x y) :: S) G) : zJ K post pc L (.long y :: .long x :: S) G := by
  intro l p e s m args below meth c D aC ad base H locs ls hC hb0 hK hP hS hl
  obtain ⟨hx, hb, hml, hown, hts, hr, hlk⟩ := id hC
  subst hq
  exact W.lcmp (rest := S.map (zV ad)) hx hb d (k l p e s m args below meth c D aC ad base H locs ls hC hb0 hK hP hS hl)
theorem j_dup {v : Value} (q : Nat) (hq : pc + 1 = q) (d : decode K.2.1 pc = .ok (.dup, 1)) (hv : v.category = 1) (k : zJ K post q L (v :: v :: S) G) : zJ K post pc L (v :: S) G := by
  intro l p e s m args below meth c D aC ad base H locs ls hC hb0 hK hP hS hl
  obtain ⟨hx, hb, hml, hown, hts, hr, hlk⟩ := id hC
  subst hq
  exact lv_dup (rest := S.map (zV ad)) hx hb d (by rw [zV_cat]; exact hv) (k l p e s m args below meth c D aC ad base H locs ls hC hb0 hK hP hS hl)
theorem j_dup2 {v w : Value} (q : Nat) (hq : pc + 1 = q) (d : decode K.2.1 pc = .ok (.dup2, 1)) (hv : v.category = 1) (hw : w.category = 1) (k : zJ K post q L (v :: w :: v :: w :: S) G) : zJ K post pc L (v :: w :: S) G := by
  intro l p e s m args below meth c D aC ad base H locs ls hC hb0 hK hP hS hl
  obtain ⟨hx, hb, hml, hown, hts, hr, hlk⟩ := id hC
  subst hq
  exact lv_dup2_11 (rest := S.map (zV ad)) hx hb d (by rw [zV_cat]; exact hv) (by rw [zV_cat]; exact hw) (k l p e s m args below meth c D aC ad base H locs ls hC hb0 hK hP hS hl)
theorem j_pop {v : Value} (q : Nat) (hq : pc + 1 = q) (d : decode K.2.1 pc = .ok (.pop, 1)) (hv : v.category = 1) (k : zJ K post q L S G) : zJ K post pc L (v :: S) G := by
  intro l p e s m args below meth c D aC ad base H locs ls hC hb0 hK hP hS hl
  obtain ⟨hx, hb, hml, hown, hts, hr, hlk⟩ := id hC
  subst hq
  exact lv_pop (rest := S.map (zV ad)) hx hb d (by rw [zV_cat]; exact hv) (k l p e s m args below meth c D aC ad base H locs ls hC hb0 hK hP hS hl)
theorem j_if_eq {x : Int32} {off : Int} (q tgt : Nat) (hq : pc + 3 = q) (ht : (pc : Int) + off = (tgt : Int)) (d : decode K.2.1 pc = .ok (.ifCond .eq off, 3)) (kt : x = 0 → zJ K post tgt L S G) (kf : ¬ x = 0 → zJ K post q L S G) : zJ K post pc L (.int x :: S) G := by
  intro l p e s m args below meth c D aC ad base H locs ls hC hb0 hK hP hS hl
  obtain ⟨hx, hb, hml, hown, hts, hr, hlk⟩ := id hC
  subst hq
  exact lv_if_eq (rest := S.map (zV ad)) hx hb d ht (fun h => kt h l p e s m args below meth c D aC ad base H locs ls hC hb0 hK hP hS hl) (fun h => kf h l p e s m args below meth c D aC ad base H locs ls hC hb0 hK hP hS hl)
theorem j_icmp_eq {x y : Int32} {off : Int} (q tgt : Nat) (hq : pc + 3 = q) (ht : (pc : Int) + off = (tgt : Int)) (d : decode K.2.1 pc = .ok (.if_icmp .eq off, 3)) (kt : x = y → zJ K post tgt L S G) (kf : ¬ x = y → zJ K post q L S G) : zJ K post pc L (.int y :: .int x :: S) G := by
  intro l p e s m args below meth c D aC ad base H locs ls hC hb0 hK hP hS hl
  obtain ⟨hx, hb, hml, hown, hts, hr, hlk⟩ := id hC
  subst hq
  exact lv_icmp_eq (rest := S.map (zV ad)) hx hb d ht (fun h => kt h l p e s m args below meth c D aC ad base H locs ls hC hb0 hK hP hS hl) (fun h => kf h l p e s m args below meth c D aC ad base H locs ls hC hb0 hK hP hS hl)
theorem j_lif_eq {x y : Int64} {off : Int} (q1 q tgt : Nat) (hq1 : pc + 1 = q1) (hq : q1 + 3 = q) (ht : (q1 : Int) + off = (tgt : Int)) (d1 : decode K.2.1 pc = .ok (.lcmp, 1)) (d : decode K.2.1 q1 = .ok (.ifCond .eq off, 3)) (kt : x = y → zJ K post tgt L S G) (kf : ¬ x = y → zJ K post q L S G) : zJ K post pc L (.long y :: .long x :: S) G :=
  j_lcmp q1 hq1 d1 (j_if_eq q tgt hq ht d (fun h => kt (zc_eq.mp h)) (fun h => kf (fun z => h (zc_eq.mpr z))))
theorem j_if_ne {x : Int32} {off : Int} (q tgt : Nat) (hq : pc + 3 = q) (ht : (pc : Int) + off = (tgt : Int)) (d : decode K.2.1 pc = .ok (.ifCond .ne off, 3)) (kt : ¬ x = 0 → zJ K post tgt L S G) (kf : x = 0 → zJ K post q L S G) : zJ K post pc L (.int x :: S) G := by
  intro l p e s m args below meth c D aC ad base H locs ls hC hb0 hK hP hS hl
  obtain ⟨hx, hb, hml, hown, hts, hr, hlk⟩ := id hC
  subst hq
  exact lv_if_ne (rest := S.map (zV ad)) hx hb d ht (fun h => kt h l p e s m args below meth c D aC ad base H locs ls hC hb0 hK hP hS hl) (fun h => kf h l p e s m args below meth c D aC ad base H locs ls hC hb0 hK hP hS hl)
theorem j_icmp_ne {x y : Int32} {off : Int} (q tgt : Nat) (hq : pc + 3 = q) (ht : (pc : Int) + off = (tgt : Int)) (d : decode K.2.1 pc = .ok (.if_icmp .ne off, 3)) (kt : ¬ x = y → zJ K post tgt L S G) (kf : x = y → zJ K post q L S G) : zJ K post pc L (.int y :: .int x :: S) G := by
  intro l p e s m args below meth c D aC ad base H locs ls hC hb0 hK hP hS hl
  obtain ⟨hx, hb, hml, hown, hts, hr, hlk⟩ := id hC
  subst hq
  exact lv_icmp_ne (rest := S.map (zV ad)) hx hb d ht (fun h => kt h l p e s m args below meth c D aC ad base H locs ls hC hb0 hK hP hS hl) (fun h => kf h l p e s m args below meth c D aC ad base H locs ls hC hb0 hK hP hS hl)
theorem j_lif_ne {x y : Int64} {off : Int} (q1 q tgt : Nat) (hq1 : pc + 1 = q1) (hq : q1 + 3 = q) (ht : (q1 : Int) + off = (tgt : Int)) (d1 : decode K.2.1 pc = .ok (.lcmp, 1)) (d : decode K.2.1 q1 = .ok (.ifCond .ne off, 3)) (kt : ¬ x = y → zJ K post tgt L S G) (kf : x = y → zJ K post q L S G) : zJ K post pc L (.long y :: .long x :: S) G :=
  j_lcmp q1 hq1 d1 (j_if_ne q tgt hq ht d (fun h => kt (fun z => h (zc_eq.mpr z))) (fun h => kf (zc_eq.mp h)))
theorem j_if_lt {x : Int32} {off : Int} (q tgt : Nat) (hq : pc + 3 = q) (ht : (pc : Int) + off = (tgt : Int)) (d : decode K.2.1 pc = .ok (.ifCond .lt off, 3)) (kt : x < 0 → zJ K post tgt L S G) (kf : ¬ x < 0 → zJ K post q L S G) : zJ K post pc L (.int x :: S) G := by
  intro l p e s m args below meth c D aC ad base H locs ls hC hb0 hK hP hS hl
  obtain ⟨hx, hb, hml, hown, hts, hr, hlk⟩ := id hC
  subst hq
  exact lv_if_lt (rest := S.map (zV ad)) hx hb d ht (fun h => kt h l p e s m args below meth c D aC ad base H locs ls hC hb0 hK hP hS hl) (fun h => kf h l p e s m args below meth c D aC ad base H locs ls hC hb0 hK hP hS hl)
theorem j_icmp_lt {x y : Int32} {off : Int} (q tgt : Nat) (hq : pc + 3 = q) (ht : (pc : Int) + off = (tgt : Int)) (d : decode K.2.1 pc = .ok (.if_icmp .lt off, 3)) (kt : x < y → zJ K post tgt L S G) (kf : ¬ x < y → zJ K post q L S G) : zJ K post pc L (.int y :: .int x :: S) G := by
  intro l p e s m args below meth c D aC ad base H locs ls hC hb0 hK hP hS hl
  obtain ⟨hx, hb, hml, hown, hts, hr, hlk⟩ := id hC
  subst hq
  exact lv_icmp_lt (rest := S.map (zV ad)) hx hb d ht (fun h => kt h l p e s m args below meth c D aC ad base H locs ls hC hb0 hK hP hS hl) (fun h => kf h l p e s m args below meth c D aC ad base H locs ls hC hb0 hK hP hS hl)
theorem j_lif_lt {x y : Int64} {off : Int} (q1 q tgt : Nat) (hq1 : pc + 1 = q1) (hq : q1 + 3 = q) (ht : (q1 : Int) + off = (tgt : Int)) (d1 : decode K.2.1 pc = .ok (.lcmp, 1)) (d : decode K.2.1 q1 = .ok (.ifCond .lt off, 3)) (kt : x < y → zJ K post tgt L S G) (kf : ¬ x < y → zJ K post q L S G) : zJ K post pc L (.long y :: .long x :: S) G :=
  j_lcmp q1 hq1 d1 (j_if_lt q tgt hq ht d (fun h => kt (zc_lt.mp h)) (fun h => kf (fun z => h (zc_lt.mpr z))))
theorem j_if_ge {x : Int32} {off : Int} (q tgt : Nat) (hq : pc + 3 = q) (ht : (pc : Int) + off = (tgt : Int)) (d : decode K.2.1 pc = .ok (.ifCond .ge off, 3)) (kt : 0 ≤ x → zJ K post tgt L S G) (kf : ¬ 0 ≤ x → zJ K post q L S G) : zJ K post pc L (.int x :: S) G := by
  intro l p e s m args below meth c D aC ad base H locs ls hC hb0 hK hP hS hl
  obtain ⟨hx, hb, hml, hown, hts, hr, hlk⟩ := id hC
  subst hq
  exact lv_if_ge (rest := S.map (zV ad)) hx hb d ht (fun h => kt h l p e s m args below meth c D aC ad base H locs ls hC hb0 hK hP hS hl) (fun h => kf h l p e s m args below meth c D aC ad base H locs ls hC hb0 hK hP hS hl)
theorem j_icmp_ge {x y : Int32} {off : Int} (q tgt : Nat) (hq : pc + 3 = q) (ht : (pc : Int) + off = (tgt : Int)) (d : decode K.2.1 pc = .ok (.if_icmp .ge off, 3)) (kt : y ≤ x → zJ K post tgt L S G) (kf : ¬ y ≤ x → zJ K post q L S G) : zJ K post pc L (.int y :: .int x :: S) G := by
  intro l p e s m args below meth c D aC ad base H locs ls hC hb0 hK hP hS hl
  obtain ⟨hx, hb, hml, hown, hts, hr, hlk⟩ := id hC
  subst hq
  exact lv_icmp_ge (rest := S.map (zV ad)) hx hb d ht (fun h => kt h l p e s m args below meth c D aC ad base H locs ls hC hb0 hK hP hS hl) (fun h => kf h l p e s m args below meth c D aC ad base H locs ls hC hb0 hK hP hS hl)
theorem j_lif_ge {x y : Int64} {off : Int} (q1 q tgt : Nat) (hq1 : pc + 1 = q1) (hq : q1 + 3 = q) (ht : (q1 : Int) + off = (tgt : Int)) (d1 : decode K.2.1 pc = .ok (.lcmp, 1)) (d : decode K.2.1 q1 = .ok (.ifCond .ge off, 3)) (kt : y ≤ x → zJ K post tgt L S G) (kf : ¬ y ≤ x → zJ K post q L S G) : zJ K post pc L (.long y :: .long x :: S) G :=
  j_lcmp q1 hq1 d1 (j_if_ge q tgt hq ht d (fun h => kt (zc_ge.mp h)) (fun h => kf (fun z => h (zc_ge.mpr z))))
theorem j_if_gt {x : Int32} {off : Int} (q tgt : Nat) (hq : pc + 3 = q) (ht : (pc : Int) + off = (tgt : Int)) (d : decode K.2.1 pc = .ok (.ifCond .gt off, 3)) (kt : 0 < x → zJ K post tgt L S G) (kf : ¬ 0 < x → zJ K post q L S G) : zJ K post pc L (.int x :: S) G := by
  intro l p e s m args below meth c D aC ad base H locs ls hC hb0 hK hP hS hl
  obtain ⟨hx, hb, hml, hown, hts, hr, hlk⟩ := id hC
  subst hq
  exact lv_if_gt (rest := S.map (zV ad)) hx hb d ht (fun h => kt h l p e s m args below meth c D aC ad base H locs ls hC hb0 hK hP hS hl) (fun h => kf h l p e s m args below meth c D aC ad base H locs ls hC hb0 hK hP hS hl)
theorem j_icmp_gt {x y : Int32} {off : Int} (q tgt : Nat) (hq : pc + 3 = q) (ht : (pc : Int) + off = (tgt : Int)) (d : decode K.2.1 pc = .ok (.if_icmp .gt off, 3)) (kt : y < x → zJ K post tgt L S G) (kf : ¬ y < x → zJ K post q L S G) : zJ K post pc L (.int y :: .int x :: S) G := by
  intro l p e s m args below meth c D aC ad base H locs ls hC hb0 hK hP hS hl
  obtain ⟨hx, hb, hml, hown, hts, hr, hlk⟩ := id hC
  subst hq
  exact lv_icmp_gt (rest := S.map (zV ad)) hx hb d ht (fun h => kt h l p e s m args below meth c D aC ad base H locs ls hC hb0 hK hP hS hl) (fun h => kf h l p e s m args below meth c D aC ad base H locs ls hC hb0 hK hP hS hl)
theorem j_lif_gt {x y : Int64} {off : Int} (q1 q tgt : Nat) (hq1 : pc + 1 = q1) (hq : q1 + 3 = q) (ht : (q1 : Int) + off = (tgt : Int)) (d1 : decode K.2.1 pc = .ok (.lcmp, 1)) (d : decode K.2.1 q1 = .ok (.ifCond .gt off, 3)) (kt : y < x → zJ K post tgt L S G) (kf : ¬ y < x → zJ K post q L S G) : zJ K post pc L (.long y :: .long x :: S) G :=
  j_lcmp q1 hq1 d1 (j_if_gt q tgt hq ht d (fun h => kt (zc_gt.mp h)) (fun h => kf (fun z => h (zc_gt.mpr z))))
theorem j_if_le {x : Int32} {off : Int} (q tgt : Nat) (hq : pc + 3 = q) (ht : (pc : Int) + off = (tgt : Int)) (d : decode K.2.1 pc = .ok (.ifCond .le off, 3)) (kt : x ≤ 0 → zJ K post tgt L S G) (kf : ¬ x ≤ 0 → zJ K post q L S G) : zJ K post pc L (.int x :: S) G := by
  intro l p e s m args below meth c D aC ad base H locs ls hC hb0 hK hP hS hl
  obtain ⟨hx, hb, hml, hown, hts, hr, hlk⟩ := id hC
  subst hq
  exact lv_if_le (rest := S.map (zV ad)) hx hb d ht (fun h => kt h l p e s m args below meth c D aC ad base H locs ls hC hb0 hK hP hS hl) (fun h => kf h l p e s m args below meth c D aC ad base H locs ls hC hb0 hK hP hS hl)
theorem j_icmp_le {x y : Int32} {off : Int} (q tgt : Nat) (hq : pc + 3 = q) (ht : (pc : Int) + off = (tgt : Int)) (d : decode K.2.1 pc = .ok (.if_icmp .le off, 3)) (kt : x ≤ y → zJ K post tgt L S G) (kf : ¬ x ≤ y → zJ K post q L S G) : zJ K post pc L (.int y :: .int x :: S) G := by
  intro l p e s m args below meth c D aC ad base H locs ls hC hb0 hK hP hS hl
  obtain ⟨hx, hb, hml, hown, hts, hr, hlk⟩ := id hC
  subst hq
  exact lv_icmp_le (rest := S.map (zV ad)) hx hb d ht (fun h => kt h l p e s m args below meth c D aC ad base H locs ls hC hb0 hK hP hS hl) (fun h => kf h l p e s m args below meth c D aC ad base H locs ls hC hb0 hK hP hS hl)
theorem j_lif_le {x y : Int64} {off : Int} (q1 q tgt : Nat) (hq1 : pc + 1 = q1) (hq : q1 + 3 = q) (ht : (q1 : Int) + off = (tgt : Int)) (d1 : decode K.2.1 pc = .ok (.lcmp, 1)) (d : decode K.2.1 q1 = .ok (.ifCond .le off, 3)) (kt : x ≤ y → zJ K post tgt L S G) (kf : ¬ x ≤ y → zJ K post q L S G) : zJ K post pc L (.long y :: .long x :: S) G :=
  j_lcmp q1 hq1 d1 (j_if_le q tgt hq ht d (fun h => kt (zc_le.mp h)) (fun h => kf (fun z => h (zc_le.mpr z))))
theorem j_goto {off : Int} (tgt : Nat) (ht : (pc : Int) + off = (tgt : Int)) (d : decode K.2.1 pc = .ok (.goto off, 3)) (k : zJ K post tgt L S G) : zJ K post pc L S G := by
  intro l p e s m args below meth c D aC ad base H locs ls hC hb0 hK hP hS hl
  obtain ⟨hx, hb, hml, hown, hts, hr, hlk⟩ := id hC
  exact lv_goto hx hb d ht (k l p e s m args below meth c D aC ad base H locs ls hC hb0 hK hP hS hl)
theorem j_tabOut {dflt lo hi : Int} {offs : Array Int} {len : Nat} {x : Int32} (tgt : Nat) (d : decode K.2.1 pc = .ok (.tableswitch dflt lo hi offs, len)) (h : x.toInt < lo ∨ hi < x.toInt) (ht : (pc : Int) + dflt = (tgt : Int)) (k : zJ K post tgt L S G) : zJ K post pc L (.int x :: S) G := by
  intro l p e s m args below meth c D aC ad base H locs ls hC hb0 hK hP hS hl
  obtain ⟨hx, hb, hml, hown, hts, hr, hlk⟩ := id hC
  exact lv_tableOut (rest := S.map (zV ad)) hx hb d h ht (k l p e s m args below meth c D aC ad base H locs ls hC hb0 hK hP hS hl)
theorem j_tabIn {dflt lo hi v off : Int} {offs : Array Int} {len : Nat} {x : Int32} (tgt : Nat) (d : decode K.2.1 pc = .ok (.tableswitch dflt lo hi offs, len)) (h : x.toInt = v) (h1 : ¬ v < lo) (h2 : ¬ hi < v) (ho : offs[(v - lo).toNat]? = some off) (ht : (pc : Int) + off = (tgt : Int)) (k : zJ K post tgt L S G) : zJ K post pc L (.int x :: S) G := by
  intro l p e s m args below meth c D aC ad base H locs ls hC hb0 hK hP hS hl
  obtain ⟨hx, hb, hml, hown, hts, hr, hlk⟩ := id hC
  exact lv_tableIn (rest := S.map (zV ad)) hx hb d (by rw [h]; exact h1) (by rw [h]; exact h2) (by rw [h]; exact ho) ht (k l p e s m args below meth c D aC ad base H locs ls hC hb0 hK hP hS hl)
theorem j_iret {v : Int32} {ty : FieldType} (d : decode K.2.1 pc = .ok (.ireturn, 1)) (hret : K.2.2.2.1 = some ty) (hn : narrow ty (.int v) = .int v) (h : post (some (.int v)) G) : zJ K post pc L [.int v] G := by
  intro l p e s m args below meth c D aC ad base H locs ls hC hb0 hK hP hS hl
  obtain ⟨hx, hb, hml, hown, hts, hr, hlk⟩ := id hC
  exact W.zret hx hb (hr.trans hret) hn (fun t ht hW => ⟨⟨some (.int v), G, rfl, h, hK.warm hW, by rw [ht]; exact hP⟩, hS.F ht⟩) hS.2.2 d hlk
theorem j_lret {v : Int64} (d : decode K.2.1 pc = .ok (.lreturn, 1)) (hret : K.2.2.2.1 = some .long) (h : post (some (.long v)) G) : zJ K post pc L [.long v] G := by
  intro l p e s m args below meth c D aC ad base H locs ls hC hb0 hK hP hS hl
  obtain ⟨hx, hb, hml, hown, hts, hr, hlk⟩ := id hC
  exact W.lret hx hb (hr.trans hret) (fun t ht hW => ⟨⟨some (.long v), G, rfl, h, hK.warm hW, by rw [ht]; exact hP⟩, hS.F ht⟩) hS.2.2 d hlk
theorem j_vret (d : decode K.2.1 pc = .ok (.return_, 1)) (hret : K.2.2.2.1 = none) (h : post none G) : zJ K post pc L [] G := by
  intro l p e s m args below meth c D aC ad base H locs ls hC hb0 hK hP hS hl
  obtain ⟨hx, hb, hml, hown, hts, hr, hlk⟩ := id hC
  exact W.vret hx hb (hr.trans hret) (fun t ht hW => ⟨⟨none, G, rfl, h, hK.warm hW, by rw [ht]; exact hP⟩, hS.F ht⟩) hS.2.2 d hlk
theorem j_getI {idx b ci n : Nat} {fk : List (Option (Option Nat))} (q : Nat) (hq : pc + 3 = q) (d : decode K.2.1 pc = .ok (.getfield idx, 3)) (hf : zFL K.1.cls idx ci n) (hy : LAY[b]? = some (.inr (.inl (ci, fk)))) (hn : fk[n]? = some none) (k : zJ K post q L (.int (G b n) :: S) G) : zJ K post pc L (.ref b :: S) G := by
  intro l p e s m args below meth c D aC ad base H locs ls hC hb0 hK hP hS hl
  obtain ⟨hx, hb, hml, hown, hts, hr, hlk⟩ := id hC
  subst hq
  obtain ⟨R, T, N, hc, hkN, hin, hlw⟩ := hf
  have hv := zFld_num (ad := ad) (g := G b) (b := 0) hn
  rw [Nat.zero_add] at hv
  exact va_get (rest := S.map (zV ad)) (D := D) (ci := ci) hx hb hts hin hown hK.1 hP.1 b (zW hy) hc n hkN (hts _ hlw) (fun _ h9 => h9) hv d (k l p e s m args below meth c D aC ad base H locs ls hC hb0 hK hP hS hl)
theorem j_getR {idx b ci n r : Nat} {fk : List (Option (Option Nat))} (q : Nat) (hq : pc + 3 = q) (d : decode K.2.1 pc = .ok (.getfield idx, 3)) (hf : zFL K.1.cls idx ci n) (hy : LAY[b]? = some (.inr (.inl (ci, fk)))) (hn : fk[n]? = some (some (some r))) (k : zJ K post q L (.ref r :: S) G) : zJ K post pc L (.ref b :: S) G := by
  intro l p e s m args below meth c D aC ad base H locs ls hC hb0 hK hP hS hl
  obtain ⟨hx, hb, hml, hown, hts, hr, hlk⟩ := id hC
  subst hq
  obtain ⟨R, T, N, hc, hkN, hin, hlw⟩ := hf
  exact va_get (rest := S.map (zV ad)) (D := D) (ci := ci) hx hb hts hin hown hK.1 hP.1 b (zW hy) hc n hkN (hts _ hlw) (fun _ h9 => h9) (zFld_ref (ad := ad) (g := G b) (b := 0) hn) d (k l p e s m args below meth c D aC ad base H locs ls hC hb0 hK hP hS hl)
theorem j_put {idx b ci n : Nat} {v : Int32} {ty : FieldType} {fk : List (Option (Option Nat))} (q : Nat) (hq : pc + 3 = q) (d : decode K.2.1 pc = .ok (.putfield idx, 3)) (hf : zFP K.1.cls idx ci n ty) (hy : LAY[b]? = some (.inr (.inl (ci, fk)))) (hn : fk[n]? = some none) (hna : narrow ty (.int v) = .int v) (hfi : fits ty (.int v) = true) (k : zJ K post q L S (gU G b n v)) : zJ K post pc L (.int v :: .ref b :: S) G := by
  intro l p e s m args below meth c D aC ad base H locs ls hC hb0 hK hP hS hl
  obtain ⟨hx, hb, hml, hown, hts, hr, hlk⟩ := id hC
  subst hq
  obtain ⟨R, T, N, ty0, hc, hkN, hin, hlw, hfin, hpd, hty, hnm⟩ := hf
  have hlen : n < (zFld ad (G b) 0 fk).length := by
    rw [zFld_len]
    exact (List.getElem?_eq_some_iff.mp hn).1
  have hset := zFld_set (ad := ad) (g := G b) (v := v) (b := 0) hn
  rw [Nat.zero_add] at hset
  have hw := zWset (aC := aC) (ad := ad) (G := G) (upd (G b) n v) hy
  refine va_put (rest := S.map (zV ad)) (D := D) (ci := ci) (v := .int v) (ty := ty) hx hb hts hin ty0 hty hnm hown hK.1 hP.1 hP.2 hS b (zW hy) hc n hkN (hts _ hlw) (fun _ h9 => h9) hfin hpd hna hfi hlen d (fun H1 locs1 hP1 hD1 hS1 => ?_)
  have e9 : (zWs aC ad G 0 LAY).set b (ad b, .inr (ci, (zFld ad (G b) 0 fk).set n (.int v))) = zWs aC ad (gU G b n v) 0 LAY := by
    rw [hset]
    exact hw
  rw [e9] at hP1 hD1
  exact k l p e s m args below meth c D aC ad base H1 locs1 ls hC hb0 hK ⟨hP1, hD1⟩ hS1 hl
theorem j_aald {b r : Nat} {i : Int32} {rs : List (Option Nat)} (q : Nat) (hq : pc + 1 = q) (d : decode K.2.1 pc = .ok (.aaload, 1)) (hy : LAY[b]? = some (.inr (.inr rs))) (hin : vp_in i rs.length) (hr0 : rs.getD i.toNatClampNeg none = some r) (k : zJ K post q L (.ref r :: S) G) : zJ K post pc L (.int i :: .ref b :: S) G := by
  intro l p e s m args below meth c D aC ad base H locs ls hC hb0 hK hP hS hl
  obtain ⟨hx, hb, hml, hown, hts, hr, hlk⟩ := id hC
  subst hq
  refine va_aldq (rest := S.map (zV ad)) (C := RX0) hx hb hK.1 hP.1 b 3 (zW hy) rfl hin d ?_
  rw [hr0]
  exact k l p e s m args below meth c D aC ad base H locs ls hC hb0 hK hP hS hl
theorem j_alen {b t n : Nat} (v : Int32) (q : Nat) (hq : pc + 1 = q) (d : decode K.2.1 pc = .ok (.arraylength, 1)) (hy : LAY[b]? = some (.inl (0, n))) (hv : Int32.ofNat n = v) (k : zJ K post q L (.int v :: S) G) : zJ K post pc L (.ref b :: S) G := by
  intro l p e s m args below meth c D aC ad base H locs ls hC hb0 hK hP hS hl
  obtain ⟨hx, hb, hml, hown, hts, hr, hlk⟩ := id hC
  subst hq
  exact va_alen (rest := S.map (zV ad)) (ty := .int) hx hb hK.1 hP.1 b 0 (zW hy) rfl hv d (k l p e s m args below meth c D aC ad base H locs ls hC hb0 hK hP hS hl)
theorem j_iald {b n : Nat} {i : Int32} (q : Nat) (hq : pc + 1 = q) (d : decode K.2.1 pc = .ok (.iaload, 1)) (hy : LAY[b]? = some (.inl (0, n))) (hin : vp_in i n) (k : zJ K post q L (.int (G b i.toNatClampNeg) :: S) G) : zJ K post pc L (.int i :: .ref b :: S) G := by
  intro l p e s m args below meth c D aC ad base H locs ls hC hb0 hK hP hS hl
  obtain ⟨hx, hb, hml, hown, hts, hr, hlk⟩ := id hC
  subst hq
  exact va_iald (rest := S.map (zV ad)) hx hb hK.1 hP.1 b 0 (zW hy) rfl hin d (k l p e s m args below meth c D aC ad base H locs ls hC hb0 hK hP hS hl)
theorem j_iast {b n : Nat} {i x : Int32} (q : Nat) (hq : pc + 1 = q) (d : decode K.2.1 pc = .ok (.iastore, 1)) (hy : LAY[b]? = some (.inl (0, n))) (hin : vp_in i n) (k : zJ K post q L S (gU G b i.toNatClampNeg x)) : zJ K post pc L (.int x :: .int i :: .ref b :: S) G := by
  intro l p e s m args below meth c D aC ad base H locs ls hC hb0 hK hP hS hl
  obtain ⟨hx, hb, hml, hown, hts, hr, hlk⟩ := id hC
  subst hq
  have hw := zWset (aC := aC) (ad := ad) (G := G) (upd (G b) i.toNatClampNeg x) hy
  refine va_iast (rest := S.map (zV ad)) hx hb hK.1 hP.1 hP.2 hS b 0 (zW hy) rfl hin d (fun H1 locs1 hP1 hD1 hS1 => ?_)
  have e9 : (zWs aC ad G 0 LAY).set b (ad b, .inl (aC 0, n, .inl (upd (G b) i.toNatClampNeg x))) = zWs aC ad (gU G b i.toNatClampNeg x) 0 LAY := hw
  rw [e9] at hP1 hD1
  exact k l p e s m args below meth c D aC ad base H1 locs1 ls hC hb0 hK ⟨hP1, hD1⟩ hS1 hl
theorem j_zald {b n : Nat} {i : Int32} (q : Nat) (hq : pc + 1 = q) (d : decode K.2.1 pc = .ok (.baload, 1)) (hy : LAY[b]? = some (.inl (1, n))) (hin : vp_in i n) (k : zJ K post q L (.int (G b i.toNatClampNeg) :: S) G) : zJ K post pc L (.int i :: .ref b :: S) G := by
  intro l p e s m args below meth c D aC ad base H locs ls hC hb0 hK hP hS hl
  obtain ⟨hx, hb, hml, hown, hts, hr, hlk⟩ := id hC
  subst hq
  exact va_zald (rest := S.map (zV ad)) hx hb hK.1 hP.1 b 1 (zW hy) rfl hin d (k l p e s m args below meth c D aC ad base H locs ls hC hb0 hK hP hS hl)
theorem j_zast {b n : Nat} {i x : Int32} (q : Nat) (hq : pc + 1 = q) (d : decode K.2.1 pc = .ok (.bastore, 1)) (hy : LAY[b]? = some (.inl (1, n))) (hin : vp_in i n) (hx0 : vp_nar .boolean x = x) (k : zJ K post q L S (gU G b i.toNatClampNeg x)) : zJ K post pc L (.int x :: .int i :: .ref b :: S) G := by
  intro l p e s m args below meth c D aC ad base H locs ls hC hb0 hK hP hS hl
  obtain ⟨hx, hb, hml, hown, hts, hr, hlk⟩ := id hC
  subst hq
  have hw := zWset (aC := aC) (ad := ad) (G := G) (upd (G b) i.toNatClampNeg x) hy
  refine va_zast (rest := S.map (zV ad)) hx hb hK.1 hP.1 hP.2 hS b 1 (zW hy) rfl hin d (fun H1 locs1 hP1 hD1 hS1 => ?_)
  rw [hx0] at hP1 hD1
  have e9 : (zWs aC ad G 0 LAY).set b (ad b, .inl (aC 1, n, .inl (upd (G b) i.toNatClampNeg x))) = zWs aC ad (gU G b i.toNatClampNeg x) 0 LAY := hw
  rw [e9] at hP1 hD1
  exact k l p e s m args below meth c D aC ad base H1 locs1 ls hC hb0 hK ⟨hP1, hD1⟩ hS1 hl
theorem j_bald {b n : Nat} {i : Int32} (q : Nat) (hq : pc + 1 = q) (d : decode K.2.1 pc = .ok (.baload, 1)) (hy : LAY[b]? = some (.inl (2, n))) (hin : vp_in i n) (k : zJ K post q L (.int (G b i.toNatClampNeg) :: S) G) : zJ K post pc L (.int i :: .ref b :: S) G := by
  intro l p e s m args below meth c D aC ad base H locs ls hC hb0 hK hP hS hl
  obtain ⟨hx, hb, hml, hown, hts, hr, hlk⟩ := id hC
  subst hq
  exact va_bald (rest := S.map (zV ad)) hx hb hK.1 hP.1 b 2 (zW hy) rfl hin d (k l p e s m args below meth c D aC ad base H locs ls hC hb0 hK hP hS hl)
theorem j_bast {b n : Nat} {i x : Int32} (q : Nat) (hq : pc + 1 = q) (d : decode K.2.1 pc = .ok (.bastore, 1)) (hy : LAY[b]? = some (.inl (2, n))) (hin : vp_in i n) (hx0 : vp_nar .byte x = x) (k : zJ K post q L S (gU G b i.toNatClampNeg x)) : zJ K post pc L (.int x :: .int i :: .ref b :: S) G := by
  intro l p e s m args below meth c D aC ad base H locs ls hC hb0 hK hP hS hl
  obtain ⟨hx, hb, hml, hown, hts, hr, hlk⟩ := id hC
  subst hq
  have hw := zWset (aC := aC) (ad := ad) (G := G) (upd (G b) i.toNatClampNeg x) hy
  refine va_bast (rest := S.map (zV ad)) hx hb hK.1 hP.1 hP.2 hS b 2 (zW hy) rfl hin d (fun H1 locs1 hP1 hD1 hS1 => ?_)
  rw [hx0] at hP1 hD1
  have e9 : (zWs aC ad G 0 LAY).set b (ad b, .inl (aC 2, n, .inl (upd (G b) i.toNatClampNeg x))) = zWs aC ad (gU G b i.toNatClampNeg x) 0 LAY := hw
  rw [e9] at hP1 hD1
  exact k l p e s m args below meth c D aC ad base H1 locs1 ls hC hb0 hK ⟨hP1, hD1⟩ hS1 hl
theorem j_copy {idx b0 b1 n0 n1 : Nat} {sp dp n : Int32} (q : Nat) (hq : pc + 3 = q) (d : decode K.2.1 pc = .ok (.invokestatic idx, 3)) (hl0 : Cond.methodLink K.1.cls idx arraycopyName ∈ zTbl) (hw1 : Cond.native arraycopyName ∈ zTbl ∧ Cond.static arraycopyName ∈ zTbl ∧ Cond.initialized "java/lang/System" ∈ zTbl) (hy0 : LAY[b0]? = some (.inl (0, n0))) (hy1 : LAY[b1]? = some (.inl (0, n1)))
    (h1 : ¬ sp < 0) (h2 : ¬ dp < 0) (h3 : ¬ n < 0) (h4 : sp.toNatClampNeg + n.toNatClampNeg ≤ n0) (h5 : dp.toNatClampNeg + n.toNatClampNeg ≤ n1) (hfr : 1 ≤ K.2.2.2.2.1) (hlo : (S.map fun v => v.category).sum + (nativeFrameWords "java/lang/System" "arraycopy" 5 + 11) ≤ K.2.2.2.2.2)
    (k : zJ K post q L S (gA G b1 (va_cpy (G b0) (G b1) sp.toNatClampNeg dp.toNatClampNeg n.toNatClampNeg))) : zJ K post pc L (.int n :: .int dp :: .ref b1 :: .int sp :: .ref b0 :: S) G := by
  intro l p e s m args below meth c D aC ad base H locs ls hC hb0 hK hP hS hl
  obtain ⟨hx, hb, hml, hown, hts, hr, hlk⟩ := id hC
  subst hq
  have hw := zWset (aC := aC) (ad := ad) (G := G) (va_cpy (G b0) (G b1) sp.toNatClampNeg dp.toNatClampNeg n.toNatClampNeg) hy1
  refine va_copyi (rest := S.map (zV ad)) (ty := .int) hx hb (by rw [hml]; exact hl.1.symm) hown (hts _ hl0) (hts _ hw1.1) (hts _ hw1.2.1) (hts _ hw1.2.2) hK.1 hP.1 hP.2 hS b0 b1 0 0 (zW hy0) (zW hy1) rfl rfl rfl h1 h2 h3 h4 h5 (fun _ _ => rfl) hfr (by rw [zS_sum]; exact hlo) d (fun H1 locs1 hP1 hD1 hS1 => ?_)
  have e9 : (zWs aC ad G 0 LAY).set b1 (ad b1, .inl (aC 0, n1, .inl (va_cpy (G b0) (G b1) sp.toNatClampNeg dp.toNatClampNeg n.toNatClampNeg))) = zWs aC ad (gA G b1 (va_cpy (G b0) (G b1) sp.toNatClampNeg dp.toNatClampNeg n.toNatClampNeg)) 0 LAY := hw
  rw [e9] at hP1 hD1
  exact k l p e s m args below meth c D aC ad base H1 locs1 ls hC hb0 hK ⟨hP1, hD1⟩ hS1 hl
theorem j_mmax {idx : Nat} {x y : Int32} (q : Nat) (hq : pc + 3 = q) (d : decode K.2.1 pc = .ok (.invokestatic idx, 3)) (hl0 : Cond.methodLink K.1.cls idx Lib.Math.max.name ∈ zTbl) (hw1 : Cond.static Lib.Math.max.name ∈ zTbl ∧ Cond.initialized "java/lang/Math" ∈ zTbl ∧ Cond.code Lib.Math.max.name Lib.Math.max.code 2 (some .int) ∈ zTbl) (hfr : 1 ≤ K.2.2.2.2.1) (hlo : (S.map fun v => v.category).sum + 13 ≤ K.2.2.2.2.2) (k : zJ K post q L (.int (if x < y then y else x) :: S) G) : zJ K post pc L (.int y :: .int x :: S) G := by
  intro l p e s m args below meth c D aC ad base H locs ls hC hb0 hK hP hS hl
  obtain ⟨hx, hb, hml, hown, hts, hr, hlk⟩ := id hC
  subst hq
  exact va_mmax (rest := S.map (zV ad)) hx hb (by rw [hml]; exact hl.1.symm) hown (hts _ hl0) (hts _ hw1.1) (hts _ hw1.2.1) (hts _ hw1.2.2) hfr (by rw [zS_sum]; exact hlo) (Nat.zero_le _) (Nat.zero_le _) d (k l p e s m args below meth c D aC ad base H locs ls hC hb0 hK hP hS hl)
theorem j_lmax {idx : Nat} {x y : Int64} (q : Nat) (hq : pc + 3 = q) (d : decode K.2.1 pc = .ok (.invokestatic idx, 3)) (hl0 : Cond.methodLink K.1.cls idx Lib.MathLoose.max_long.x ∈ zTbl) (hw1 : Cond.static Lib.MathLoose.max_long.x ∈ zTbl ∧ Cond.initialized "java/lang/Math" ∈ zTbl ∧ Cond.code Lib.MathLoose.max_long.x Lib.MathLoose.max_long.code 4 (some .long) ∈ zTbl) (hfr : 1 ≤ K.2.2.2.2.1) (hlo : (S.map fun v => v.category).sum + 15 ≤ K.2.2.2.2.2) (k : zJ K post q L (.long (if y < x then x else y) :: S) G) : zJ K post pc L (.long y :: .long x :: S) G := by
  intro l p e s m args below meth c D aC ad base H locs ls hC hb0 hK hP hS hl
  obtain ⟨hx, hb, hml, hown, hts, hr, hlk⟩ := id hC
  subst hq
  exact va_mmax_long (rest := S.map (zV ad)) hx hb (by rw [hml]; exact hl.1.symm) hown (hts _ hl0) (hts _ hw1.1) (hts _ hw1.2.1) (hts _ hw1.2.2) hfr (by rw [zS_sum]; exact hlo) (Nat.zero_le _) (Nat.zero_le _) d (k l p e s m args below meth c D aC ad base H locs ls hC hb0 hK hP hS hl)
theorem j_lmin {idx : Nat} {x y : Int64} (q : Nat) (hq : pc + 3 = q) (d : decode K.2.1 pc = .ok (.invokestatic idx, 3)) (hl0 : Cond.methodLink K.1.cls idx Lib.MathLoose.min_long.x ∈ zTbl) (hw1 : Cond.static Lib.MathLoose.min_long.x ∈ zTbl ∧ Cond.initialized "java/lang/Math" ∈ zTbl ∧ Cond.code Lib.MathLoose.min_long.x Lib.MathLoose.min_long.code 4 (some .long) ∈ zTbl) (hfr : 1 ≤ K.2.2.2.2.1) (hlo : (S.map fun v => v.category).sum + 15 ≤ K.2.2.2.2.2) (k : zJ K post q L (.long (if y < x then y else x) :: S) G) : zJ K post pc L (.long y :: .long x :: S) G := by
  intro l p e s m args below meth c D aC ad base H locs ls hC hb0 hK hP hS hl
  obtain ⟨hx, hb, hml, hown, hts, hr, hlk⟩ := id hC
  subst hq
  exact va_mmin_long (rest := S.map (zV ad)) hx hb (by rw [hml]; exact hl.1.symm) hown (hts _ hl0) (hts _ hw1.1) (hts _ hw1.2.1) (hts _ hw1.2.2) hfr (by rw [zS_sum]; exact hlo) (Nat.zero_le _) (Nat.zero_le _) d (k l p e s m args below meth c D aC ad base H locs ls hC hb0 hK hP hS hl)
end ZR
