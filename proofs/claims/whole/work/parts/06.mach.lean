/-! the words that may be handed on to every callee -/
def zTbl : List Cond := lw_tbl.filter goodWord
theorem zTbl_in {w : Cond} (h : w ∈ zTbl) : w ∈ lw_tbl := (List.mem_filter.mp h).1
theorem zTbl_good {w : Cond} (h : w ∈ zTbl) : goodWord w = true := (List.mem_filter.mp h).2
theorem zm0 (i : Nat) {w : Cond} (h : (k2_sels lw_privs)[i]? = some w) (hg : goodWord w = true) : w ∈ zTbl := List.mem_filter.mpr ⟨List.mem_append_left _ (List.mem_of_getElem? h), hg⟩
theorem zm1 (i : Nat) {w : Cond} (h : tables_1_1[i]? = some w) (hg : goodWord w = true) : w ∈ zTbl := List.mem_filter.mpr ⟨List.mem_append_right _ (List.mem_append_left _ (List.mem_of_getElem? h)), hg⟩
theorem zm2 (i : Nat) {w : Cond} (h : tables_1_2[i]? = some w) (hg : goodWord w = true) : w ∈ zTbl := List.mem_filter.mpr ⟨List.mem_append_right _ (List.mem_append_right _ (List.mem_append_left _ (List.mem_of_getElem? h))), hg⟩
theorem zm3 (i : Nat) {w : Cond} (h : tables_1_3[i]? = some w) (hg : goodWord w = true) : w ∈ zTbl := List.mem_filter.mpr ⟨List.mem_append_right _ (List.mem_append_right _ (List.mem_append_right _ (List.mem_append_left _ (List.mem_of_getElem? h)))), hg⟩
theorem zm4 (i : Nat) {w : Cond} (h : tables_1_4[i]? = some w) (hg : goodWord w = true) : w ∈ zTbl := List.mem_filter.mpr ⟨List.mem_append_right _ (List.mem_append_right _ (List.mem_append_right _ (List.mem_append_right _ (List.mem_of_getElem? h)))), hg⟩
/-! the heap as numbers: place p, cell k -/
abbrev GG : Type := Nat → Nat → Int32
def gA (G : GG) (p : Nat) (f : Nat → Int32) : GG := fun q => if q = p then f else G q
def gU (G : GG) (p k : Nat) (v : Int32) : GG := gA G p (upd (G p) k v)
theorem gA_s {G : GG} {p : Nat} {f : Nat → Int32} : gA G p f p = f := by simp [gA]
theorem gA_n {G : GG} {p q : Nat} {f : Nat → Int32} (h : q ≠ p) : gA G p f q = G q := by simp [gA, h]
theorem gU_s {G : GG} {p k : Nat} {v : Int32} : gU G p k v p k = v := by simp [gU, gA, upd]
theorem gU_k {G : GG} {p k j : Nat} {v : Int32} (h : j ≠ k) : gU G p k v p j = G p j := by simp [gU, gA, upd, h]
theorem gU_n {G : GG} {p q k : Nat} {v : Int32} (h : q ≠ p) : gU G p k v q = G q := by simp [gU, gA, h]
/-- what a place holds: an array of numbers (its type, its length), an object (its class, of each field: a number, or where it points), an array of objects -/
abbrev zKd : Type := (Nat × Nat) ⊕ ((Nat × List (Option (Option Nat))) ⊕ List (Option Nat))
def zFld (ad : Nat → Nat) (g : Nat → Int32) : Nat → List (Option (Option Nat)) → List Value
  | _, [] => []
  | k, none :: t => .int (g k) :: zFld ad g (k + 1) t
  | k, some r :: t => va_rf (r.map ad) :: zFld ad g (k + 1) t
def zEnt (aC : Nat → ClassId) (ad : Nat → Nat) (g : Nat → Int32) : zKd → va_E
  | .inl (t, n) => .inl (aC t, n, .inl g)
  | .inr (.inl (ci, fk)) => .inr (ci, zFld ad g 0 fk)
  | .inr (.inr rs) => .inl (aC 3, rs.length, .inr (.inr (.inr (.inr (fun i => (rs.getD i none).map ad)))))
def zWs (aC : Nat → ClassId) (ad : Nat → Nat) (G : GG) : Nat → List zKd → va_W
  | _, [] => []
  | p, k :: t => (ad p, zEnt aC ad (G p) k) :: zWs aC ad G (p + 1) t
theorem zWs_get {aC : Nat → ClassId} {ad : Nat → Nat} {G : GG} : ∀ {lay : List zKd} {b i : Nat} {k : zKd}, lay[i]? = some k → (zWs aC ad G b lay)[i]? = some (ad (b + i), zEnt aC ad (G (b + i)) k)
  | [], _, _, _, h => by simp at h
  | x :: t, b, 0, k, h => by
    simp only [List.getElem?_cons_zero, Option.some.injEq] at h
    subst h
    rfl
  | x :: t, b, i + 1, k, h => by
    simp only [List.getElem?_cons_succ] at h
    have := zWs_get (aC := aC) (ad := ad) (G := G) (b := b + 1) h
    rw [show b + 1 + i = b + (i + 1) by omega] at this
    exact this
theorem zWs_congr {aC : Nat → ClassId} {ad : Nat → Nat} {G G' : GG} : ∀ {lay : List zKd} {b : Nat}, (∀ p, b ≤ p → G p = G' p) → zWs aC ad G b lay = zWs aC ad G' b lay
  | [], _, _ => rfl
  | x :: t, b, h => by
    show (ad b, zEnt aC ad (G b) x) :: zWs aC ad G (b + 1) t = (ad b, zEnt aC ad (G' b) x) :: zWs aC ad G' (b + 1) t
    rw [h b (Nat.le_refl b), zWs_congr (lay := t) (b := b + 1) (fun p hp => h p (by omega))]
theorem zWs_set {aC : Nat → ClassId} {ad : Nat → Nat} {G : GG} {f : Nat → Int32} : ∀ {lay : List zKd} {b i : Nat} {k : zKd}, lay[i]? = some k → (zWs aC ad G b lay).set i (ad (b + i), zEnt aC ad f k) = zWs aC ad (gA G (b + i) f) b lay
  | [], _, _, _, h => by simp at h
  | x :: t, b, 0, k, h => by
    simp only [List.getElem?_cons_zero, Option.some.injEq] at h
    subst h
    show (ad b, zEnt aC ad f x) :: zWs aC ad G (b + 1) t = (ad b, zEnt aC ad (gA G b f b) x) :: zWs aC ad (gA G b f) (b + 1) t
    rw [gA_s, zWs_congr (lay := t) (b := b + 1) (G' := gA G b f) (fun p hp => (gA_n (by omega)).symm)]
  | x :: t, b, i + 1, k, h => by
    simp only [List.getElem?_cons_succ] at h
    have e : b + 1 + i = b + (i + 1) := by omega
    have := zWs_set (aC := aC) (ad := ad) (G := G) (f := f) (b := b + 1) h
    rw [e] at this
    show (ad b, zEnt aC ad (G b) x) :: (zWs aC ad G (b + 1) t).set i _ = (ad b, zEnt aC ad (gA G (b + (i + 1)) f b) x) :: zWs aC ad (gA G (b + (i + 1)) f) (b + 1) t
    rw [this, gA_n (q := b) (by omega)]
theorem zFld_len {ad : Nat → Nat} {g : Nat → Int32} : ∀ {fk : List (Option (Option Nat))} {b : Nat}, (zFld ad g b fk).length = fk.length
  | [], _ => rfl
  | none :: t, b => by simp [zFld, zFld_len (fk := t) (b := b + 1)]
  | some r :: t, b => by simp [zFld, zFld_len (fk := t) (b := b + 1)]
theorem zFld_num {ad : Nat → Nat} {g : Nat → Int32} : ∀ {fk : List (Option (Option Nat))} {b k : Nat}, fk[k]? = some none → (zFld ad g b fk)[k]? = some (.int (g (b + k)))
  | [], _, _, h => by simp at h
  | none :: t, b, 0, _ => rfl
  | some r :: t, b, 0, h => by simp at h
  | none :: t, b, k + 1, h => by
    simp only [List.getElem?_cons_succ] at h
    have := zFld_num (ad := ad) (g := g) (b := b + 1) h
    rw [show b + 1 + k = b + (k + 1) by omega] at this
    exact this
  | some r :: t, b, k + 1, h => by
    simp only [List.getElem?_cons_succ] at h
    have := zFld_num (ad := ad) (g := g) (b := b + 1) h
    rw [show b + 1 + k = b + (k + 1) by omega] at this
    exact this
theorem zFld_ref {ad : Nat → Nat} {g : Nat → Int32} {q : Nat} : ∀ {fk : List (Option (Option Nat))} {b k : Nat}, fk[k]? = some (some (some q)) → (zFld ad g b fk)[k]? = some (.ref (ad q))
  | [], _, _, h => by simp at h
  | none :: t, b, 0, h => by simp at h
  | some r :: t, b, 0, h => by
    simp only [List.getElem?_cons_zero, Option.some.injEq] at h
    subst h
    rfl
  | none :: t, b, k + 1, h => by
    simp only [List.getElem?_cons_succ] at h
    exact zFld_ref (ad := ad) (g := g) (b := b + 1) h
  | some r :: t, b, k + 1, h => by
    simp only [List.getElem?_cons_succ] at h
    exact zFld_ref (ad := ad) (g := g) (b := b + 1) h
theorem zFld_congr {ad : Nat → Nat} {g g' : Nat → Int32} : ∀ {fk : List (Option (Option Nat))} {b : Nat}, (∀ j, b ≤ j → g j = g' j) → zFld ad g b fk = zFld ad g' b fk
  | [], _, _ => rfl
  | none :: t, b, h => by
    show Value.int (g b) :: zFld ad g (b + 1) t = Value.int (g' b) :: zFld ad g' (b + 1) t
    rw [h b (Nat.le_refl b), zFld_congr (fk := t) (b := b + 1) (fun j hj => h j (by omega))]
  | some r :: t, b, h => by
    show va_rf (r.map ad) :: zFld ad g (b + 1) t = va_rf (r.map ad) :: zFld ad g' (b + 1) t
    rw [zFld_congr (fk := t) (b := b + 1) (fun j hj => h j (by omega))]
theorem zFld_set {ad : Nat → Nat} {g : Nat → Int32} {v : Int32} : ∀ {fk : List (Option (Option Nat))} {b k : Nat}, fk[k]? = some none → (zFld ad g b fk).set k (.int v) = zFld ad (upd g (b + k) v) b fk
  | [], _, _, h => by simp at h
  | none :: t, b, 0, _ => by
    show Value.int v :: zFld ad g (b + 1) t = Value.int (upd g (b + 0) v b) :: zFld ad (upd g (b + 0) v) (b + 1) t
    rw [zFld_congr (fk := t) (b := b + 1) (g' := upd g (b + 0) v) (fun j hj => by simp [upd]; omega)]
    simp [upd]
  | some r :: t, b, 0, h => by simp at h
  | none :: t, b, k + 1, h => by
    simp only [List.getElem?_cons_succ] at h
    have := zFld_set (ad := ad) (g := g) (v := v) (b := b + 1) h
    rw [show b + 1 + k = b + (k + 1) by omega] at this
    show Value.int (g b) :: (zFld ad g (b + 1) t).set k _ = Value.int (upd g (b + (k + 1)) v b) :: _
    rw [this]
    simp [upd]
  | some r :: t, b, k + 1, h => by
    simp only [List.getElem?_cons_succ] at h
    have := zFld_set (ad := ad) (g := g) (v := v) (b := b + 1) h
    rw [show b + 1 + k = b + (k + 1) by omega] at this
    show va_rf (r.map ad) :: (zFld ad g (b + 1) t).set k _ = va_rf (r.map ad) :: _
    rw [this]
/-- values whose references are places -/
def zV (ad : Nat → Nat) : Value → Value
  | .ref p => .ref (ad p)
  | v => v
theorem zV_cat (ad : Nat → Nat) (v : Value) : (zV ad v).category = v.category := by cases v <;> rfl
theorem zS_sum (ad : Nat → Nat) (S : List Value) : ((S.map (zV ad)).map fun v => v.category).sum = (S.map fun v => v.category).sum := by
  rw [List.map_map]
  congr 1
  apply List.map_congr_left
  intro v _
  exact zV_cat ad v
def zL (ad : Nat → Nat) (L : List (Nat × Value)) : List (Nat × Value) := L.map fun q => (q.1, zV ad q.2)
theorem zL_args (ad : Nat → Nat) : ∀ (vs : List Value) (i : Nat), lv_args i (vs.map (zV ad)) = zL ad (lv_args i vs)
  | [], _ => rfl
  | v :: t, i => by
    show (i, zV ad v) :: lv_args (if (zV ad v).category = 2 then i + 2 else i + 1) (t.map (zV ad)) = (i, zV ad v) :: zL ad (lv_args (if v.category = 2 then i + 2 else i + 1) t)
    rw [zV_cat, zL_args ad t]
theorem zSl_len (ad : Nat → Nat) : ∀ (vs : List Value), (lg_sl (vs.map (zV ad))).length = (lg_sl vs).length
  | [] => rfl
  | v :: t => by
    have := zSl_len ad t
    simp only [lg_sl, List.map_cons, List.flatMap_cons, List.length_append, zV_cat] at this ⊢
    split <;> simp [this]
theorem zL_at {ad : Nat → Nat} {L : List (Nat × Value)} {k i : Nat} {v : Value} (h : L[k]? = some (i, v)) : (zL ad L)[k]? = some (i, zV ad v) := by
  simp [zL, List.getElem?_map, h]
def zIns (i : Nat) (v : Value) : List (Nat × Value) → List (Nat × Value)
  | [] => [(i, v)]
  | q :: t => if q.1 < i then q :: zIns i v t else (i, v) :: q :: t
theorem zIns_mem {i : Nat} {v : Value} {q : Nat × Value} : ∀ {l : List (Nat × Value)}, q ∈ zIns i v l → q = (i, v) ∨ q ∈ l
  | [], h => Or.inl (List.mem_singleton.mp h)
  | x :: t, h => by
    unfold zIns at h
    split at h
    · rcases List.mem_cons.mp h with h | h
      · exact Or.inr (h ▸ List.mem_cons_self)
      · exact (zIns_mem h).imp id (List.mem_cons_of_mem _)
    · rcases List.mem_cons.mp h with h | h
      · exact Or.inl h
      · exact Or.inr h
def zF1 (i : Nat) (L : List (Nat × Value)) : List (Nat × Value) := L.filter fun q => !(q.1 == i) && !(q.1 + 1 == i && q.2.category == 2)
def zF2 (i : Nat) (L : List (Nat × Value)) : List (Nat × Value) := L.filter fun q => !(q.1 == i) && (!(q.1 == i + 1) && !(q.1 + 1 == i && q.2.category == 2))
theorem zF1_L (ad : Nat → Nat) (i : Nat) (L : List (Nat × Value)) : (zL ad L).filter (fun q => !(q.1 == i) && !(q.1 + 1 == i && q.2.category == 2)) = zL ad (zF1 i L) := by
  unfold zL zF1
  rw [List.filter_map]
  congr 1
  apply List.filter_congr
  intro q _
  simp [zV_cat]
theorem zF2_L (ad : Nat → Nat) (i : Nat) (L : List (Nat × Value)) : (zL ad L).filter (fun q => !(q.1 == i) && (!(q.1 == i + 1) && !(q.1 + 1 == i && q.2.category == 2))) = zL ad (zF2 i L) := by
  unfold zL zF2
  rw [List.filter_map]
  congr 1
  apply List.filter_congr
  intro q _
  simp [zV_cat]
theorem zHas_ins {ls : Array Slot} {n i : Nat} {ad : Nat → Nat} {v : Value} {L L' : List (Nat × Value)} (h : lv_has ls n ((i, zV ad v) :: zL ad L)) (hL : zIns i v L = L') : lv_has ls n (zL ad L') := by
  refine ⟨h.1, h.2.1, fun q hq => ?_⟩
  obtain ⟨x, hx, rfl⟩ := List.mem_map.mp hq
  rw [← hL] at hx
  rcases zIns_mem hx with rfl | hx
  · exact h.2.2 _ List.mem_cons_self
  · exact h.2.2 _ (List.mem_cons_of_mem _ (List.mem_map.mpr ⟨x, hx, rfl⟩))
