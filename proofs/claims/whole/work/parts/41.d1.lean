/-! what the FAULTS demand, by CORNERS -/
def cA (s : NN) (x k p f : Nat) : Option Nat := if hs s x = 1 ∧ x ∈ way s k then crn s x (16 * fo s) (smN s k p f) else none
theorem tkA_c {s : NN} {x k p f : Nat} : tkA s x k p f = (cA s x k p f).map fun j => tk s (cu s x) j := by
  unfold tkA cA
  split <;> rfl
theorem cA_out {s : NN} {x k p f : Nat} (h : ¬ x ∈ way s k) : cA s x k p f = none := by
  unfold cA
  rw [if_neg (fun q => h q.2)]
theorem cA_f {s : NN} {x k p f i : Nat} (hc : WFc s) (hb : WFb s) (h : cA s x k p f = some i) : hs s x = 1 ∧ x ∈ way s k ∧ i < 8 ∧ 1 ≤ tk s (cu s x) i ∧ tk s (cu s x) i ≤ 1000 := by
  unfold cA at h
  split at h
  · next h1 =>
    have hl := crn_lt h
    have hcc := hc (cu s x) (hb.1 x).2.2.1
    have h2 := (hcc.2.1 i hl).2.2
    exact ⟨h1.1, h1.2, by omega, h2.1, h2.2⟩
  · cases h
/-- upper, its CORNER, lower, its TICKS -/
def prC (s : NN) (k p f : Nat) : List Nat → Option (Nat × Nat) → List (Nat × Nat × Nat × Nat)
  | [], _ => []
  | x :: t, b => match cA s x k p f with
    | none => prC s k p f t b
    | some i => match b with
      | none => prC s k p f t (some (x, tk s (cu s x) i))
      | some (y, ty) => (x, i, y, ty) :: prC s k p f t (some (x, tk s (cu s x) i))
def fsC (s : NN) (k p f : Nat) : List Nat → Option (Nat × Nat)
  | [] => none
  | x :: t => match cA s x k p f with
    | none => fsC s k p f t
    | some i => some (x, tk s (cu s x) i)
theorem prC_L {s : NN} {k p f : Nat} : ∀ (l : List Nat) (b : Option (Nat × Nat)), prL s k p f l b = (prC s k p f l b).map fun q => (q.1, tk s (cu s q.1) q.2.1, q.2.2)
  | [], _ => rfl
  | x :: t, b => by
    unfold prL prC
    rw [tkA_c]
    cases cA s x k p f with
    | none => exact prC_L t b
    | some i => cases b with
      | none => exact prC_L t _
      | some q => obtain ⟨y, ty⟩ := q; simp only [Option.map_some, List.map_cons, prC_L t _]
theorem prC_fi {s : NN} {k p f : Nat} : ∀ (l : List Nat) (b : Option (Nat × Nat)), prC s k p f (l.filter (fun x => decide (x ∈ way s k))) b = prC s k p f l b
  | [], _ => rfl
  | x :: t, b => by
    rw [List.filter_cons]
    by_cases h : x ∈ way s k
    · rw [if_pos (decide_eq_true h)]
      unfold prC
      cases cA s x k p f with
      | none => exact prC_fi t b
      | some w => cases b with
        | none => simp only [prC_fi t]
        | some q => obtain ⟨y, ty⟩ := q; simp only [prC_fi t]
    · rw [if_neg (by simpa using h), prC_fi t b]
      conv => rhs; unfold prC
      rw [cA_out h]
theorem fsC_fi {s : NN} {k p f : Nat} : ∀ (l : List Nat), fsC s k p f (l.filter (fun x => decide (x ∈ way s k))) = fsC s k p f l
  | [] => rfl
  | x :: t => by
    rw [List.filter_cons]
    by_cases h : x ∈ way s k
    · rw [if_pos (decide_eq_true h)]
      unfold fsC
      cases cA s x k p f with
      | none => exact fsC_fi t
      | some w => rfl
    · rw [if_neg (by simpa using h), fsC_fi t]
      conv => rhs; unfold fsC
      rw [cA_out h]
theorem prC_dn {s : NN} {k p f : Nat} {b : Option (Nat × Nat)} : prC s k p f (dn k) b = prC s k p f (way s k) b := by rw [← prC_fi (dn k) b, way_dn]
theorem fsC_dn {s : NN} {k p f : Nat} : fsC s k p f (dn k) = fsC s k p f (way s k) := by rw [← fsC_fi (dn k), way_dn]
/-- the FAULTS of F demand it -/
def AF (s : NN) (F : Nat → Nat → Nat → Prop) (u i l tl : Nat) : Prop := ∃ k p f, F k p f ∧ (u, i, l, tl) ∈ prC s k p f (way s k) none
def BF (s : NN) (F : Nat → Nat → Nat → Prop) (b t : Nat) : Prop := ∃ k p f, F k p f ∧ fsC s k p f (way s k) = some (b, t)
theorem Pr_AF {s : NN} {u tu l tl : Nat} : Pr s u tu l tl ↔ ∃ i, tu = tk s (cu s u) i ∧ AF s (fltV s) u i l tl := by
  constructor
  · rintro ⟨k, p, f, hv, hm⟩
    rw [prC_L, List.mem_map] at hm
    obtain ⟨⟨a, i, b, c⟩, h1, h2⟩ := hm
    simp only [Prod.mk.injEq] at h2
    obtain ⟨rfl, rfl, rfl, rfl⟩ := h2
    exact ⟨i, rfl, k, p, f, hv, h1⟩
  · rintro ⟨i, rfl, k, p, f, hv, hm⟩
    refine ⟨k, p, f, hv, ?_⟩
    rw [prC_L, List.mem_map]
    exact ⟨_, hm, rfl⟩
theorem prC_m {s : NN} {k p f : Nat} (hc : WFc s) (hb : WFb s) : ∀ {lst : List Nat} {b : Option (Nat × Nat)} {u i l tl : Nat}, (u, i, l, tl) ∈ prC s k p f lst b → hs s u = 1 ∧ u ∈ lst ∧ i < 8 ∧ 1 ≤ tk s (cu s u) i
  | [], _, _, _, _, _, h => by cases h
  | x :: t, b, u, i, l, tl, h => by
    unfold prC at h
    cases hx : cA s x k p f with
    | none =>
      rw [hx] at h
      have := prC_m hc hb h
      exact ⟨this.1, List.mem_cons_of_mem _ this.2.1, this.2.2⟩
    | some tx =>
      rw [hx] at h
      have hx := cA_f hc hb hx
      cases b with
      | none =>
        have := prC_m hc hb h
        exact ⟨this.1, List.mem_cons_of_mem _ this.2.1, this.2.2⟩
      | some q =>
        obtain ⟨y, ty⟩ := q
        rcases List.mem_cons.mp h with h | h
        · cases h
          exact ⟨hx.1, List.mem_cons_self, hx.2.2.1, hx.2.2.2.1⟩
        · have := prC_m hc hb h
          exact ⟨this.1, List.mem_cons_of_mem _ this.2.1, this.2.2⟩
/-! the tables -/
def tri : Nat → Nat
  | 0 => 0
  | n + 1 => tri n + n
theorem tri_2 : ∀ n, n * (n - 1) = 2 * tri n
  | 0 => rfl
  | n + 1 => by
    have := tri_2 n
    rw [tri, Nat.add_sub_cancel, Nat.mul_add, ← this]
    cases n with
    | zero => rfl
    | succ m => rw [Nat.add_sub_cancel, Nat.succ_mul (m + 1) (m + 1), Nat.mul_succ (m + 1) m]; omega
theorem tri_lt {a : Nat} : ∀ {b : Nat}, a < b → tri a + a ≤ tri b
  | 0, h => by omega
  | b + 1, h => by
    rw [tri]
    rcases Nat.lt_or_ge a b with q | q
    · have := tri_lt q; omega
    · have : a = b := by omega
      subst this
      exact Nat.le_refl _
theorem tri_le {l : Nat} (h : l < 30) : tri l ≤ 406 := by
  rcases Nat.lt_or_ge l 29 with q | q
  · have := tri_lt q
    have e : tri 29 = 406 := by decide
    omega
  · have : l = 29 := by omega
    subst this
    decide
/-- where the demand of CORNER i of u, l being the next below, lies -/
def ix (u l i : Nat) : Nat := (tri l + u) * 8 + i
theorem ix_lt {u l i : Nat} (h : u < l) (hl : l < 30) (hi : i < 8) : ix u l i < 3480 := by
  have := tri_le hl
  unfold ix
  rcases Nat.lt_or_ge l 29 with q | q
  · have := tri_lt q
    have e : tri 29 = 406 := by decide
    omega
  · omega
theorem ix_inj {u l i u' l' i' : Nat} (h : u < l) (h' : u' < l') (hi : i < 8) (hi' : i' < 8) (e : ix u l i = ix u' l' i') : u = u' ∧ l = l' ∧ i = i' := by
  unfold ix at e
  have h1 : tri l + u = tri l' + u' := by omega
  have h2 : i = i' := by omega
  rcases Nat.lt_trichotomy l l' with q | q | q
  · have := tri_lt q; omega
  · subst q; exact ⟨by omega, rfl, h2⟩
  · have := tri_lt q; omega
def TR (A : Nat → Nat → Nat → Nat → Prop) (B : Nat → Nat → Prop) (G : GG) : Prop := (∀ u l i, u < l → l < 30 → i < 8 → ∃ T, T ≤ 1000 ∧ G 16 (ix u l i) = nI T ∧ (∀ tl, A u i l tl → tl ≤ T) ∧ (T = 0 ∨ A u i l T)) ∧ ∀ b, b < 30 → ∃ K, K ≤ 1000 ∧ G 17 b = nI K ∧ (∀ t, B b t → t ≤ K) ∧ (K = 0 ∨ B b K)
theorem TR_cg {A A' : Nat → Nat → Nat → Nat → Prop} {B B' : Nat → Nat → Prop} {G : GG} (h : TR A B G) (hA : ∀ u i l tl, A u i l tl ↔ A' u i l tl) (hB : ∀ x t, B x t ↔ B' x t) : TR A' B' G := by
  refine ⟨fun u l i h1 h2 h3 => ?_, fun b hb => ?_⟩
  · obtain ⟨T, a1, a2, a3, a4⟩ := h.1 u l i h1 h2 h3
    exact ⟨T, a1, a2, fun tl q => a3 tl ((hA _ _ _ _).mpr q), a4.imp id (hA _ _ _ _).mp⟩
  · obtain ⟨K, a1, a2, a3, a4⟩ := h.2 b hb
    exact ⟨K, a1, a2, fun tl q => a3 tl ((hB _ _).mpr q), a4.imp id (hB _ _).mp⟩
theorem mx_i {a b : Nat} (ha : a < 2 ^ 31) (hb : b < 2 ^ 31) : (if nI a < nI b then nI b else nI a) = nI (max b a) := by
  by_cases h : a < b
  · rw [if_pos ((nI_ltI ha hb).mpr h), Nat.max_eq_left (by omega)]
  · rw [if_neg (fun q => h ((nI_ltI ha hb).mp q)), Nat.max_eq_right (by omega)]
theorem TR_u {A : Nat → Nat → Nat → Nat → Prop} {B : Nat → Nat → Prop} {G : GG} {u l i tl : Nat} (h : TR A B G) (h1 : u < l) (h2 : l < 30) (h3 : i < 8) (h4 : tl ≤ 1000) : TR (fun u' i' l' t' => A u' i' l' t' ∨ (u' = u ∧ i' = i ∧ l' = l ∧ t' = tl)) B (gU G 16 (ix u l i) (if G 16 (ix u l i) < nI tl then nI tl else G 16 (ix u l i))) := by
  refine ⟨fun u' l' i' g1 g2 g3 => ?_, fun b hb => ?_⟩
  · obtain ⟨T, a1, a2, a3, a4⟩ := h.1 u' l' i' g1 g2 g3
    rw [gU_at]
    by_cases q : ix u' l' i' = ix u l i
    · obtain ⟨rfl, rfl, rfl⟩ := ix_inj g1 h1 g3 h3 q
      rw [if_pos ⟨rfl, rfl⟩, a2, mx_i (by omega) (by omega)]
      refine ⟨max tl T, by omega, rfl, fun t z => ?_, ?_⟩
      · rcases z with z | ⟨-, -, -, rfl⟩
        · have := a3 t z; omega
        · omega
      · rcases Nat.le_total tl T with z | z
        · rw [Nat.max_eq_right z]
          exact a4.imp id Or.inl
        · rw [Nat.max_eq_left z]
          exact Or.inr (Or.inr ⟨rfl, rfl, rfl, rfl⟩)
    · rw [if_neg (fun z => q z.2)]
      refine ⟨T, a1, a2, fun t z => ?_, a4.imp id Or.inl⟩
      rcases z with z | ⟨rfl, rfl, rfl, -⟩
      · exact a3 t z
      · exact absurd rfl q
  · obtain ⟨K, a⟩ := h.2 b hb
    refine ⟨K, ?_⟩
    rw [gU_n (by omega)]
    exact a
theorem TR_k {A : Nat → Nat → Nat → Nat → Prop} {B : Nat → Nat → Prop} {G : GG} {b t : Nat} (h : TR A B G) (hb : b < 30) (h4 : t ≤ 1000) : TR A (fun x u => B x u ∨ (x = b ∧ u = t)) (gU G 17 b (if G 17 b < nI t then nI t else G 17 b)) := by
  refine ⟨fun u' l' i' g1 g2 g3 => ?_, fun x hx => ?_⟩
  · obtain ⟨T, a⟩ := h.1 u' l' i' g1 g2 g3
    refine ⟨T, ?_⟩
    rw [gU_n (by omega)]
    exact a
  · obtain ⟨T, a1, a2, a3, a4⟩ := h.2 x hx
    rw [gU_at]
    by_cases q : x = b
    · subst q
      rw [if_pos ⟨rfl, rfl⟩, a2, mx_i (by omega) (by omega)]
      refine ⟨max t T, by omega, rfl, fun u z => ?_, ?_⟩
      · rcases z with z | ⟨-, rfl⟩
        · have := a3 u z; omega
        · omega
      · rcases Nat.le_total t T with z | z
        · rw [Nat.max_eq_right z]
          exact a4.imp id Or.inl
        · rw [Nat.max_eq_left z]
          exact Or.inr (Or.inr ⟨rfl, rfl⟩)
    · rw [if_neg (fun z => q z.2)]
      refine ⟨T, a1, a2, fun u z => ?_, a4.imp id Or.inl⟩
      rcases z with z | ⟨z, -⟩
      · exact a3 u z
      · exact absurd z q
/-- only the tables have changed -/
def sT (G G' : GG) : Prop := ∀ p, p ≠ 16 → p ≠ 17 → G' p = G p
theorem sT.rf {G : GG} : sT G G := fun _ _ _ => rfl
theorem sT.t {G G' G2 : GG} (h : sT G G') (h2 : sT G' G2) : sT G G2 := fun p a b => (h2 p a b).trans (h p a b)
theorem sT.u {G G' : GG} {p k : Nat} {v : Int32} (h : sT G G') (hp : p = 16 ∨ p = 17) : sT G (gU G' p k v) := fun q a b => (gU_n (by omega)).trans (h q a b)
theorem sT.c {G G' : GG} (h : sT G G') : sC G G' := fun p hp => h p (by omega) (by omega)
section D1
variable {s : NN} {G : GG} {P : Int32 → GG → Prop} {PV : GG → Prop}
theorem c1_rowOf {u l : Nat} (hu : u < l) (hl : l < 30) (h : P (nI ((tri l + u) * 8)) G) : CTi kX1_rowOf [.int (nI u), .int (nI l)] G P := by
  refine vX1_rowOf _ _ _ G ⟨_, rfl, ?_⟩
  have := tri_le hl
  rw [nI_p1 (by omega), pk_mul, tri_2, show (2 : Int32) = nI 2 from rfl, show (8 : Int32) = nI 8 from rfl, pk_div (by omega) (by omega) (by omega), nI_add, pk_mul, show 2 * tri l / 2 = tri l by omega]
  exact h
def oF (o : Option (Nat × Nat)) : Nat := match o with
  | none => 0
  | some q => q.1
def oS (o : Option (Nat × Nat)) : Nat := match o with
  | none => 0
  | some q => q.2
theorem c1_gatherOf {F : Nat → Nat → Nat → Prop} {k p f : Nat} (hC : CS s G) (hW : WF3 s) (hk1 : 1 ≤ k) (hk : k < kn s) (hp : p ≤ 16) (hf : f ≤ 1000) (hT : TR (AF s F) (BF s F) G) (h : ∀ G', sT G G' → TR (AF s fun k' p' f' => F k' p' f' ∨ (k' = k ∧ p' = p ∧ f' = f)) (BF s fun k' p' f' => F k' p' f' ∨ (k' = k ∧ p' = p ∧ f' = f)) G' → PV G') : CTv kX1_gatherOf [.ref 15, .int (nI k), .long (lN (smN s k p f))] G PV := by
  have hkn := hW.1.2.1
  have hsm := smN_le hW.1 hk1 hk hp hf
  have hfo := hW.1.2.2.2.1
  refine vX1_gatherOf _ _ _ G ⟨vp_in_nI (by omega) (by omega), ?_⟩
  rw [nI_c (by omega)]
  obtain ⟨A', eA⟩ : ∃ A', A' = AF s fun k' p' f' => F k' p' f' ∨ (k' = k ∧ p' = p ∧ f' = f) := ⟨_, rfl⟩
  obtain ⟨B', eB⟩ : ∃ B', B' = BF s fun k' p' f' => F k' p' f' ∨ (k' = k ∧ p' = p ∧ f' = f) := ⟨_, rfl⟩
  rw [← eA, ← eB] at h
  have key : ∀ b : Nat, b ≤ k → ∀ (o : Option (Nat × Nat)) (A : Nat → Nat → Nat → Nat → Prop) (B : Nat → Nat → Prop) (G1 : GG), TR A B G1 → sT G G1 → (∀ u i l tl, (A u i l tl ∨ (u, i, l, tl) ∈ prC s k p f (dn b) o) ↔ A' u i l tl) → (∀ x t, (B x t ∨ (o = none ∧ fsC s k p f (dn b) = some (x, t))) ↔ B' x t) → (∀ y ty, o = some (y, ty) → b < y ∧ y ≤ k ∧ ty ≤ 1000) → zJ kX1_gatherOf (fun r G' => r = none ∧ PV G') 20 [(0, .ref 15), (2, .long (lN (smN s k p f))), (4, .int (G 5 k)), (5, .int (nI (oF o))), (6, .int (nI (oS o))), (7, .int (nI b))] [] G1 := by
    intro b
    induction b with
    | zero =>
      intro _ o A B G1 hT hS hA hB ho
      refine vX1_gatherOf_20 _ _ _ _ _ _ G1 ⟨fun _ => ⟨rfl, h G1 hS (TR_cg hT (fun u i l tl => ?_) (fun x t => ?_))⟩, fun q => absurd (by decide) q⟩
      · rw [← hA u i l tl]
        simp [dn, prC]
      · rw [← hB x t]
        simp [dn, fsC]
    | succ b ih =>
      intro hb o A B G1 hT hS hA hB ho
      have hC1 := hC.fr hS.c
      have st57 : zJ kX1_gatherOf (fun r G' => r = none ∧ PV G') 57 [(0, .ref 15), (2, .long (lN (smN s k p f))), (4, .int (G 5 k)), (5, .int (nI (oF o))), (6, .int (nI (oS o))), (7, .int (nI (b + 1)))] [.int (oI (cA s (b + 1) k p f))] G1 := by
        refine vX1_gatherOf_57 _ _ _ _ _ _ _ G1 ?_
        have hcl : ∀ w, cA s (b + 1) k p f = some w → w < 2 ^ 31 := fun w hw => by have := (cA_f hW.2.1 hW.2.2 hw).2.2.1; omega
        rw [pk_m1, oI_m1 hcl]
        rw [dn] at hA hB
        refine ⟨fun h1 => ih (by omega) o A B G1 hT hS (fun u i l tl => ?_) (fun x t => ?_) (fun y ty hy => ?_), fun h1 => ?_⟩
        · rw [← hA u i l tl, prC, h1]
        · rw [← hB x t, fsC, h1]
        · have := ho y ty hy; omega
        · obtain ⟨i, hi⟩ := Option.ne_none_iff_exists'.mp h1
          have hif := cA_f hW.2.1 hW.2.2 hi
          rw [hi]
          refine c5_ticksAt hC1 hW.2.2 (by omega) hif.2.2.1 ?_
          have hof : oF o < 2 ^ 31 := by
            cases o with
            | none => show 0 < _; omega
            | some q => have := ho q.1 q.2 rfl; show q.1 < _; omega
          rw [n0_iff hof, nI_c (show b + 1 < 2 ^ 31 by omega)]
          have hin : vp_in (nI (b + 1)) 30 := vp_in_nI (by omega) (by omega)
          cases o with
          | none =>
            refine ⟨fun q => absurd rfl q, fun _ => ⟨hin, hin, ?_⟩⟩
            refine ih (by omega) (some (b + 1, tk s (cu s (b + 1)) i)) A (fun x u => B x u ∨ (x = b + 1 ∧ u = tk s (cu s (b + 1)) i)) _ (TR_k hT (by omega) hif.2.2.2.2) (hS.u (by omega)) (fun u i' l tl => ?_) (fun x t => ?_) (fun y ty hy => ?_)
            · rw [← hA u i' l tl, prC, hi]
            · rw [← hB x t, fsC, hi]
              simp
              constructor
              · rintro (z | ⟨rfl, rfl⟩)
                · exact Or.inl z
                · exact Or.inr ⟨rfl, rfl⟩
              · rintro (z | ⟨rfl, rfl⟩)
                · exact Or.inl z
                · exact Or.inr ⟨rfl, rfl⟩
            · cases hy
              exact ⟨by omega, hb, hif.2.2.2.2⟩
          | some q =>
            obtain ⟨y, ty⟩ := q
            obtain ⟨y1, y2, y3⟩ := ho y ty rfl
            have hix := ix_lt (u := b + 1) (l := y) (i := i) y1 (by omega) hif.2.2.1
            refine ⟨fun _ => c1_rowOf (l := y) y1 (by omega) ?_, fun q => ?_⟩
            · show vp_in (nI ((tri y + (b + 1)) * 8) + nI i) 3480 ∧ vp_in (nI ((tri y + (b + 1)) * 8) + nI i) 3480 ∧ _
              have e : nI ((tri y + (b + 1)) * 8) + oI (some i) = nI (ix (b + 1) y i) := nI_add _ _
              rw [nI_add, e, nI_c (show ix (b + 1) y i < 2 ^ 31 by omega)]
              have hin2 : vp_in (nI (ix (b + 1) y i)) 3480 := vp_in_nI hix (by omega)
              refine ⟨hin2, hin2, ?_⟩
              refine ih (by omega) (some (b + 1, tk s (cu s (b + 1)) i)) (fun u' i' l' t' => A u' i' l' t' ∨ (u' = b + 1 ∧ i' = i ∧ l' = y ∧ t' = ty)) B _ (TR_u hT y1 (by omega) hif.2.2.1 y3) (hS.u (by omega)) (fun u i' l tl => ?_) (fun x t => ?_) (fun y ty hy => ?_)
              · rw [← hA u i' l tl, prC, hi]
                simp only [List.mem_cons, Prod.mk.injEq]
                exact or_assoc
              · rw [← hB x t]
                simp
              · cases hy
                exact ⟨by omega, hb, hif.2.2.2.2⟩
            · have q : y = 0 := q
              omega
      refine vX1_gatherOf_20 _ _ _ _ _ _ G1 ⟨fun h1 => ?_, fun _ => c7_holdsN (by omega) ?_⟩
      · rw [show (1 : Int32) = nI 1 from rfl, nI_ltI (by omega) (by omega)] at h1
        omega
      · rw [hC.1.2.2.2.2.2.2.1 k hk]
        refine bI_br (fun h1 => ?_) (fun h1 => c3_six hC1 hW.1 (c5_cr hC1 hW (by omega) (by omega) (by omega) ?_))
        · rw [cA_out h1] at st57; exact st57
        · have e : cA s (b + 1) k p f = (if hs s (b + 1) = 1 then crn s (b + 1) (16 * fo s) (smN s k p f) else none) := by
            unfold cA
            by_cases q : hs s (b + 1) = 1
            · rw [if_pos ⟨q, h1⟩, if_pos q]
            · rw [if_neg (fun z => q z.1), if_neg q]
          rw [← e]
          exact st57
  refine key k (Nat.le_refl k) none (AF s F) (BF s F) G hT sT.rf (fun u i l tl => ?_) (fun x t => ?_) (fun y ty hy => by cases hy)
  · rw [prC_dn, eA]
    unfold AF
    constructor
    · rintro (⟨k', p', f', h1, h2⟩ | h2)
      · exact ⟨k', p', f', Or.inl h1, h2⟩
      · exact ⟨k, p, f, Or.inr ⟨rfl, rfl, rfl⟩, h2⟩
    · rintro ⟨k', p', f', h1 | ⟨rfl, rfl, rfl⟩, h2⟩
      · exact Or.inl ⟨k', p', f', h1, h2⟩
      · exact Or.inr h2
  · rw [fsC_dn, eB]
    unfold BF
    constructor
    · rintro (⟨k', p', f', h1, h2⟩ | ⟨-, h2⟩)
      · exact ⟨k', p', f', Or.inl h1, h2⟩
      · exact ⟨k, p, f, Or.inr ⟨rfl, rfl, rfl⟩, h2⟩
    · rintro ⟨k', p', f', h1 | ⟨rfl, rfl, rfl⟩, h2⟩
      · exact Or.inl ⟨k', p', f', h1, h2⟩
      · exact Or.inr ⟨rfl, h2⟩
end D1
