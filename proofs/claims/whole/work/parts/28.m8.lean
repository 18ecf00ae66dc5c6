/-- the state with other DIALS -/
def dS (s : NN) (d : Nat → Nat) : NN := fun q j => if q = 58 then d j else s q j
theorem dS_p {s : NN} {d : Nat → Nat} {p : Nat} (h : p ≠ 58) : dS s d p = s p := by funext j; simp [dS, h]
theorem dS_d {s : NN} {d : Nat → Nat} : dS s d 58 = d := by funext j; simp [dS]
theorem dS_id {s : NN} : dS s (dl s) = s := by
  funext q j
  unfold dS
  split
  · next h => subst h; rfl
  · rfl
theorem dS_U {s : NN} {d : Nat → Nat} {b n : Nat} : sU (dS s d) 58 b n = dS s (fun j => if j = b then n else d j) := by
  funext q j
  rw [sU_at]
  unfold dS
  by_cases hq : q = 58
  · subst hq
    by_cases hj : j = b <;> simp [hj]
  · simp [hq]
section DS
variable {s : NN} {d : Nat → Nat}
theorem dS_way (k : Nat) : way (dS s d) k = way s k := way_cg (dS_p (by omega)) k
theorem dS_kn : kn (dS s d) = kn s := by show dS s d 49 0 = _; rw [dS_p (by omega)]
theorem dS_la : la (dS s d) = la s := by show dS s d 49 5 = _; rw [dS_p (by omega)]
theorem dS_mg : mg (dS s d) = mg s := by show dS s d 49 3 = _; rw [dS_p (by omega)]
theorem dS_lm : lm (dS s d) = lm s := by show dS s d 49 4 = _; rw [dS_p (by omega)]
theorem dS_fo : fo (dS s d) = fo s := by show dS s d 49 1 = _; rw [dS_p (by omega)]
theorem dS_hs (x : Nat) : hs (dS s d) x = hs s x := by show dS s d 56 x = _; rw [dS_p (by omega)]
theorem dS_cu (x : Nat) : cu (dS s d) x = cu s x := by show dS s d 57 x = _; rw [dS_p (by omega)]
theorem dS_dl (x : Nat) : dl (dS s d) x = d x := by show dS s d 58 x = _; rw [dS_d]
theorem dS_abv (k : Nat) : abv (dS s d) k = abv s k := by
  unfold abv
  have e : fr (dS s d) k = fr s k := by show dS s d 50 k = _; rw [dS_p (by omega)]
  have e2 : bY (dS s d) = bY s := by funext j; show dS s d 51 j = _; rw [dS_p (by omega)]
  rw [e, e2, dS_way]
theorem dS_sm (k p f : Nat) : smN (dS s d) k p f = smN s k p f := by
  unfold smN
  have e2 : bY (dS s d) k = bY s k := by show dS s d 51 k = _; rw [dS_p (by omega)]
  have e3 : rs (dS s d) = rs s := by show dS s d 49 2 = _; rw [dS_p (by omega)]
  rw [dS_abv, e2, e3]
theorem dS_crn (b o u : Nat) : crn (dS s d) b o u = crn s b o u := by
  unfold crn
  have e2 : pk (dS s d) b = pk s b := by show dS s d 59 b = _; rw [dS_p (by omega)]
  have e3 : cn (dS s d) = cn s := by funext j; show dS s d 53 j = _; rw [dS_p (by omega)]
  rw [dS_cu, e2, e3, lastC_cg (dS_p (by omega))]
theorem dS_tk : tk (dS s d) = tk s := by funext c j; show dS s d 55 _ = _; rw [dS_p (by omega)]
theorem dS_tk' (c j : Nat) : tk (dS s d) c j = tk s c j := by show dS s d 55 _ = _; rw [dS_p (by omega)]
theorem dS_kp (k : Nat) : kpN (dS s d) k = kpN s k := by
  unfold kpN
  rw [dS_way]
  congr 1
theorem dS_ldS (k : Nat) : ∀ n, ldS (dS s d) k n = ldS s k n
  | 0 => rfl
  | n + 1 => by
    have e : ld (dS s d) n = ld s n := by show dS s d 52 n = _; rw [dS_p (by omega)]
    unfold ldS
    rw [dS_ldS k n, dS_way, e]
theorem dS_WF (hW : WF s) (h1 : ∀ x, d x ≤ 40) (h2 : ∀ x, hs s x = 1 → 1 ≤ d x) : WF (dS s d) := by
  obtain ⟨hn, hc, hb, hr0⟩ := hW
  refine ⟨?_, ?_, ?_, ?_⟩
  · unfold WFn kn fo rs fr bY ld at *
    simp only [dS_p (s := s) (d := d) (show (49 : Nat) ≠ 58 by omega), dS_p (s := s) (d := d) (show (50 : Nat) ≠ 58 by omega), dS_p (s := s) (d := d) (show (51 : Nat) ≠ 58 by omega), dS_p (s := s) (d := d) (show (52 : Nat) ≠ 58 by omega)]
    exact hn
  · unfold WFc cn mu tk at *
    simp only [dS_p (s := s) (d := d) (show (53 : Nat) ≠ 58 by omega), dS_p (s := s) (d := d) (show (54 : Nat) ≠ 58 by omega), dS_p (s := s) (d := d) (show (55 : Nat) ≠ 58 by omega)]
    exact hc
  · unfold WFb at *
    simp only [dS_hs, dS_cu, dS_dl, dS_kn]
    have e59 : ∀ k, pk (dS s d) k = pk s k := fun k => by show dS s d 59 k = _; rw [dS_p (by omega)]
    have e60 : ∀ k, fl (dS s d) k = fl s k := fun k => by show dS s d 60 k = _; rw [dS_p (by omega)]
    have e61 : ∀ k, go (dS s d) k = go s k := fun k => by show dS s d 61 k = _; rw [dS_p (by omega)]
    simp only [e59, e60, e61]
    exact ⟨fun k => ⟨(hb.1 k).1, (hb.1 k).2.1, (hb.1 k).2.2.1, h1 k, (hb.1 k).2.2.2.2.1, (hb.1 k).2.2.2.2.2⟩, fun k hk => ⟨(hb.2.1 k hk).1, (hb.2.1 k hk).2.1, h2 k hk, (hb.2.1 k hk).2.2.2⟩, hb.2.2⟩
  · unfold WFr mg lm la hg hr sn op dk st go kn at *
    simp only [dS_way, dS_p (s := s) (d := d) (show (49 : Nat) ≠ 58 by omega), dS_p (s := s) (d := d) (show (61 : Nat) ≠ 58 by omega), dS_p (s := s) (d := d) (show (62 : Nat) ≠ 58 by omega), dS_p (s := s) (d := d) (show (63 : Nat) ≠ 58 by omega), dS_p (s := s) (d := d) (show (64 : Nat) ≠ 58 by omega)]
    exact hr0
end DS
/-- the TICKS by which a BREAKER waits at a FAULT -/
def tkA (s : NN) (x k p f : Nat) : Option Nat := if hs s x = 1 ∧ x ∈ way s k then (crn s x (16 * fo s) (smN s k p f)).map (fun j => tk s (cu s x) j) else none
theorem wtA_tk {s : NN} {x k p f : Nat} : wtA s x k p f = (tkA s x k p f).map fun t => dl s x * t := by
  unfold wtA tkA
  split
  · unfold wtB
    rw [Option.map_map]
    rfl
  · rfl
theorem dS_tkA {s : NN} {d : Nat → Nat} {x k p f : Nat} : tkA (dS s d) x k p f = tkA s x k p f := by
  unfold tkA
  simp only [dS_hs, dS_way, dS_crn, dS_sm, dS_fo, dS_tk', dS_cu]
theorem tkA_m {s : NN} {x k p f t : Nat} (hc : WFc s) (hb : WFb s) (h : tkA s x k p f = some t) : hs s x = 1 ∧ x ∈ way s k ∧ 1 ≤ t ∧ t ≤ 1000 := by
  unfold tkA at h
  split at h
  · next h1 =>
    obtain ⟨j, hj, rfl⟩ := Option.map_eq_some_iff.mp h
    have h2 := ((hc (cu s x) (hb.1 x).2.2.1).2.1 j (crn_lt hj)).2.2
    exact ⟨h1.1, h1.2, h2⟩
  · cases h
/-- who must wait for whom at a FAULT: upper, its TICKS, lower, its TICKS -/
def prL (s : NN) (k p f : Nat) : List Nat → Option (Nat × Nat) → List (Nat × Nat × Nat × Nat)
  | [], _ => []
  | x :: t, b => match tkA s x k p f with
    | none => prL s k p f t b
    | some tx => match b with
      | none => prL s k p f t (some (x, tx))
      | some (y, ty) => (x, tx, y, ty) :: prL s k p f t (some (x, tx))
def Pr (s : NN) (u tu l tl : Nat) : Prop := ∃ k p f, fltV s k p f ∧ (u, tu, l, tl) ∈ prL s k p f (way s k) none
def Sol (s : NN) (d : Nat → Nat) : Prop := ∀ u tu l tl, Pr s u tu l tl → d l * tl + mg s ≤ d u * tu
theorem prL_m {s : NN} {k p f : Nat} (hc : WFc s) (hb : WFb s) : ∀ {lst : List Nat} {b : Option (Nat × Nat)} {u tu l tl : Nat}, (∀ y ty, b = some (y, ty) → tkA s y k p f = some ty) → (u, tu, l, tl) ∈ prL s k p f lst b → u ∈ lst ∧ tkA s u k p f = some tu ∧ tkA s l k p f = some tl
  | [], _, _, _, _, _, _, h => by cases h
  | x :: t, b, u, tu, l, tl, hb0, h => by
    unfold prL at h
    cases hx : tkA s x k p f with
    | none =>
      rw [hx] at h
      have := prL_m hc hb hb0 h
      exact ⟨List.mem_cons_of_mem _ this.1, this.2⟩
    | some tx =>
      rw [hx] at h
      have hnext : ∀ y ty, some (x, tx) = some (y, ty) → tkA s y k p f = some ty := by
        intro y ty hy
        cases hy
        exact hx
      cases b with
      | none =>
        have := prL_m hc hb hnext h
        exact ⟨List.mem_cons_of_mem _ this.1, this.2⟩
      | some q =>
        obtain ⟨y, ty⟩ := q
        rcases List.mem_cons.mp h with h | h
        · cases h
          exact ⟨List.mem_cons_self, hx, hb0 _ _ rfl⟩
        · have := prL_m hc hb hnext h
          exact ⟨List.mem_cons_of_mem _ this.1, this.2⟩
theorem way_desc {s : NN} : ∀ k, (way s k).Pairwise (fun a b => b < a) := by
  intro k
  induction k using Nat.strongRecOn with
  | ind k ih =>
    cases k with
    | zero => rw [way_0]; exact List.Pairwise.nil
    | succ k =>
      rw [way]
      refine List.Pairwise.cons (fun b hb => ?_) (ih _ (by omega))
      have := way_le hb
      omega
theorem prL_lt {s : NN} {k p f : Nat} : ∀ {lst : List Nat} {b : Option (Nat × Nat)} {u tu l tl : Nat}, lst.Pairwise (fun a b => b < a) → (∀ y ty, b = some (y, ty) → ∀ x ∈ lst, x < y) → (u, tu, l, tl) ∈ prL s k p f lst b → u < l
  | [], _, _, _, _, _, _, _, h => by cases h
  | x :: t, b, u, tu, l, tl, hp, hb0, h => by
    obtain ⟨hp1, hp2⟩ := List.pairwise_cons.mp hp
    unfold prL at h
    cases hx : tkA s x k p f with
    | none =>
      rw [hx] at h
      exact prL_lt hp2 (fun y ty hy z hz => hb0 y ty hy z (List.mem_cons_of_mem _ hz)) h
    | some tx =>
      rw [hx] at h
      have hnext : ∀ y ty, some (x, tx) = some (y, ty) → ∀ z ∈ t, z < y := by
        intro y ty hy z hz
        cases hy
        exact hp1 z hz
      cases b with
      | none => exact prL_lt hp2 hnext h
      | some q =>
        obtain ⟨y, ty⟩ := q
        rcases List.mem_cons.mp h with h | h
        · cases h
          exact hb0 _ _ rfl _ List.mem_cons_self
        · exact prL_lt hp2 hnext h
theorem Pr_f {s : NN} {u tu l tl : Nat} (hc : WFc s) (hb : WFb s) (h : Pr s u tu l tl) : u < l ∧ hs s u = 1 ∧ hs s l = 1 ∧ 1 ≤ tu ∧ tu ≤ 1000 ∧ 1 ≤ tl ∧ tl ≤ 1000 := by
  obtain ⟨k, p, f, -, h⟩ := h
  have h1 := prL_m hc hb (fun y ty hy => by cases hy) h
  have h2 := tkA_m hc hb h1.2.1
  have h3 := tkA_m hc hb h1.2.2
  exact ⟨prL_lt (way_desc k) (fun y ty hy => by cases hy) h, h2.1, h3.1, h2.2.2.1, h2.2.2.2, h3.2.2.1, h3.2.2.2⟩
theorem dS_prL {s : NN} {d : Nat → Nat} {k p f : Nat} : ∀ (lst : List Nat) (b : Option (Nat × Nat)), prL (dS s d) k p f lst b = prL s k p f lst b
  | [], _ => rfl
  | x :: t, b => by
    unfold prL
    rw [dS_tkA]
    cases tkA s x k p f with
    | none => exact dS_prL t b
    | some tx => cases b with
      | none => exact dS_prL t _
      | some q => obtain ⟨y, ty⟩ := q; simp only [dS_prL t _]
theorem dS_flt {s : NN} {d : Nat → Nat} {k p f : Nat} : fltV (dS s d) k p f ↔ fltV s k p f := by unfold fltV; rw [dS_kn, dS_la]
theorem dS_Pr {s : NN} {d : Nat → Nat} {u tu l tl : Nat} : Pr (dS s d) u tu l tl ↔ Pr s u tu l tl := by
  unfold Pr
  simp only [dS_flt, dS_prL, dS_way]
theorem tsL_iff {s : NN} {k p f : Nat} : ∀ {lst : List Nat} {b : Option (Nat × Nat)}, (tsL s k p f lst (b.map fun q => dl s q.1 * q.2) = none ↔ ∀ u tu l tl, (u, tu, l, tl) ∈ prL s k p f lst b → dl s l * tl + mg s ≤ dl s u * tu)
  | [], _ => by simp [tsL, prL]
  | x :: t, b => by
    unfold tsL prL
    rw [wtA_tk]
    cases tkA s x k p f with
    | none => exact tsL_iff
    | some tx => cases b with
      | none => exact tsL_iff (b := some (x, tx))
      | some q =>
        obtain ⟨y, ty⟩ := q
        have ih := tsL_iff (s := s) (k := k) (p := p) (f := f) (lst := t) (b := some (x, tx))
        simp only [Option.map_some] at ih ⊢
        by_cases h : dl s x * tx < dl s y * ty + mg s
        · rw [if_pos h]
          constructor
          · intro q; cases q
          · intro q
            have := q x tx y ty List.mem_cons_self
            omega
        · rw [if_neg h, ih]
          constructor
          · intro q u tu l tl hm
            rcases List.mem_cons.mp hm with hm | hm
            · cases hm; omega
            · exact q u tu l tl hm
          · intro q u tu l tl hm
            exact q u tu l tl (List.mem_cons_of_mem _ hm)
theorem tsL_some {s : NN} {k p f z : Nat} : ∀ {lst : List Nat} {b : Option (Nat × Nat)}, tsL s k p f lst (b.map fun q => dl s q.1 * q.2) = some z → ∃ tu l tl, (z, tu, l, tl) ∈ prL s k p f lst b ∧ dl s z * tu < dl s l * tl + mg s
  | [], _, h => by cases h
  | x :: t, b, h => by
    unfold tsL at h
    unfold prL
    rw [wtA_tk] at h
    cases hx : tkA s x k p f with
    | none => rw [hx] at h; exact tsL_some h
    | some tx => cases b with
      | none => rw [hx] at h; exact tsL_some (b := some (x, tx)) h
      | some q =>
        obtain ⟨y, ty⟩ := q
        rw [hx] at h
        simp only [Option.map_some] at h
        by_cases hlt : dl s x * tx < dl s y * ty + mg s
        · rw [if_pos hlt] at h
          cases h
          exact ⟨tx, y, ty, List.mem_cons_self, hlt⟩
        · rw [if_neg hlt] at h
          obtain ⟨tu, l, tl, h1, h2⟩ := tsL_some (b := some (x, tx)) h
          exact ⟨tu, l, tl, List.mem_cons_of_mem _ h1, h2⟩
theorem tsN_Sol {s : NN} : (∀ k p f, fltV s k p f → tsN s k p f = none) ↔ Sol s (dl s) := by
  constructor
  · intro h u tu l tl ⟨k, p, f, hv, hm⟩
    exact (tsL_iff (b := none)).mp (h k p f hv) u tu l tl hm
  · intro h k p f hv
    exact (tsL_iff (b := none)).mpr fun u tu l tl hm => h u tu l tl ⟨k, p, f, hv, hm⟩
theorem tsN_Pr {s : NN} {k p f z : Nat} (hv : fltV s k p f) (h : tsN s k p f = some z) : ∃ tu l tl, Pr s z tu l tl ∧ dl s z * tu < dl s l * tl + mg s := by
  obtain ⟨tu, l, tl, h1, h2⟩ := tsL_some (b := none) h
  exact ⟨tu, l, tl, ⟨k, p, f, hv, h1⟩, h2⟩
/-! LEAST DIALS -/
def pos (s : NN) (d : Nat → Nat) : Prop := ∀ x, hs s x = 1 → 1 ≤ d x
def FitNo (s : NN) : Prop := ∀ d, Sol s d → pos s d → ∃ x, hs s x = 1 ∧ 40 < d x
def FitYes (s : NN) (d : Nat → Nat) : Prop := Sol s d ∧ (∀ x, hs s x = 1 → 1 ≤ d x ∧ d x ≤ 40) ∧ (∀ d', Sol s d' → pos s d' → ∀ x, hs s x = 1 → d x ≤ d' x) ∧ ∀ x, ¬ hs s x = 1 → d x = dl s x
theorem Fit_u {s : NN} {d d' : Nat → Nat} (h : FitYes s d) (h' : FitYes s d') : d = d' := by
  funext x
  by_cases hx : hs s x = 1
  · have h1 := h.2.2.1 d' h'.1 (fun y hy => (h'.2.1 y hy).1) x hx
    have h2 := h'.2.2.1 d h.1 (fun y hy => (h.2.1 y hy).1) x hx
    omega
  · rw [h.2.2.2 x hx, h'.2.2.2 x hx]
theorem Fit_n {s : NN} {d : Nat → Nat} (h : FitYes s d) (h' : FitNo s) : False := by
  obtain ⟨x, hx, h1⟩ := h' d h.1 (fun y hy => (h.2.1 y hy).1)
  have := (h.2.1 x hx).2
  omega
def nFit (s : NN) (d : Nat → Nat) : NN := sU (dS s d) 49 19 0
def fsN (s : NN) (d : Nat → Nat) : Nat → Nat
  | 0 => 0
  | n + 1 => fsN s d n + if hs s n = 1 then d n else 0
def smD (d : Nat → Nat) : Nat → Nat
  | 0 => 0
  | n + 1 => smD d n + d n
theorem smD_le {d : Nat → Nat} (h : ∀ x, d x ≤ 40) : ∀ n, smD d n ≤ 40 * n
  | 0 => Nat.le_refl 0
  | n + 1 => by
    have := smD_le h n
    have := h n
    unfold smD
    omega
theorem smD_up {d : Nat → Nat} {b : Nat} : ∀ n, smD (fun j => if j = b then d b + 1 else d j) n = smD d n + if b < n then 1 else 0
  | 0 => rfl
  | n + 1 => by
    unfold smD
    rw [smD_up n]
    by_cases h1 : n = b
    · subst h1
      simp
      omega
    · simp only [h1, if_false]
      by_cases h2 : b < n
      · rw [if_pos h2, if_pos (by omega)]; omega
      · rw [if_neg h2, if_neg (by omega)]; omega
