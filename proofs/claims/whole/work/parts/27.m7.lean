/-- nothing but wrong, wrongLine, wrongPlace, wrongBy has changed -/
def sW (G G' : GG) : Prop := (∀ p, p ≠ 49 → G' p = G p) ∧ ∀ j, j < 24 ∨ 27 < j → G' 49 j = G 49 j
theorem sW.rf {G : GG} : sW G G := ⟨fun _ _ => rfl, fun _ _ => rfl⟩
theorem sW.t {G G' G2 : GG} (h : sW G G') (h2 : sW G' G2) : sW G G2 := ⟨fun p hp => (h2.1 p hp).trans (h.1 p hp), fun j hj => (h2.2 j hj).trans (h.2 j hj)⟩
theorem sW.u {G G' : GG} {k : Nat} {v : Int32} (h : sW G G') (hk : 24 ≤ k ∧ k ≤ 27) : sW G (gU G' 49 k v) := ⟨fun p hp => (gU_n hp).trans (h.1 p hp), fun j hj => (gU_k (by omega)).trans (h.2 j hj)⟩
theorem sW.lo {G G' : GG} (h : sW G G') : sLo G G' := fun p hp => h.1 p (by omega)
theorem sW.mr {s : NN} {G G' : GG} (h : sW G G') (hM : MR s G) : MR s G' := hM.congr (fun k hk => h.2 k (by simp at hk; omega)) (fun p h1 _ => h.1 p (by omega))
abbrev RW : Type := Option (Nat × Nat × Option (Nat × Nat))
def q24 : RW → Int32
  | none => 0
  | some (w, _, _) => nI w
def q25 : RW → Int32
  | none => -1
  | some (_, l, _) => nI l
def q26 : RW → Int32
  | some (_, _, some (p, _)) => nI p
  | _ => -1
def q27 : RW → Int32
  | some (_, _, some (_, f)) => nI f
  | _ => -1
def tq (G : GG) (o : RW) : Prop := G 49 24 = q24 o ∧ G 49 25 = q25 o ∧ G 49 26 = q26 o ∧ G 49 27 = q27 o
/-- the first of i, i + 1 .. (m of them) with P -/
def fnd (P : Nat → Bool) : Nat → Nat → Option Nat
  | 0, _ => none
  | m + 1, i => if P i then some i else fnd P m (i + 1)
/-- too short: walking up a WAY, the first BREAKER that doesn't wait long enough for the next one below -/
def tsL (s : NN) (k p f : Nat) : List Nat → Option Nat → Option Nat
  | [], _ => none
  | x :: t, b => match wtA s x k p f with
    | none => tsL s k p f t b
    | some w => match b with
      | none => tsL s k p f t (some w)
      | some bw => if w < bw + mg s then some x else tsL s k p f t (some w)
def tsN (s : NN) (k p f : Nat) : Option Nat := tsL s k p f (way s k) none
def unS (s : NN) (k x n : Nat) : Bool := (wtA s x k (n / 2) (n % 2 * la s)).isNone
def abL (s : NN) (o : Option Nat) : Bool := match o with
  | none => false
  | some w => decide (lm s < w)
def ooS (s : NN) (k x n : Nat) : Bool := (tsN s k (n / 2) (n % 2 * la s)).isSome || abL s (wtA s x k (n / 2) (n % 2 * la s))
def lrN (s : NN) (k : Nat) : RW := match kpN s k with
  | none => some (1, k, none)
  | some x => match fnd (unS s k x) 34 0 with
    | some n => some (2, k, some (n / 2, n % 2 * la s))
    | none => match fnd (ooS s k x) 34 0 with
      | some n => some (3, k, some (n / 2, n % 2 * la s))
      | none => none
def rtA (s : NN) : Nat → Nat → RW
  | 0, _ => none
  | m + 1, k => match lrN s k with
    | some q => some q
    | none => rtA s m (k + 1)
def loS (s : NN) (b : Nat) : Bool := decide (hs s b = 1) && (wtB s b (ldS s b (kn s)) 1).isSome
def rtB (s : NN) : Nat → Nat → RW
  | 0, _ => none
  | m + 1, b => if loS s b then some (4, b, none) else rtB s m (b + 1)
def rtN (s : NN) : RW := match rtA s (kn s - 1) 1 with
  | some q => some q
  | none => rtB s (kn s - 1) 1
def aRight (s : NN) (w : Int32) : Int32 := if w = 0 then q24 (rtN s) else if w = 1 then q25 (rtN s) else if w = 2 then q26 (rtN s) else if w = 3 then q27 (rtN s) else -1
theorem tsL_m {s : NN} {k p f : Nat} : ∀ {l : List Nat} {b : Option Nat} {x : Nat}, tsL s k p f l b = some x → x ∈ l
  | [], _, _, h => by cases h
  | y :: t, b, x, h => by
    unfold tsL at h
    split at h
    · exact List.mem_cons_of_mem _ (tsL_m h)
    · split at h
      · exact List.mem_cons_of_mem _ (tsL_m h)
      · split at h
        · cases h; exact List.mem_cons_self
        · exact List.mem_cons_of_mem _ (tsL_m h)
section M7
variable {s : NN} {G : GG} {P : Int32 → GG → Prop}
theorem c8_tells {w l p f : Int32} (h : ∀ G', sW G G' → G' 49 24 = w → G' 49 25 = l → G' 49 26 = p → G' 49 27 = f → P 0 G') : CTi kX8_tells [.ref 49, .int w, .int l, .int p, .int f] G P := by
  refine vX8_tells _ _ _ _ _ G ⟨_, rfl, h _ ((((sW.rf.u (by omega)).u (by omega)).u (by omega)).u (by omega)) ?_ ?_ ?_ ?_⟩
  · rw [gU_k (by omega), gU_k (by omega), gU_k (by omega), gU_s]
  · rw [gU_k (by omega), gU_k (by omega), gU_s]
  · rw [gU_k (by omega), gU_s]
  · rw [gU_s]
theorem c8_tooShort {k p f : Nat} (hM : MR s G) (hW : WF3 s) (hr : 1 ≤ mg s ∧ mg s ≤ 10000) (hk1 : 1 ≤ k) (hk : k < kn s) (hp : p ≤ 16) (hf : f ≤ 1000) (h : P (oI (tsN s k p f)) G) : CTi kX8_tooShort [.ref 49, .int (nI k), .int (nI p), .int (nI f)] G P := by
  have hkn := hW.1.2.1
  refine vX8_tooShort _ _ _ _ G ?_
  have key : ∀ x : Nat, x < kn s → ∀ b : Option Nat, (∀ w, b = some w → w ≤ 40000) → P (oI (tsL s k p f (way s x) b)) G → zJ kX8_tooShort (fun r G' => ∃ x, r = some (.int x) ∧ P x G') 6 [(0, .ref 49), (1, .int (nI k)), (2, .int (nI p)), (3, .int (nI f)), (4, .int (oI b)), (5, .int (nI x))] [] G := by
    intro x
    induction x using Nat.strongRecOn with
    | ind x ih =>
      intro hx b hb h
      have hx31 : x < 2 ^ 31 := by omega
      refine vX8_tooShort_6 _ _ _ _ _ _ G ?_
      rw [nI_le0 hx31]
      refine ⟨fun h0 => ⟨_, rfl, ?_⟩, fun h0 => c8_waitAt hM hW (by omega) (by omega) hk1 hk hp hf ?_⟩
      · subst h0
        rw [way_0] at h
        exact h
      · have hfx := (hW.1.2.2.2.2.2.2.1 x (by omega) hx).1
        have hin : vp_in (nI x) 30 := vp_in_nI (by omega) (by omega)
        have hwl : ∀ t, wtA s x k p f = some t → t < 2 ^ 31 := fun t ht => by have := wtA_le hW.2.1 hW.2.2 ht; omega
        have hbl : ∀ t, b = some t → t < 2 ^ 31 := fun t ht => by have := hb t ht; omega
        rw [way_s hfx] at h
        unfold tsL at h
        rw [nI_c hx31, hM.q50, oI_le hwl, oI_lt hbl, hM.2.2.2.1]
        refine ⟨fun ⟨w, hw⟩ => ?_, fun hno => ⟨hin, ?_⟩⟩
        · rw [hw] at h ⊢
          have hw4 := wtA_le hW.2.1 hW.2.2 hw
          refine ⟨fun hb0 => ⟨hin, ?_⟩, fun hb0 => ?_⟩
          · rw [hb0] at h
            exact ih _ hfx (by omega) (some w) (fun t ht => by cases ht; exact hw4) h
          · obtain ⟨bw, hbw⟩ := Option.ne_none_iff_exists'.mp hb0
            rw [hbw] at h ⊢
            have hbw4 := hb bw hbw
            show (nI bw + nI (mg s) ≤ nI w → _) ∧ (¬ nI bw + nI (mg s) ≤ nI w → _)
            rw [nI_add, nI_leI (by omega) (by omega)]
            refine ⟨fun h1 => ⟨hin, ?_⟩, fun h1 => ⟨_, rfl, ?_⟩⟩
            · simp only [if_neg (show ¬ w < bw + mg s by omega)] at h
              exact ih _ hfx (by omega) (some w) (fun t ht => by cases ht; exact hw4) h
            · simp only [if_pos (show w < bw + mg s by omega)] at h
              exact h
        · have hnone : wtA s x k p f = none := by
            cases hw : wtA s x k p f with
            | none => rfl
            | some w => exact absurd ⟨w, hw⟩ hno
          rw [hnone] at h
          exact ih _ hfx (by omega) b hb h
  exact key k hk none (fun w h => by cases h) h
theorem tsN_lt {k p f x : Nat} (h : tsN s k p f = some x) : 1 ≤ x ∧ x ≤ k := way_le (tsL_m h)
theorem c8_isLineRight {k : Nat} (hM : MR s G) (hW : WF s) (hk1 : 1 ≤ k) (hk : k < kn s) (hy : lrN s k = none → P 1 G) (hn : ∀ q, lrN s k = some q → ∀ G', sW G G' → tq G' (some q) → P 0 G') : CTi kX8_isLineRight [.ref 49, .int (nI k)] G P := by
  have hkn := hW.n.2.1
  have hr := hW.r
  have hla := hr.2.2.2.2.1
  refine vX8_isLineRight _ _ G (c8_keeper hM hW.n hW.b hk ?_)
  cases hx : kpN s k with
  | none =>
    refine ⟨fun q => absurd q (by decide), fun _ => c8_tells fun G' hG a1 a2 a3 a4 => ⟨Or.inl rfl, _, rfl, hn (1, k, none) ?_ G' hG ⟨a1, a2, a3, a4⟩⟩⟩
    unfold lrN
    rw [hx]
  | some x =>
    have hxm := way_le (kpN_m hx).1
    refine ⟨fun _ => ?_, fun q => absurd (nI_pos' (by omega)) q⟩
    have fin3 : ∀ n : Nat, n < 34 → fnd (unS s k x) 34 0 = none → fnd (ooS s k x) 34 0 = some n → zJ kX8_isLineRight (fun r G' => ∃ x, r = some (.int x) ∧ P x G') 120 [(0, .ref 49), (1, .int (nI k)), (3, .int (nI n)), (4, .int (nI (n % 2 * la s)))] [] G := by
      intro n hn34 h1 h2
      refine vX8_isLineRight_120 _ _ _ _ G ?_
      rw [(nf_eq hn34 hM).1]
      refine c8_tells fun G' hG a1 a2 a3 a4 => ⟨Or.inl rfl, _, rfl, hn (3, k, some (n / 2, n % 2 * la s)) ?_ G' hG ⟨a1, a2, a3, a4⟩⟩
      unfold lrN
      rw [hx]
      simp only [h1, h2]
    have key3 : ∀ m n : Nat, n + m = 34 → fnd (unS s k x) 34 0 = none → (fnd (ooS s k x) m n = fnd (ooS s k x) 34 0) → zJ kX8_isLineRight (fun r G' => ∃ x, r = some (.int x) ∧ P x G') 73 [(0, .ref 49), (1, .int (nI k)), (2, .int (nI x)), (3, .int (nI n))] [] G := by
      intro m
      induction m with
      | zero =>
        intro n hn34 hun he
        have : n = 34 := by omega
        subst this
        refine vX8_isLineRight_73 _ _ _ _ G ⟨fun _ => ⟨_, rfl, hy ?_⟩, fun q => absurd (by decide) q⟩
        unfold lrN
        rw [hx]
        simp only [hun, ← he]
        rfl
      | succ m ih =>
        intro n hn34 hun he
        have hnl : n < 34 := by omega
        have hh := half34 (s := s) hnl
        have e := nf_eq hnl hM
        have e3 := e.2
        rw [e.1] at e3
        have hf1000 : n % 2 * la s ≤ 1000 := by rcases hh.2 with q | q <;> omega
        refine vX8_isLineRight_73 _ _ _ _ G ⟨fun h1 => ?_, fun _ => ?_⟩
        · rw [show (34 : Int32) = nI 34 from rfl] at h1
          exact absurd h1 (nI_ge hnl (by omega))
        · rw [e.1, e3]
          refine c8_tooShort hM hW.w ⟨hr.1, hr.2.1⟩ hk1 hk hh.1 hf1000 ?_
          have htl : ∀ t, tsN s k (n / 2) (n % 2 * la s) = some t → t < 2 ^ 31 := fun t ht => by have := tsN_lt ht; omega
          rw [oI_le htl]
          rw [fnd] at he
          refine ⟨fun ⟨t, ht⟩ => fin3 n hnl hun ?_, fun hno => c8_waitAt hM hW.w (by omega) (by omega) hk1 hk hh.1 hf1000 ?_⟩
          · rw [if_pos (by unfold ooS; rw [ht]; rfl)] at he
            exact he.symm
          · have htn : tsN s k (n / 2) (n % 2 * la s) = none := by
              cases hw : tsN s k (n / 2) (n % 2 * la s) with
              | none => rfl
              | some w => exact absurd ⟨w, hw⟩ hno
            have hooS : ooS s k x n = abL s (wtA s x k (n / 2) (n % 2 * la s)) := by
              unfold ooS
              rw [htn]
              rfl
            rw [hM.2.2.2.2.1, nI_1]
            have hlm := hr.2.2.2.1
            have cmp : oI (wtA s x k (n / 2) (n % 2 * la s)) ≤ nI (lm s) ↔ abL s (wtA s x k (n / 2) (n % 2 * la s)) = false := by
              cases hw : wtA s x k (n / 2) (n % 2 * la s) with
              | none =>
                have := nI_pos' (show lm s < 2 ^ 31 by omega)
                rw [Ile] at this ⊢
                simp only [abL, iff_true]
                show (-1 : Int32).toInt ≤ _
                rw [m1_int]
                have h0 : (0 : Int32).toInt = 0 := by decide
                omega
              | some w =>
                have := wtA_le hW.c hW.b hw
                show nI w ≤ nI (lm s) ↔ _
                rw [nI_leI (by omega) (by omega)]
                simp [abL]
            rw [cmp]
            refine ⟨fun h1 => ih (n + 1) (by omega) hun ?_, fun h1 => fin3 n hnl hun ?_⟩
            · rw [hooS, h1] at he
              exact he
            · rw [hooS, (by simpa using h1 : abL s (wtA s x k (n / 2) (n % 2 * la s)) = true)] at he
              exact he.symm
    have key2 : ∀ m n : Nat, n + m = 34 → (fnd (unS s k x) m n = fnd (unS s k x) 34 0) → zJ kX8_isLineRight (fun r G' => ∃ x, r = some (.int x) ∧ P x G') 21 [(0, .ref 49), (1, .int (nI k)), (2, .int (nI x)), (3, .int (nI n))] [] G := by
      intro m
      induction m with
      | zero =>
        intro n hn34 he
        have : n = 34 := by omega
        subst this
        exact vX8_isLineRight_21 _ _ _ _ G ⟨fun _ => key3 34 0 (by omega) he.symm rfl, fun q => absurd (by decide) q⟩
      | succ m ih =>
        intro n hn34 he
        have hnl : n < 34 := by omega
        have hh := half34 (s := s) hnl
        have e := nf_eq hnl hM
        have e3 := e.2
        rw [e.1] at e3
        have hf1000 : n % 2 * la s ≤ 1000 := by rcases hh.2 with q | q <;> omega
        refine vX8_isLineRight_21 _ _ _ _ G ⟨fun h1 => ?_, fun _ => ?_⟩
        · rw [show (34 : Int32) = nI 34 from rfl] at h1
          exact absurd h1 (nI_ge hnl (by omega))
        · rw [e.1, e3]
          refine c8_waitAt hM hW.w (by omega) (by omega) hk1 hk hh.1 hf1000 ?_
          have hwl : ∀ t, wtA s x k (n / 2) (n % 2 * la s) = some t → t < 2 ^ 31 := fun t ht => by have := wtA_le hW.c hW.b ht; omega
          rw [oI_le hwl, nI_1, e3]
          rw [fnd] at he
          refine ⟨fun ⟨w, hw⟩ => ih (n + 1) (by omega) ?_, fun hno => c8_tells fun G' hG a1 a2 a3 a4 => ⟨Or.inl rfl, _, rfl, hn (2, k, some (n / 2, n % 2 * la s)) ?_ G' hG ⟨a1, a2, a3, a4⟩⟩⟩
          · rw [if_neg (by unfold unS; rw [hw]; simp)] at he
            exact he
          · have hnone : unS s k x n = true := by
              unfold unS
              cases hw : wtA s x k (n / 2) (n % 2 * la s) with
              | none => rfl
              | some w => exact absurd ⟨w, hw⟩ hno
            rw [if_pos hnone] at he
            unfold lrN
            rw [hx]
            simp only [← he]
    exact key2 34 0 (by omega) rfl
theorem c8_isRight (hM : MR s G) (hW : WF s) (h : ∀ G', sW G G' → tq G' (rtN s) → P (bI (decide (rtN s = none))) G') : CTi kX8_isRight [.ref 49] G P := by
  have hkn := hW.n.2.1
  have hk1 := hW.n.1
  refine vX8_isRight _ G ?_
  obtain ⟨G1, eG1⟩ : ∃ G1, G1 = gU (gU (gU (gU G 49 24 (0 : Int32)) 49 25 (-1 : Int32)) 49 26 (-1 : Int32)) 49 27 (-1 : Int32) := ⟨_, rfl⟩
  have hS1 : sW G G1 := by rw [eG1]; exact (((sW.rf.u (by omega)).u (by omega)).u (by omega)).u (by omega)
  have htq1 : tq G1 none := by
    rw [eG1]
    refine ⟨?_, ?_, ?_, ?_⟩
    · rw [gU_k (by omega), gU_k (by omega), gU_k (by omega), gU_s]; rfl
    · rw [gU_k (by omega), gU_k (by omega), gU_s]; rfl
    · rw [gU_k (by omega), gU_s]; rfl
    · rw [gU_s]; rfl
  rw [← eG1]
  have hM1 := hS1.mr hM
  have keyB : ∀ m b : Nat, b + m = kn s → 1 ≤ b → rtA s (kn s - 1) 1 = none → rtB s m b = rtB s (kn s - 1) 1 → zJ kX8_isRight (fun r G' => ∃ x, r = some (.int x) ∧ P x G') 48 [(0, .ref 49), (1, .int (nI b))] [] G1 := by
    intro m
    induction m with
    | zero =>
      intro b hb hb1 hA he
      have er : rtN s = none := by unfold rtN; rw [hA]; exact he.symm
      have h := h G1 hS1 (by rw [er]; exact htq1)
      rw [er, bI_y rfl] at h
      refine vX8_isRight_48 _ _ G1 ⟨fun _ => ⟨_, rfl, h⟩, fun h1 => ?_⟩
      rw [hM1.1] at h1
      exact absurd (nI_le (by omega) (by omega)) h1
    | succ m ih =>
      intro b hb hb1 hA he
      have hb31 : b < 2 ^ 31 := by omega
      have hin : vp_in (nI b) 30 := vp_in_nI (by omega) (by omega)
      rw [rtB] at he
      refine vX8_isRight_48 _ _ G1 ⟨fun h1 => ?_, fun _ => ?_⟩
      · rw [hM1.1] at h1
        exact absurd h1 (nI_ge (by omega) (by omega))
      · rw [nI_c hb31, hM1.q56, hs_ne hW.b, nI_1]
        refine ⟨hin, fun h1 => ih (b + 1) (by omega) (by omega) hA ?_, fun h1 => c8_loadOf hM1 hW.n hb1 (by omega) ?_⟩
        · rw [if_neg (by unfold loS; simp [h1])] at he
          exact he
        · have hld := ldS_le hW.n (k := b) (kn s)
          rw [nI_lN (by omega), show (1 : Int64) = lN 1 from rfl]
          refine c8_waitBy hM1 hW.c hW.b (by omega) (by omega) (by omega) ?_
          have hwl : ∀ t, wtB s b (ldS s b (kn s)) 1 = some t → t < 2 ^ 31 := fun t ht => by have := wt_le hW.c hW.b ht; omega
          rw [oI_lt hwl]
          have h1 := Decidable.not_not.mp h1
          refine ⟨fun h2 => ih (b + 1) (by omega) (by omega) hA ?_, fun h2 => c8_tells fun G' hG a1 a2 a3 a4 => ⟨Or.inl rfl, _, rfl, ?_⟩⟩
          · rw [if_neg (by unfold loS; rw [h2]; simp)] at he
            exact he
          · have hlo : loS s b = true := by
              unfold loS
              obtain ⟨w, hw⟩ := Option.ne_none_iff_exists'.mp h2
              rw [hw]
              simp [h1]
            rw [if_pos hlo] at he
            have er : rtN s = some (4, b, none) := by unfold rtN; rw [hA]; exact he.symm
            have h := h G' (hS1.t hG) (by rw [er]; exact ⟨a1, a2, a3, a4⟩)
            rw [er, bI_n (by simp)] at h
            exact h
  have keyA : ∀ m k : Nat, k + m = kn s → 1 ≤ k → rtA s m k = rtA s (kn s - 1) 1 → zJ kX8_isRight (fun r G' => ∃ x, r = some (.int x) ∧ P x G') 22 [(0, .ref 49), (1, .int (nI k))] [] G1 := by
    intro m
    induction m with
    | zero =>
      intro k hk hk1 he
      refine vX8_isRight_22 _ _ G1 ⟨fun _ => keyB (kn s - 1) 1 (by omega) (by omega) he.symm rfl, fun h1 => ?_⟩
      rw [hM1.1] at h1
      exact absurd (nI_le (by omega) (by omega)) h1
    | succ m ih =>
      intro k hk hk1 he
      rw [rtA] at he
      refine vX8_isRight_22 _ _ G1 ⟨fun h1 => ?_, fun _ => c8_isLineRight hM1 hW hk1 (by omega) (fun h1 => ?_) (fun q hq G' hG ht => ?_)⟩
      · rw [hM1.1] at h1
        exact absurd h1 (nI_ge (by omega) (by omega))
      · rw [h1] at he
        rw [nI_1]
        exact ⟨fun _ => ih (k + 1) (by omega) (by omega) he, fun q => absurd q (by decide)⟩
      · rw [hq] at he
        have er : rtN s = some q := by unfold rtN; rw [← he]
        have h := h G' (hS1.t hG) (by rw [er]; exact ht)
        rw [er, bI_n (by simp)] at h
        exact ⟨fun q => absurd rfl q, fun _ => ⟨_, rfl, h⟩⟩
  exact keyA (kn s - 1) 1 (by omega) (by omega) rfl
theorem c8_right {w : Int32} (hM : MR s G) (hW : WF s) (h : ∀ G', sW G G' → P (aRight s w) G') : CTi kX8_right [.ref 49, .int w] G P := by
  refine vX8_right _ _ G (c8_isRight hM hW fun G' hS ht => ?_)
  obtain ⟨t1, t2, t3, t4⟩ := ht
  have h := h G' hS
  unfold aRight at h
  rw [t1, t2, t3, t4]
  refine ⟨fun h0 => ⟨fun h1 => ⟨fun h2 => ⟨fun h3 => ⟨_, rfl, ?_⟩, fun h3 => ⟨_, rfl, ?_⟩⟩, fun h2 => ⟨_, rfl, ?_⟩⟩, fun h1 => ⟨_, rfl, ?_⟩⟩, fun h0 => ⟨_, rfl, ?_⟩⟩
  · rw [if_neg h0, if_neg h1, if_neg h2, if_neg h3] at h; exact h
  · rw [if_neg h0, if_neg h1, if_neg h2, if_pos h3] at h; exact h
  · rw [if_neg h0, if_neg h1, if_pos h2] at h; exact h
  · rw [if_neg h0, if_pos h1] at h; exact h
  · rw [if_pos h0] at h; exact h
end M7
