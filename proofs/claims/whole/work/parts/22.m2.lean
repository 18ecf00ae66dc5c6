/-- the last CORNER (of the first n) that a current over/under reaches -/
def lastC (s : NN) (c q over under : Nat) : Nat → Option Nat
  | 0 => none
  | n + 1 => if q * mu s c n * under ≤ 10 * over then some n else lastC s c q over under n
def crn (s : NN) (b over under : Nat) : Option Nat := lastC s (cu s b) (pk s b) over under (cn s (cu s b))
def wtB (s : NN) (b over under : Nat) : Option Nat := (crn s b over under).map fun j => dl s b * tk s (cu s b) j
def wtA (s : NN) (b k p f : Nat) : Option Nat := if hs s b = 1 ∧ b ∈ way s k then wtB s b (16 * fo s) (smN s k p f) else none
theorem lastC_lt {s : NN} {c q over under : Nat} : ∀ {n j : Nat}, lastC s c q over under n = some j → j < n
  | 0, _, h => by cases h
  | n + 1, j, h => by
    unfold lastC at h
    split at h
    · cases h; omega
    · have := lastC_lt h
      omega
theorem crn_lt {s : NN} {b over under j : Nat} (h : crn s b over under = some j) : j < cn s (cu s b) := lastC_lt h
theorem smN_le {s : NN} {k p f : Nat} (hW : WFn s) (hk1 : 1 ≤ k) (hk : k < kn s) (hp : p ≤ 16) (hf : f ≤ 1000) : 16 ≤ smN s k p f ∧ smN s k p f ≤ 528000 := by
  unfold smN
  have h1 := abv_le hW hk
  have h2 := hW.2.2.2.2.1
  have h3 := hW.2.2.2.2.2.1
  have h4 := (hW.2.2.2.2.2.2.1 k hk1 hk).2
  have : p * bY s k ≤ 16 * 1000 := Nat.mul_le_mul hp h4.2
  omega
theorem lN_r {a b : Nat} (ha : a < 2 ^ 63) (hb : b < 2 ^ 63) : lN a < lN b ↔ a < b := pk_lLT ha hb
theorem wt_le {s : NN} {b over under w : Nat} (hc : WFc s) (hb : WFb s) (h : wtB s b over under = some w) : w ≤ 40000 := by
  unfold wtB at h
  obtain ⟨j, hj, rfl⟩ := Option.map_eq_some_iff.mp h
  have h1 := (hb.1 b).2.2
  have h2 := ((hc (cu s b) h1.1).2.1 j (crn_lt hj)).2.2
  have := Nat.mul_le_mul h1.2.1 h2.2
  omega
theorem wtA_le {s : NN} {b k p f w : Nat} (hc : WFc s) (hb : WFb s) (h : wtA s b k p f = some w) : w ≤ 40000 := by
  unfold wtA at h
  split at h
  · exact wt_le hc hb h
  · cases h
theorem oI_le {o : Option Nat} (h : ∀ w, o = some w → w < 2 ^ 31) : (0 ≤ oI o ↔ ∃ w, o = some w) := by
  cases o with
  | none => simp [oI]
  | some w =>
    have := nI_pos' (h w rfl)
    simp [oI, this]
theorem oI_lt {o : Option Nat} (h : ∀ w, o = some w → w < 2 ^ 31) : (oI o < 0 ↔ o = none) := by
  cases o with
  | none => simp [oI]
  | some w =>
    have := nI_pos (h w rfl)
    simp [oI, this]
section M2
variable {s : NN} {G : GG} {P : Int32 → GG → Prop} {PL : Int64 → GG → Prop}
theorem c8_waitBy {b over under : Nat} (hM : MR s G) (hc : WFc s) (hb : WFb s) (hb30 : b < 30) (ho : over ≤ 1000000) (hu : under ≤ 1000000) (h : P (oI (wtB s b over under)) G) : CTi kX8_waitBy [.ref 49, .int (nI b), .long (lN over), .long (lN under)] G P := by
  have hb31 : b < 2 ^ 31 := by omega
  have hcu := (hb.1 b).2.2.1
  have hcc := hc (cu s b) hcu
  have hpk := (hb.1 b).2.2.2.2.1
  refine vX8_waitBy _ _ _ _ G ⟨vp_in_nI hb30 (by omega), ?_⟩
  rw [nI_c hb31, hM.q57]
  have key : ∀ n j : Nat, j + n = cn s (cu s b) → zJ kX8_waitBy (fun r G' => ∃ x, r = some (.int x) ∧ P x G') 14 [(0, .ref 49), (1, .int (nI b)), (2, .long (lN over)), (4, .long (lN under)), (6, .int (nI (cu s b))), (7, .int (oI ((lastC s (cu s b) (pk s b) over under j).map fun j => dl s b * tk s (cu s b) j))), (8, .int (nI j))] [] G := by
    intro n
    induction n with
    | zero =>
      intro j hj
      refine vX8_waitBy_14 _ _ _ _ _ _ _ G ⟨vp_in_nI hcu (by omega), fun _ => ⟨_, rfl, ?_⟩, fun h1 => ?_⟩
      · rw [Nat.add_zero] at hj
        rw [hj]
        exact h
      · rw [nI_c (by omega), hM.q53] at h1
        exact absurd (nI_le (by omega) (by omega)) h1
    | succ n ih =>
      intro j hj
      refine vX8_waitBy_14 _ _ _ _ _ _ _ G ⟨vp_in_nI hcu (by omega), fun h1 => ?_, fun h1 => ?_⟩
      · rw [nI_c (by omega), hM.q53] at h1
        exact absurd h1 (nI_ge (by omega) (by omega))
      · have e8 : (8 : Int32) * nI (cu s b) + nI j = nI (8 * cu s b + j) := by
          rw [show (8 : Int32) = nI 8 from rfl, pk_mul, nI_add]
        have e1 : nI j + 1 = nI (j + 1) := nI_1 j
        have hmu := (hcc.2.1 j (by omega))
        rw [e8, e1, nI_c (n := 8 * cu s b + j) (by omega), nI_c hb31, hM.q59, hM.q58, hM.q54, hM.q55, nI_lN (by omega), nI_lN (by omega), show (10 : Int64) = lN 10 from rfl, lN_mul, lN_mul, lN_mul, pk_mul]
        have hm1 : pk s b * mu s (cu s b) j ≤ 10000 * 1000 := Nat.mul_le_mul hpk hmu.2.1
        have hm2 : pk s b * mu s (cu s b) j * under ≤ 10000 * 1000 * 1000000 := Nat.mul_le_mul hm1 hu
        rw [lN_r (by omega) (by omega)]
        refine ⟨vp_in_nI hb30 (by omega), vp_in_nI (by omega) (by omega), fun h2 => ?_, fun h2 => ⟨vp_in_nI hb30 (by omega), vp_in_nI (by omega) (by omega), ?_⟩⟩
        · have := ih (j + 1) (by omega)
          rw [lastC, if_neg (by omega)] at this
          exact this
        · have := ih (j + 1) (by omega)
          rw [lastC, if_pos (by omega)] at this
          exact this
  exact key (cn s (cu s b)) 0 (by omega)
theorem c8_waitAt {b k p f : Nat} (hM : MR s G) (hW : WF3 s) (hb1 : 1 ≤ b) (hb30 : b < 30) (hk1 : 1 ≤ k) (hk : k < kn s) (hp : p ≤ 16) (hf : f ≤ 1000) (h : P (oI (wtA s b k p f)) G) : CTi kX8_waitAt [.ref 49, .int (nI b), .int (nI k), .int (nI p), .int (nI f)] G P := by
  have hb31 : b < 2 ^ 31 := by omega
  obtain ⟨hWn, hWc, hWb⟩ := hW
  have hsm := smN_le hWn hk1 hk hp hf
  have hfo := hWn.2.2.2.1
  have hh := (hWb.1 b).1
  refine vX8_waitAt _ _ _ _ _ G ⟨vp_in_nI hb30 (by omega), fun h1 => ⟨_, rfl, ?_⟩, fun h1 => c8_isOnWay hM hWn hb1 hb30 hk (bI_br (fun h2 => ⟨_, rfl, ?_⟩) (fun h2 => c8_sum hM hWn hk1 hk hp hf ?_))⟩
  · rw [nI_c hb31, hM.q56] at h1
    have e : wtA s b k p f = none := by
      unfold wtA
      rw [if_neg]
      rintro ⟨h2, -⟩
      rw [h2] at h1
      exact absurd h1 (by decide)
    rw [e] at h
    exact h
  · have e : wtA s b k p f = none := by
      unfold wtA
      rw [if_neg]
      rintro ⟨-, h3⟩
      exact h2 h3
    rw [e] at h
    exact h
  · rw [hM.2.1, nI_lN (by omega), show (16 : Int64) = lN 16 from rfl, lN_mul]
    refine c8_waitBy hM hWc hWb hb30 (by omega) (by omega) ⟨_, rfl, ?_⟩
    rw [nI_c hb31, hM.q56] at h1
    have e : wtA s b k p f = wtB s b (16 * fo s) (smN s k p f) := by
      unfold wtA
      rw [if_pos]
      refine ⟨?_, h2⟩
      have : hs s b ≠ 0 := fun h0 => h1 (by rw [h0]; rfl)
      omega
    rw [e] at h
    exact h
/-- the tick at which a FAULT is cleared by the BREAKERS of the LINES under n -/
def clN (s : NN) (k p f : Nat) : Nat → Option Nat
  | 0 => none
  | n + 1 => match (if fl s n = 1 then none else wtA s n k p f) with
    | none => clN s k p f n
    | some w => match clN s k p f n with
      | none => some w
      | some t => some (if w < t then w else t)
theorem wtA_0 {s : NN} {k p f : Nat} : wtA s 0 k p f = none := by
  unfold wtA
  rw [if_neg]
  rintro ⟨-, h⟩
  have := way_le h
  omega
theorem clN_le {s : NN} {k p f : Nat} (hc : WFc s) (hb : WFb s) : ∀ {n t : Nat}, clN s k p f n = some t → t ≤ 40000
  | 0, _, h => by cases h
  | n + 1, t, h => by
    unfold clN at h
    have hw : ∀ w, (if fl s n = 1 then none else wtA s n k p f) = some w → w ≤ 40000 := by
      intro w hw
      split at hw
      · cases hw
      · exact wtA_le hc hb hw
    cases h1 : (if fl s n = 1 then none else wtA s n k p f) with
    | none =>
      rw [h1] at h
      exact clN_le hc hb h
    | some w =>
      rw [h1] at h
      cases h2 : clN s k p f n with
      | none =>
        rw [h2] at h
        cases h
        exact hw _ h1
      | some u =>
        rw [h2] at h
        have h3 := clN_le hc hb h2
        have h4 := hw _ h1
        simp only [Option.some.injEq] at h
        split at h <;> omega
theorem c8_cleared {k p f : Nat} (hM : MR s G) (hW : WF3 s) (hk1 : 1 ≤ k) (hk : k < kn s) (hp : p ≤ 16) (hf : f ≤ 1000) (h : P (oI (clN s k p f (kn s))) G) : CTi kX8_cleared [.ref 49, .int (nI k), .int (nI p), .int (nI f)] G P := by
  obtain ⟨hWn, hWc, hWb⟩ := id hW
  have hkn := hWn.2.1
  refine vX8_cleared _ _ _ _ G ?_
  have key : ∀ n b : Nat, b + n = kn s → 1 ≤ b → zJ kX8_cleared (fun r G' => ∃ x, r = some (.int x) ∧ P x G') 6 [(0, .ref 49), (1, .int (nI k)), (2, .int (nI p)), (3, .int (nI f)), (4, .int (oI (clN s k p f b))), (5, .int (nI b))] [] G := by
    intro n
    induction n with
    | zero =>
      intro b hb hb1
      refine vX8_cleared_6 _ _ _ _ _ _ G ⟨fun _ => ⟨_, rfl, ?_⟩, fun h1 => ?_⟩
      · rw [Nat.add_zero] at hb
        rw [hb]
        exact h
      · rw [hM.1] at h1
        exact absurd (nI_le (by omega) (by omega)) h1
    | succ n ih =>
      intro b hb hb1
      have hb31 : b < 2 ^ 31 := by omega
      have hcl : ∀ t, clN s k p f b = some t → t < 2 ^ 31 := fun t ht => by have := clN_le hWc hWb ht; omega
      have hwl : ∀ t, wtA s b k p f = some t → t < 2 ^ 31 := fun t ht => by have := wtA_le hWc hWb ht; omega
      have step : ∀ w : Option Nat, w = (if fl s b = 1 then none else wtA s b k p f) → (∀ t, w = some t → t < 2 ^ 31) → zJ kX8_cleared (fun r G' => ∃ x, r = some (.int x) ∧ P x G') 38 [(0, .ref 49), (1, .int (nI k)), (2, .int (nI p)), (3, .int (nI f)), (4, .int (oI (clN s k p f b))), (5, .int (nI b))] [.int (oI w)] G := by
        intro w ew hwl
        have hih := ih (b + 1) (by omega) (by omega)
        rw [clN, ← ew] at hih
        refine vX8_cleared_38 _ _ _ _ _ _ _ G ?_
        rw [nI_1]
        cases w with
        | none =>
          refine ⟨fun _ => hih, fun h1 => absurd h1 ?_⟩
          rw [oI_lt (by simp)]
          simp
        | some w =>
          have hw := hwl w rfl
          refine ⟨fun h1 => absurd h1 ?_, fun _ => ⟨fun h2 => ?_, fun h2 => ⟨fun h3 => ?_, fun h3 => ?_⟩⟩⟩
          · rw [oI_lt hwl]
            simp
          · rw [oI_lt hcl] at h2
            rw [h2] at hih
            exact hih
          · rw [oI_lt hcl] at h2
            obtain ⟨t, ht⟩ := Option.ne_none_iff_exists'.mp h2
            rw [ht] at h3 hih ⊢
            have htt := hcl t ht
            rw [show oI (some t) ≤ oI (some w) ↔ t ≤ w from nI_leI htt hw] at h3
            have e : (if w < t then w else t) = t := by rw [if_neg (by omega)]
            simp only [e] at hih
            exact hih
          · rw [oI_lt hcl] at h2
            obtain ⟨t, ht⟩ := Option.ne_none_iff_exists'.mp h2
            rw [ht] at h3 hih
            have htt := hcl t ht
            rw [show oI (some t) ≤ oI (some w) ↔ t ≤ w from nI_leI htt hw] at h3
            have e : (if w < t then w else t) = w := by rw [if_pos (by omega)]
            simp only [e] at hih
            exact hih
      refine vX8_cleared_6 _ _ _ _ _ _ G ⟨fun h1 => ?_, fun h1 => ⟨vp_in_nI (by omega) (by omega), fun h2 => ?_, fun h2 => ?_⟩⟩
      · rw [hM.1] at h1
        exact absurd h1 (nI_ge (by omega) (by omega))
      · rw [nI_c hb31, hM.q60] at h2
        refine c8_waitAt hM hW hb1 (by omega) hk1 hk hp hf (step _ ?_ hwl)
        rw [if_neg]
        intro h3
        rw [h3] at h2
        exact absurd h2 (by decide)
      · rw [nI_c hb31, hM.q60] at h2
        refine step none ?_ (by simp)
        rw [if_pos]
        have h3 := (hWb.1 b).2.1
        have : fl s b ≠ 0 := fun h0 => h2 (by rw [h0]; rfl)
        omega
  have e1 : clN s k p f 1 = none := by
    rw [clN]
    split
    · rfl
    · next w hw =>
      split at hw
      · cases hw
      · rw [wtA_0] at hw; cases hw
  have := key (kn s - 1) 1 (by omega) (by omega)
  rw [e1] at this
  exact this
end M2
