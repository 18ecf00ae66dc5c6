/-- the class's part that its readers look at -/
def CS (s : NN) (G : GG) : Prop := CNet s G ∧ CRow s G ∧ CCur s G ∧ CRul s G
theorem CR.s {s : NN} {G : GG} (h : CR s G) : CS s G := ⟨h.1, h.2.1, h.2.2.1, h.2.2.2.1⟩
/-- the places of CS are as they were -/
def sC (G G' : GG) : Prop := ∀ p, (1 ≤ p ∧ p ≤ 13) ∨ (25 ≤ p ∧ p ≤ 48) → G' p = G p
theorem sC.rf {G : GG} : sC G G := fun _ _ => rfl
theorem sC.u {G G' : GG} {p k : Nat} {v : Int32} (h : sC G G') (hp : p = 0 ∨ (14 ≤ p ∧ p ≤ 24) ∨ 49 ≤ p) : sC G (gU G' p k v) := fun q hq => (gU_n (by omega)).trans (h q hq)
theorem sC.a {G G' : GG} {p : Nat} {f : Nat → Int32} (h : sC G G') (hp : p = 0 ∨ (14 ≤ p ∧ p ≤ 24) ∨ 49 ≤ p) : sC G (gA G' p f) := fun q hq => (gA_n (by omega)).trans (h q hq)
theorem sC.t {G G' G2 : GG} (h : sC G G') (h2 : sC G' G2) : sC G G2 := fun q hq => (h2 q hq).trans (h q hq)
theorem CNet.fr {s : NN} {G G' : GG} (h : CNet s G) (hf : ∀ p, 1 ≤ p → p ≤ 6 → G' p = G p) : CNet s G' := by
  obtain ⟨a1, a2, a3, a4, a5, a6, a7, a8⟩ := h
  refine ⟨?_, ?_, ?_, ?_, ?_, ?_, ?_, ?_⟩
  · rw [hf 1 (by omega) (by omega)]; exact a1
  · rw [hf 1 (by omega) (by omega)]; exact a2
  · rw [hf 1 (by omega) (by omega)]; exact a3
  · rw [hf 2 (by omega) (by omega)]; exact a4
  · rw [hf 3 (by omega) (by omega)]; exact a5
  · rw [hf 4 (by omega) (by omega)]; exact a6
  · rw [hf 5 (by omega) (by omega)]; exact a7
  · rw [hf 6 (by omega) (by omega)]; exact a8
theorem CRow.fr {s : NN} {G G' : GG} (h : CRow s G) (hf : ∀ p, 7 ≤ p → p ≤ 12 → G' p = G p) : CRow s G' := by
  obtain ⟨a1, a2, a3, a4, a5, a6⟩ := h
  refine ⟨?_, ?_, ?_, ?_, ?_, ?_⟩
  · rw [hf 7 (by omega) (by omega)]; exact a1
  · rw [hf 7 (by omega) (by omega)]; exact a2
  · rw [hf 9 (by omega) (by omega)]; exact a3
  · rw [hf 10 (by omega) (by omega)]; exact a4
  · rw [hf 11 (by omega) (by omega)]; exact a5
  · rw [hf 12 (by omega) (by omega)]; exact a6
theorem CCur.fr {s : NN} {G G' : GG} (h : CCur s G) (hf : ∀ p, 25 ≤ p → p ≤ 48 → G' p = G p) : CCur s G' := by
  intro c hc
  rw [hf (25 + 3 * c) (by omega) (by omega), hf (25 + 3 * c + 1) (by omega) (by omega), hf (25 + 3 * c + 2) (by omega) (by omega)]
  exact h c hc
theorem CRul.fr {s : NN} {G G' : GG} (h : CRul s G) (hf : G' 13 = G 13) : CRul s G' := by
  unfold CRul
  rw [hf]
  exact h
theorem CS.fr {s : NN} {G G' : GG} (h : CS s G) (hf : sC G G') : CS s G' := ⟨h.1.fr fun p h1 h2 => hf p (by omega), h.2.1.fr fun p h1 h2 => hf p (by omega), h.2.2.1.fr fun p h1 h2 => hf p (by omega), h.2.2.2.fr (hf 13 (by omega))⟩
section C2
variable {s : NN} {G : GG} {P : Int32 → GG → Prop} {PL : Int64 → GG → Prop}
theorem c3_isKnot {v : Int32} (hC : CS s G) (hW : WFn s) (h : P (bI (decide (ktP s v))) G) : CTi kX3_isKnot [.ref 1, .int v] G P := by
  have hkn := hW.2.1
  have h0 : (0 : Int32).toInt = 0 := by decide
  refine vX3_isKnot _ _ G ?_
  rw [hC.1.1, Ilt, Ile, nI_toInt (by omega), h0]
  refine ⟨fun h1 => ⟨_, rfl, ?_⟩, fun h1 => ⟨fun h2 => ⟨_, rfl, ?_⟩, fun h2 => ⟨_, rfl, ?_⟩⟩⟩
  · rw [bI_n (by unfold ktP; omega)] at h; exact h
  · rw [bI_n (by unfold ktP; omega)] at h; exact h
  · rw [bI_y (by unfold ktP; omega)] at h; exact h
theorem c3_isLine {v : Int32} (hC : CS s G) (hW : WFn s) (h : P (bI (decide (lnP s v))) G) : CTi kX3_isLine [.ref 1, .int v] G P := by
  have hkn := hW.2.1
  refine vX3_isLine _ _ G ?_
  rw [hC.1.1, Ilt, Ile, nI_toInt (by omega), i1_int]
  refine ⟨fun h1 => ⟨_, rfl, ?_⟩, fun h1 => ⟨fun h2 => ⟨_, rfl, ?_⟩, fun h2 => ⟨_, rfl, ?_⟩⟩⟩
  · rw [bI_n (by unfold lnP; omega)] at h; exact h
  · rw [bI_n (by unfold lnP; omega)] at h; exact h
  · rw [bI_y (by unfold lnP; omega)] at h; exact h
theorem bI_b {b : Bool} {A B : Prop} (ha : b = false → A) (hb : b = true → B) : (bI b = 0 → A) ∧ (¬ bI b = 0 → B) := by
  cases b with
  | true => exact ⟨fun q => absurd q (by decide), fun _ => hb rfl⟩
  | false => exact ⟨fun _ => ha rfl, fun q => absurd rfl q⟩
theorem c3_isOnWay {b k : Int32} (hC : CS s G) (hW : WFn s) (h : P (bI (decide (lnP s b ∧ lnP s k ∧ cl b ∈ way s (cl k)))) G) : CTi kX3_isOnWay [.ref 1, .int b, .int k] G P := by
  have hkn := hW.2.1
  refine vX3_isOnWay _ _ _ G (c3_isLine hC hW (bI_br (fun h1 => ⟨_, rfl, ?_⟩) (fun h1 => c3_isLine hC hW (bI_br (fun h2 => ⟨_, rfl, ?_⟩) (fun h2 => ?_)))))
  · rw [bI_n (fun q => h1 q.1)] at h; exact h
  · rw [bI_n (fun q => h2 q.2.1)] at h; exact h
  · obtain ⟨x, x1, x2, rfl⟩ := lnP_n h1 hkn
    obtain ⟨y, y1, y2, rfl⟩ := lnP_n h2 hkn
    rw [show cl (nI x) = x from nI_c (by omega), show cl (nI y) = y from nI_c (by omega)] at h
    rw [nI_c (by omega)]
    refine ⟨vp_in_nI (by omega) (by omega), c7_holdsN (by omega) ?_⟩
    rw [hC.1.2.2.2.2.2.2.1 y y2 x]
    refine bI_br (fun h3 => ⟨_, rfl, ?_⟩) (fun h3 => ⟨_, rfl, ?_⟩)
    · rw [bI_n (fun q => h3 q.2.2)] at h; exact h
    · rw [bI_y ⟨h1, h2, h3⟩] at h; exact h
theorem c3_isFault {k p f : Int32} (hC : CS s G) (hW : WFn s) (h : P (bI (decide (ftP s k p f))) G) : CTi kX3_isFault [.ref 1, .int k, .int p, .int f] G P := by
  refine vX3_isFault _ k p f G (c3_isLine hC hW (bI_br (fun hc => ⟨_, rfl, ?_⟩) (fun hc => c7_in (a := 0) (b := 16) (by decide) (by decide) (bI_br (fun hc2 => ⟨_, rfl, ?_⟩) (fun hc2 => c7_in (a := 0) (b := 1000) (by decide) (by decide) (bI_br (fun hc3 => ⟨_, rfl, ?_⟩) (fun hc3 => ⟨_, rfl, ?_⟩)))))))
  · rw [bI_n (fun q => hc q.1)] at h; exact h
  · rw [bI_n (fun q => hc2 q.2.1)] at h; exact h
  · rw [bI_n (fun q => hc3 q.2.2)] at h; exact h
  · rw [bI_y ⟨hc, hc2, hc3⟩] at h; exact h
theorem c3_sumOf {k p f : Nat} (hC : CS s G) (hW : WFn s) (hk1 : 1 ≤ k) (hk : k < kn s) (hp : p ≤ 16) (hf : f ≤ 1000) (h : PL (lN (smN s k p f)) G) : CTl kX3_sumOf [.ref 1, .int (nI k), .int (nI p), .int (nI f)] G PL := by
  have hkn := hW.2.1
  have hin : vp_in (nI k) 30 := vp_in_nI (by omega) (by omega)
  have h1 := abv_le hW hk
  have h3 := hW.2.2.2.2.2.1
  have h4 := (hW.2.2.2.2.2.2.1 k hk1 hk).2
  refine vX3_sumOf _ _ _ _ G ⟨hin, hin, _, rfl, ?_⟩
  rw [nI_c (by omega), hC.1.2.2.1, hC.1.2.2.2.2.2.1 k hk, hC.1.2.2.2.2.1 k (by omega), nI_add, nI_add, nI_lN (by omega), nI_lN (by omega), nI_lN (by omega), show (16 : Int64) = lN 16 from rfl, lN_mul, lN_mul, lN_add]
  exact h
theorem c3_six (hC : CS s G) (hW : WFn s) (h : PL (lN (16 * fo s)) G) : CTl kX3_sixteenForces [.ref 1] G PL := by
  have := hW.2.2.2.1
  refine vX3_sixteenForces _ G ⟨_, rfl, ?_⟩
  rw [hC.1.2.1, nI_lN (by omega), show (16 : Int64) = lN 16 from rfl, lN_mul]
  exact h
theorem ldS_lo {k : Nat} : ∀ n, n ≤ k → ldS s k n = 0
  | 0, _ => rfl
  | n + 1, h => by
    rw [ldS, ldS_lo n (by omega), if_neg]
    intro q
    have := way_le q
    omega
theorem c3_cbl {k : Nat} (hC : CS s G) (hW : WFn s) (hk1 : 1 ≤ k) (hk : k < kn s) (h : P (nI (ldS s k (kn s))) G) : CTi kX3_currentByLoads [.ref 1, .int (nI k)] G P := by
  have hkn := hW.2.1
  refine vX3_currentByLoads _ _ G ?_
  have key : ∀ n x : Nat, x + n = kn s → zJ kX3_currentByLoads (fun r G' => ∃ x, r = some (.int x) ∧ P x G') 4 [(0, .ref 1), (1, .int (nI k)), (2, .int (nI (ldS s k x))), (3, .int (nI x))] [] G := by
    intro n
    induction n with
    | zero =>
      intro x hx
      have : x = kn s := by omega
      subst this
      refine vX3_currentByLoads_4 _ _ _ _ G ⟨fun _ => ⟨_, rfl, h⟩, fun h1 => ?_⟩
      rw [hC.1.1] at h1
      exact absurd (nI_le (by omega) (by omega)) h1
    | succ n ih =>
      intro x hx
      have hih := ih (x + 1) (by omega)
      have hin : vp_in (nI x) 30 := vp_in_nI (by omega) (by omega)
      refine vX3_currentByLoads_4 _ _ _ _ G ⟨fun h1 => ?_, fun _ => ⟨hin, ?_⟩⟩
      · rw [hC.1.1] at h1
        exact absurd h1 (nI_ge (by omega) (by omega))
      · rw [nI_c (by omega), nI_1]
        refine c7_holdsN (by omega) ?_
        rw [hC.1.2.2.2.2.2.2.1 x (by omega) k]
        rw [hC.1.2.2.2.2.2.2.2 x (by omega), nI_add]
        refine bI_br (fun h2 => ?_) (fun h2 => ⟨hin, ?_⟩)
        · rw [ldS, if_neg h2] at hih; exact hih
        · rw [ldS, if_pos h2] at hih; exact hih
  have := key (kn s - k) k (by omega)
  rw [ldS_lo k (Nat.le_refl k)] at this
  exact this
theorem c5_isThereN {b : Nat} (hC : CS s G) (hb : b < 30) (h : P (bI (decide (hs s b = 1))) G) : CTi kX5_isThere [.ref 7, .int (nI b)] G P := by
  refine vX5_isThere _ _ G (c7_holdsN hb ⟨bI_bo _, _, rfl, ?_⟩)
  rw [hC.2.1.1 b]
  exact h
theorem c5_isThere {v : Int32} (hC : CS s G) (hW : WFn s) (hb : WFb s) (h : P (bI (decide (0 ≤ v.toInt ∧ hs s (cl v) = 1))) G) : CTi kX5_isThere [.ref 7, .int v] G P := by
  refine vX5_isThere _ _ G (c7_holds ⟨bI_bo _, _, rfl, ?_⟩)
  rw [hC.2.1.1]
  rw [bI_c (d := 0 ≤ v.toInt ∧ hs s (cl v) = 1)]
  · exact h
  · have hkn := hW.2.1
    constructor
    · rintro ⟨h1, h2, h3⟩
      exact ⟨h1, of_decide_eq_true h3⟩
    · rintro ⟨h1, h2⟩
      have := (hb.2.1 _ h2).2.1
      have := toInt_c h1
      exact ⟨h1, by unfold cl at *; omega, decide_eq_true h2⟩
theorem zCvN {c : Nat} (h : c < 8) : zCv (nI c) = 25 + 3 * c := by
  unfold zCv
  rw [nI_c (by omega)]
theorem c0_cr {c q over under : Nat} (hC : CS s G) (hWc : WFc s) (hc : c < 8) (hq : q ≤ 10000) (ho : over ≤ 1000000) (hu : under ≤ 1000000) (h : P (oI (lastC s c q over under (cn s c))) G) : CTi kX0_cornerReached [.ref (zCv (nI c)), .int (nI q), .long (lN over), .long (lN under)] G P := by
  have hin : vp_in (nI c) 8 := vp_in_nI hc (by omega)
  have hcc := hWc c hc
  have hcur := hC.2.2.1 c hc
  refine vX0_cornerReached _ (nI c) hin _ _ _ G ?_
  rw [zCvN hc, hcur.1]
  have key : ∀ n : Nat, n ≤ cn s c → P (oI (lastC s c q over under n)) G → zJ kX0_cornerReached (fun r G' => ∃ x, r = some (.int x) ∧ P x G') 8 [(0, .ref (25 + 3 * c)), (1, .int (nI q)), (2, .long (lN over)), (4, .long (lN under)), (6, .int (nI n - 1))] [] G := by
    intro n
    induction n with
    | zero =>
      intro _ h
      have := vX0_cornerReached_8 (fun r G' => ∃ x, r = some (.int x) ∧ P x G') (nI c) hin (nI q) (lN over) (lN under) (nI 0 - 1) G ⟨fun _ => ⟨_, rfl, h⟩, fun q => absurd (by decide) q⟩
      rw [zCvN hc] at this
      exact this
    | succ n ih =>
      intro hn h
      rw [nI_pred]
      have hn31 : n < 2 ^ 31 := by omega
      have hmu := hcc.2.1 n (by omega)
      have hm1 : q * mu s c n ≤ 10000 * 1000 := Nat.mul_le_mul hq hmu.2.1
      have hm2 : q * mu s c n * under ≤ 10000 * 1000 * 1000000 := Nat.mul_le_mul hm1 hu
      rw [lastC] at h
      have := vX0_cornerReached_8 (fun r G' => ∃ x, r = some (.int x) ∧ P x G') (nI c) hin (nI q) (lN over) (lN under) (nI n) G
      rw [zCvN hc, nI_c hn31, (hcur.2 n (by omega)).1, nI_lN (by omega), nI_lN (by omega), show (10 : Int64) = lN 10 from rfl, lN_mul, lN_mul, lN_mul, lN_r (by omega) (by omega)] at this
      refine this ⟨fun q => absurd q (nI_pos hn31), fun _ => ⟨vp_in_nI (by omega) (by omega), fun h1 => ?_, fun h1 => ⟨_, rfl, ?_⟩⟩⟩
      · rw [if_neg (by omega)] at h
        have := ih (by omega) h
        rw [show nI n - 1 = nI n + (-1 : Int32) from by rw [Int32.sub_eq_add_neg]] at this
        exact this
      · rw [if_pos (by omega)] at h; exact h
  exact key (cn s c) (Nat.le_refl _) h
theorem c5_cr {b over under : Nat} (hC : CS s G) (hW : WF3 s) (hb : b < 30) (ho : over ≤ 1000000) (hu : under ≤ 1000000) (h : P (oI (if hs s b = 1 then crn s b over under else none)) G) : CTi kX5_cornerReached [.ref 7, .int (nI b), .long (lN over), .long (lN under)] G P := by
  have hin : vp_in (nI b) 30 := vp_in_nI hb (by omega)
  have hb31 : b < 2 ^ 31 := by omega
  have hwb := hW.2.2.1 b
  refine vX5_cornerReached _ _ _ _ G (c7_holdsN hb ?_)
  rw [hC.2.1.1 b, nI_c hb31, hC.2.1.2.2.1 b hb, hC.2.1.2.2.2.2.1 b hb]
  refine bI_rb (fun h1 => ⟨hin, vp_in_nI hwb.2.2.1 (by omega), hin, c0_cr hC hW.2.1 hwb.2.2.1 hwb.2.2.2.2.1 ho hu ⟨_, rfl, ?_⟩⟩) (fun h1 => ⟨_, rfl, ?_⟩)
  · rw [if_pos h1] at h; exact h
  · rw [if_neg h1] at h; exact h
theorem c5_wait {b over under : Nat} (hC : CS s G) (hW : WF3 s) (hb : b < 30) (ho : over ≤ 1000000) (hu : under ≤ 1000000) (h : P (oI (if hs s b = 1 then wtB s b over under else none)) G) : CTi kX5_waitAt [.ref 7, .int (nI b), .long (lN over), .long (lN under)] G P := by
  have hin : vp_in (nI b) 30 := vp_in_nI hb (by omega)
  have hb31 : b < 2 ^ 31 := by omega
  have hwb := hW.2.2.1 b
  have hcc := hW.2.1 (cu s b) hwb.2.2.1
  refine vX5_waitAt _ _ _ _ G (c7_holdsN hb ?_)
  rw [hC.2.1.1 b, nI_c hb31, hC.2.1.2.2.1 b hb, hC.2.1.2.2.2.2.1 b hb]
  refine bI_rb (fun h1 => ⟨hin, vp_in_nI hwb.2.2.1 (by omega), hin, c0_cr hC hW.2.1 hwb.2.2.1 hwb.2.2.2.2.1 ho hu ?_⟩) (fun h1 => ⟨_, rfl, ?_⟩)
  · rw [if_pos h1] at h
    unfold wtB crn at h
    cases hl : lastC s (cu s b) (pk s b) over under (cn s (cu s b)) with
    | none =>
      rw [hl] at h
      exact ⟨fun q => absurd rfl q, fun _ => ⟨_, rfl, h⟩⟩
    | some j =>
      rw [hl] at h
      have hj := lastC_lt hl
      have hj8 : j < 8 := by omega
      refine ⟨fun _ => ⟨hin, vp_in_nI hj8 (by omega), _, rfl, ?_⟩, fun q => ?_⟩
      · rw [show (oI (some j)).toNatClampNeg = j from nI_c (by omega), hC.2.1.2.2.2.1 b hb, zCvN hwb.2.2.1, ((hC.2.2.1 (cu s b) hwb.2.2.1).2 j hj8).2, pk_mul]
        exact h
      · have := nI_pos' (show j < 2 ^ 31 by omega)
        have q : nI j = -1 := q
        rw [q] at this
        exact absurd this (by decide)
  · rw [if_neg h1] at h; exact h
theorem c5_ticksAt {b i : Nat} (hC : CS s G) (hWb : WFb s) (hb : b < 30) (hi : i < 8) (h : P (nI (tk s (cu s b) i)) G) : CTi kX5_ticksAt [.ref 7, .int (nI b), .int (nI i)] G P := by
  have hwb := hWb.1 b
  refine vX5_ticksAt _ _ _ G ?_
  rw [nI_c (show b < 2 ^ 31 by omega), nI_c (show i < 2 ^ 31 by omega), hC.2.1.2.2.1 b hb, zCvN hwb.2.2.1, ((hC.2.2.1 (cu s b) hwb.2.2.1).2 i hi).2]
  exact ⟨vp_in_nI hb (by omega), vp_in_nI hwb.2.2.1 (by omega), vp_in_nI hi (by omega), _, rfl, h⟩
theorem c5_lts {b : Nat} (hC : CS s G) (hWb : WFb s) (hWc : WFc s) (hb : b < 30) (h : PL (oL (if hs s b = 1 ∧ cn s (cu s b) ≠ 0 then some (pk s b * mu s (cu s b) 0) else none)) G) : CTl kX5_leastTenthsSeen [.ref 7, .int (nI b)] G PL := by
  have hin : vp_in (nI b) 30 := vp_in_nI hb (by omega)
  have hwb := hWb.1 b
  have hcc := hWc (cu s b) hwb.2.2.1
  have hin8 : vp_in (nI (cu s b)) 8 := vp_in_nI hwb.2.2.1 (by omega)
  refine vX5_leastTenthsSeen _ _ G (c5_isThereN hC hb ?_)
  rw [nI_c (show b < 2 ^ 31 by omega), hC.2.1.2.2.1 b hb, hC.2.1.2.2.2.2.1 b hb, zCvN hwb.2.2.1, (hC.2.2.1 (cu s b) hwb.2.2.1).1, n0_iff (by omega)]
  refine bI_br (fun h1 => ⟨_, rfl, ?_⟩) (fun h1 => ⟨hin, hin8, fun h2 => ⟨hin, hin, hin8, vp_in_nI (n := 0) (by omega) (by omega), _, rfl, ?_⟩, fun h2 => ⟨_, rfl, ?_⟩⟩)
  · rw [if_neg (fun q => h1 q.1)] at h; exact h
  · rw [if_pos ⟨h1, h2⟩] at h
    have hmu := hcc.2.1 0 (by omega)
    rw [show (0 : Int32).toNatClampNeg = 0 from rfl, ((hC.2.2.1 (cu s b) hwb.2.2.1).2 0 (by omega)).1, nI_lN (by omega), nI_lN (by omega), lN_mul]
    exact h
  · rw [if_neg (fun q => q.2 h2)] at h; exact h
theorem c6_many (hC : CS s G) (hr : la s ≤ 1000) (h : P (nI (if la s = 0 then 1 else 2)) G) : CTi kX6_resistancesAsked [.ref 13] G P := by
  refine vX6_resistancesAsked _ G ?_
  rw [hC.2.2.2.2.2, n0_iff (by omega)]
  refine ⟨fun q => ⟨_, rfl, ?_⟩, fun q => ⟨_, rfl, ?_⟩⟩
  · rw [if_neg q] at h; exact h
  · rw [if_pos q] at h; exact h
theorem c6_asked {j : Nat} (hC : CS s G) (hj : j < 2) (h : P (nI (j % 2 * la s)) G) : CTi kX6_resistanceAsked [.ref 13, .int (nI j)] G P := by
  refine vX6_resistanceAsked _ _ G ?_
  rw [hC.2.2.2.2.2, n0_iff (by omega)]
  refine ⟨fun q => ⟨_, rfl, ?_⟩, fun q => ⟨_, rfl, ?_⟩⟩
  · rw [show j = 1 by omega, Nat.one_mul] at h; exact h
  · rw [q, Nat.zero_mul] at h; exact h
/-- the highest of the LINES of x that has a BREAKER; 0: none -/
def isTop (s : NN) (x : Int32) (L : Nat) : Prop := (L = 0 ∧ ∀ b, bt x b = true → ¬ hs s b = 1) ∨ (bt x L = true ∧ hs s L = 1 ∧ ∀ b, L < b → bt x b = true → ¬ hs s b = 1)
theorem c5_lastOf {x : Int32} (hC : CS s G) (hW : WFn s) (hb : WFb s) (h : ∀ L, isTop s x L → P (nI L) G) : CTi kX5_lastOf [.ref 7, .int x] G P := by
  have hkn := hW.2.1
  have hbit : ∀ b, bt (x &&& G 7 1) b = (bt x b && decide (hs s b = 1)) := fun b => by rw [b_and, hC.2.1.1 b]
  have h30 : ∀ b, 30 ≤ b → bt (x &&& G 7 1) b = false := by
    intro b hb30
    rw [hbit, decide_eq_false, Bool.and_false]
    intro q
    have := (hb.2.1 b q).2.1
    omega
  refine vX5_lastOf _ _ G ⟨fun h1 => ?_, fun h1 => ⟨_, rfl, h 0 (Or.inl ⟨rfl, ?_⟩)⟩⟩
  · -- the mask as a number
    have hge : 0 ≤ (x &&& G 7 1).toInt := by
      have := h30 31 (by omega)
      unfold bt at this
      have hm : (x &&& G 7 1).toBitVec.msb = false := by rw [BitVec.msb_eq_getLsbD_last]; exact this
      show 0 ≤ (x &&& G 7 1).toBitVec.toInt
      rw [BitVec.toInt_eq_toNat_of_msb hm]
      omega
    have e := nI_self hge
    obtain ⟨n, hn⟩ : ∃ n, n = (x &&& G 7 1).toNatClampNeg := ⟨_, rfl⟩
    rw [← hn] at e
    have hn31 : n < 2 ^ 31 := by
      have h1 := toInt_c hge
      have h2 := Int32.toInt_lt (x &&& G 7 1)
      omega
    have hn0 : 0 < n := by
      rcases Nat.eq_zero_or_pos n with q | q
      · rw [q] at e; exact absurd e h1
      · exact q
    obtain ⟨L, hL1, hL2⟩ := two_le n hn0
    have htop := top_bit hL1 hL2
    have hLb : bt (x &&& G 7 1) L = true := by
      have hL32 : L < 32 := by
        rcases Nat.lt_or_ge L 31 with q | q
        · omega
        · have : 2 ^ 31 ≤ 2 ^ L := Nat.pow_le_pow_right (by omega) q
          omega
      rw [e, bt_nI, htop.1]
      simp [hL32]
    have hL30 : L < 30 := by
      rcases Nat.lt_or_ge L 30 with q | q
      · exact q
      · rw [h30 L q] at hLb; cases hLb
    rw [e]
    refine c6_nlz hL1 hL2 (by omega) ⟨_, rfl, ?_⟩
    rw [show (31 : Int32) = nI 31 from rfl, pk_sub (by omega), show 31 - (31 - L) = L by omega]
    refine h L (Or.inr ?_)
    rw [hbit, Bool.and_eq_true, decide_eq_true_iff] at hLb
    refine ⟨hLb.1, hLb.2, fun b hbL hbx hh => ?_⟩
    have h2 := htop.2 b hbL
    have h3 : bt (x &&& G 7 1) b = true := by rw [hbit, hbx, decide_eq_true hh]; rfl
    rw [e, bt_nI, h2] at h3
    simp at h3
  · intro b hbx hh
    have h3 : bt (x &&& G 7 1) b = true := by rw [hbit, hbx, decide_eq_true hh]; rfl
    rw [h1, b_0] at h3
    cases h3
end C2
