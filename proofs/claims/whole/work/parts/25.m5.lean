/-! what the readers rest on -/
def sEq (s s' : NN) : Prop := (∀ j, j ≠ 17 → j ≠ 19 → j ≠ 23 → s' 49 j = s 49 j) ∧ ∀ p, 50 ≤ p → p ≤ 60 → s' p = s p
theorem way_cg {s s' : NN} (h : s' 50 = s 50) : ∀ k, way s' k = way s k := by
  intro k
  induction k using Nat.strongRecOn with
  | ind k ih =>
    cases k with
    | zero => rw [way_0, way_0]
    | succ k =>
      rw [way, way]
      have e : fr s' (k + 1) = fr s (k + 1) := by unfold fr; rw [h]
      rw [e, ih _ (by omega)]
theorem abv_cg {s s' : NN} (h : sEq s s') (k : Nat) : abv s' k = abv s k := by
  unfold abv
  have e : fr s' k = fr s k := by unfold fr; rw [h.2 50 (by omega) (by omega)]
  have e2 : bY s' = bY s := by funext j; unfold bY; rw [h.2 51 (by omega) (by omega)]
  rw [e, e2, way_cg (h.2 50 (by omega) (by omega))]
theorem smN_cg {s s' : NN} (h : sEq s s') (k p f : Nat) : smN s' k p f = smN s k p f := by
  unfold smN
  have e2 : bY s' k = bY s k := by unfold bY; rw [h.2 51 (by omega) (by omega)]
  rw [abv_cg h, e2, show rs s' = rs s from h.1 2 (by omega) (by omega) (by omega)]
theorem lastC_cg {s s' : NN} (h : s' 54 = s 54) {c q o u : Nat} : ∀ n, lastC s' c q o u n = lastC s c q o u n
  | 0 => rfl
  | n + 1 => by
    have e : mu s' c n = mu s c n := by unfold mu; rw [h]
    unfold lastC
    rw [e, lastC_cg h n]
theorem crn_cg {s s' : NN} (h : sEq s s') (b o u : Nat) : crn s' b o u = crn s b o u := by
  unfold crn
  have e1 : cu s' b = cu s b := by unfold cu; rw [h.2 57 (by omega) (by omega)]
  have e2 : pk s' b = pk s b := by unfold pk; rw [h.2 59 (by omega) (by omega)]
  have e3 : cn s' = cn s := by funext j; unfold cn; rw [h.2 53 (by omega) (by omega)]
  rw [e1, e2, e3, lastC_cg (h.2 54 (by omega) (by omega))]
theorem wtB_cg {s s' : NN} (h : sEq s s') (b o u : Nat) : wtB s' b o u = wtB s b o u := by
  unfold wtB
  have e1 : cu s' b = cu s b := by unfold cu; rw [h.2 57 (by omega) (by omega)]
  have e2 : dl s' b = dl s b := by unfold dl; rw [h.2 58 (by omega) (by omega)]
  have e3 : tk s' = tk s := by funext c j; unfold tk; rw [h.2 55 (by omega) (by omega)]
  rw [crn_cg h, e1, e2, e3]
theorem wtA_cg {s s' : NN} (h : sEq s s') (b k p f : Nat) : wtA s' b k p f = wtA s b k p f := by
  unfold wtA
  have e1 : hs s' b = hs s b := by unfold hs; rw [h.2 56 (by omega) (by omega)]
  rw [e1, wtB_cg h, smN_cg h, way_cg (h.2 50 (by omega) (by omega)), show fo s' = fo s from h.1 1 (by omega) (by omega) (by omega)]
theorem WF.n {s : NN} (h : WF s) : WFn s := h.1
theorem WF.c {s : NN} (h : WF s) : WFc s := h.2.1
theorem WF.b {s : NN} (h : WF s) : WFb s := h.2.2.1
theorem WF.r {s : NN} (h : WF s) : WFr s := h.2.2.2
/-! run -/
def opN (s : NN) (k p f j : Nat) : Nat := match clN s k p f (kn s) with
  | none => 0
  | some t => if fl s j ≠ 1 ∧ wtA s j k p f = some t then 1 else 0
def dkN (s : NN) (k p f j : Nat) : Nat := if ∃ x ∈ way s j, opN s k p f x = 1 then 1 else 0
def rnN (s : NN) (k p f n : Nat) : NN := fun q j => if q = 62 ∧ j < n then opN s k p f j else if q = 63 ∧ j < n then dkN s k p f j else if q = 49 ∧ j = 19 then 1 else s q j
def nRun (s : NN) (k p f : Int32) : NN := rnN s (cl k) (cl p) (cl f) (kn s)
theorem opN_01 {s : NN} {k p f j : Nat} : opN s k p f j = 0 ∨ opN s k p f j = 1 := by
  unfold opN
  split
  · exact Or.inl rfl
  · split
    · exact Or.inr rfl
    · exact Or.inl rfl
theorem dkN_0 {s : NN} {k p f : Nat} : dkN s k p f 0 = 0 := by
  unfold dkN
  rw [way_0]
  simp
theorem dkN_s {s : NN} {k p f j : Nat} (h : fr s j < j) : dkN s k p f j = if opN s k p f j = 1 ∨ dkN s k p f (fr s j) = 1 then 1 else 0 := by
  have e : (∃ x ∈ way s j, opN s k p f x = 1) ↔ (opN s k p f j = 1 ∨ dkN s k p f (fr s j) = 1) := by
    rw [way_s h]
    unfold dkN
    simp only [List.mem_cons, exists_eq_or_imp]
    by_cases h2 : ∃ x ∈ way s (fr s j), opN s k p f x = 1
    · simp [h2]
    · simp [h2]
  rw [dkN]
  simp only [e]
theorem dkN_01 {s : NN} {k p f j : Nat} : dkN s k p f j = 0 ∨ dkN s k p f j = 1 := by
  unfold dkN
  split
  · exact Or.inr rfl
  · exact Or.inl rfl
theorem rnN_eq {s : NN} {k p f n : Nat} : sEq s (rnN s k p f n) := by
  refine ⟨fun j _ h _ => ?_, fun q h1 h2 => ?_⟩
  · unfold rnN
    rw [if_neg (by omega), if_neg (by omega), if_neg (by omega)]
  · funext j
    unfold rnN
    rw [if_neg (by omega), if_neg (by omega), if_neg (by omega)]
theorem rnN_s {s : NN} {k p f n : Nat} : sU (sU (rnN s k p f n) 62 n (opN s k p f n)) 63 n (dkN s k p f n) = rnN s k p f (n + 1) := by
  funext q j
  rw [sU_at]
  by_cases h1 : q = 63 ∧ j = n
  · rw [if_pos h1]
    obtain ⟨rfl, rfl⟩ := h1
    unfold rnN
    rw [if_neg (by omega), if_pos (by omega)]
  · rw [if_neg h1, sU_at]
    by_cases h2 : q = 62 ∧ j = n
    · rw [if_pos h2]
      obtain ⟨rfl, rfl⟩ := h2
      unfold rnN
      rw [if_pos (by omega)]
    · rw [if_neg h2]
      unfold rnN
      have e1 : (q = 62 ∧ j < n) ↔ (q = 62 ∧ j < n + 1) := by omega
      have e2 : (q = 63 ∧ j < n) ↔ (q = 63 ∧ j < n + 1) := by omega
      simp only [e1, e2]
theorem nI01 {n : Nat} (h : n = 0 ∨ n = 1) : vp_nar .boolean (nI n) = nI n := by
  rcases h with rfl | rfl <;> rfl
theorem clN_cg {s s' : NN} (h : sEq s s') (k p f : Nat) : ∀ n, clN s' k p f n = clN s k p f n
  | 0 => rfl
  | n + 1 => by
    have e1 : fl s' n = fl s n := by unfold fl; rw [h.2 60 (by omega) (by omega)]
    unfold clN
    rw [e1, wtA_cg h, clN_cg h k p f n]
theorem WF_cg {s s' : NN} (h : sEq s s') (hs : WF3 s) (h61 : s' 61 = s 61) : WF3 s' := by
  obtain ⟨hn, hc, hb⟩ := hs
  have e50 := h.2 50 (by omega) (by omega); have e51 := h.2 51 (by omega) (by omega); have e52 := h.2 52 (by omega) (by omega)
  have e53 := h.2 53 (by omega) (by omega); have e54 := h.2 54 (by omega) (by omega); have e55 := h.2 55 (by omega) (by omega)
  have e56 := h.2 56 (by omega) (by omega); have e57 := h.2 57 (by omega) (by omega); have e58 := h.2 58 (by omega) (by omega)
  have e59 := h.2 59 (by omega) (by omega); have e60 := h.2 60 (by omega) (by omega)
  have k0 := h.1 0 (by omega) (by omega) (by omega); have k1 := h.1 1 (by omega) (by omega) (by omega); have k2 := h.1 2 (by omega) (by omega) (by omega)
  refine ⟨?_, ?_, ?_⟩
  · unfold WFn kn fo rs fr bY ld at *
    rw [k0, k1, k2, e50, e51, e52]
    exact hn
  · unfold WFc cn mu tk at *
    rw [e53, e54, e55]
    exact hc
  · unfold WFb kn at *
    unfold hs fl cu dl pk go at *
    rw [k0, e56, e57, e58, e59, e60, h61]; exact hb
section M5
variable {s : NN} {G : GG} {P : Int32 → GG → Prop} {PL : Int64 → GG → Prop}
theorem c8_run {k p f : Int32} (hM : MR s G) (hW : WF s) (hy : ftP s k p f → ∀ G', MR (nRun s k p f) G' → sLo G G' → P (oI (clN s (cl k) (cl p) (cl f) (kn s))) G') (hn : ¬ ftP s k p f → P (-1) G) : CTi kX8_run [.ref 49, .int k, .int p, .int f] G P := by
  have hWn := hW.n
  have hkn := hWn.2.1
  refine vX8_run _ _ _ _ G (c8_isFault hM hWn (bI_rb (fun hc => ?_) (fun hc => ⟨_, rfl, hn hc⟩)))
  obtain ⟨a, b, c, a1, a2, b2, c2, rfl, rfl, rfl⟩ := ftP_n hc hkn
  have ea : cl (nI a) = a := nI_c (by omega)
  have eb : cl (nI b) = b := nI_c (by omega)
  have ec : cl (nI c) = c := nI_c (by omega)
  have hy := hy hc
  unfold nRun at hy
  rw [ea, eb, ec] at hy
  refine c8_cleared hM hW.w a1 a2 b2 c2 ?_
  have key : ∀ n j : Nat, j + n = kn s → ∀ G1, MR (rnN s a b c j) G1 → sLo G G1 → zJ kX8_run (fun r G' => ∃ x, r = some (.int x) ∧ P x G') 29 [(0, .ref 49), (1, .int (nI a)), (2, .int (nI b)), (3, .int (nI c)), (4, .int (oI (clN s a b c (kn s)))), (5, .int (nI j))] [] G1 := by
    intro n
    induction n with
    | zero =>
      intro j hj G1 hM1 hL
      refine vX8_run_29 _ _ _ _ _ _ G1 ⟨fun _ => ⟨_, rfl, ?_⟩, fun h1 => ?_⟩
      · rw [Nat.add_zero] at hj
        rw [hj] at hM1
        exact hy G1 hM1 hL
      · rw [hM1.1, show kn (rnN s a b c j) = kn s from rnN_eq.1 0 (by omega) (by omega) (by omega)] at h1
        exact absurd (nI_le (by omega) (by omega)) h1
    | succ n ih =>
      intro j hj G1 hM1 hL
      have hj31 : j < 2 ^ 31 := by omega
      have ekn : kn (rnN s a b c j) = kn s := rnN_eq.1 0 (by omega) (by omega) (by omega)
      have hin : vp_in (nI j) 30 := vp_in_nI (by omega) (by omega)
      have hcl : ∀ t, clN s a b c (kn s) = some t → t < 2 ^ 31 := fun t ht => by have := clN_le hW.c hW.b ht; omega
      have hih := ih (j + 1) (by omega)
      have s83 : ∀ o : Nat, o = opN s a b c j → zJ kX8_run (fun r G' => ∃ x, r = some (.int x) ∧ P x G') 83 [(0, .ref 49), (1, .int (nI a)), (2, .int (nI b)), (3, .int (nI c)), (4, .int (oI (clN s a b c (kn s)))), (5, .int (nI j))] [.int (nI o), .int (nI j), .ref 62] G1 := by
        intro o ho
        have ho1 : o = 0 ∨ o = 1 := by rw [ho]; exact opN_01
        have fin : ∀ d : Nat, d = dkN s a b c j → zJ kX8_run (fun r G' => ∃ x, r = some (.int x) ∧ P x G') 29 [(0, .ref 49), (1, .int (nI a)), (2, .int (nI b)), (3, .int (nI c)), (4, .int (oI (clN s a b c (kn s)))), (5, .int (nI j + 1))] [] (gU (gU G1 62 j (nI o)) 63 j (nI d)) := by
          intro d hd
          rw [nI_1]
          refine hih _ ?_ ((hL.u (by omega)).u (by omega))
          have := (hM1.set (p := 62) j o (by omega) (by omega) (by omega)).set (p := 63) j d (by omega) (by omega) (by omega)
          rw [ho, hd, rnN_s] at this
          rw [ho, hd]
          exact this
        refine vX8_run_83 _ _ _ _ _ _ _ _ G1 ⟨hin, nI01 ho1, ?_⟩
        rw [nI_c hj31, nI_le0 hj31, gU_s, gU_n (q := 50) (by omega), hM1.q50]
        have efr : fr (rnN s a b c j) j = fr s j := by unfold fr; rw [rnN_eq.2 50 (by omega) (by omega)]
        rw [efr]
        have e0 : nI o = 0 ↔ o = 0 := by rw [show (0 : Int32) = nI 0 from rfl, nI_eq (by omega) (by omega)]
        rw [e0]
        refine ⟨fun h0 => ⟨hin, ?_⟩, fun h0 => ?_⟩
        · subst h0
          exact fin 0 dkN_0.symm
        · have hf := (hWn.2.2.2.2.2.2.1 j (by omega) (by omega)).1
          have ed := dkN_s (k := a) (p := b) (f := c) hf
          refine ⟨hin, fun h1 => ⟨hin, fin 1 ?_⟩, fun h1 => ⟨hin, vp_in_nI (by omega) (by omega), ?_⟩⟩
          · rw [ed, if_pos (Or.inl (by omega))]
          · rw [nI_c (show fr s j < 2 ^ 31 by omega), gU_n (q := 63) (by omega), hM1.q63]
            have e63 : dk (rnN s a b c j) (fr s j) = dkN s a b c (fr s j) := by
              show rnN s a b c j 63 (fr s j) = _
              unfold rnN
              rw [if_neg (by omega), if_pos ⟨rfl, hf⟩]
            rw [e63, show (0 : Int32) = nI 0 from rfl, nI_eq (by rcases dkN_01 (s := s) (k := a) (p := b) (f := c) (j := fr s j) with h | h <;> omega) (by omega)]
            refine ⟨fun h2 => ⟨hin, fin 0 ?_⟩, fun h2 => ⟨hin, fin 1 ?_⟩⟩
            · rw [ed, if_neg (by omega)]
            · rw [ed, if_pos (Or.inr (by rcases dkN_01 (s := s) (k := a) (p := b) (f := c) (j := fr s j) with h | h <;> omega))]
      have s82 : opN s a b c j = 0 → zJ kX8_run (fun r G' => ∃ x, r = some (.int x) ∧ P x G') 82 [(0, .ref 49), (1, .int (nI a)), (2, .int (nI b)), (3, .int (nI c)), (4, .int (oI (clN s a b c (kn s)))), (5, .int (nI j))] [.int (nI j), .ref 62] G1 := fun h0 => vX8_run_82 _ _ _ _ _ _ _ G1 (s83 0 h0.symm)
      refine vX8_run_29 _ _ _ _ _ _ G1 ⟨fun h1 => ?_, fun _ => ⟨fun h1 => s82 ?_, fun h1 => ⟨fun h2 => s82 ?_, fun h2 => ⟨hin, fun h3 => s82 ?_, fun h3 => ?_⟩⟩⟩⟩
      · rw [hM1.1, ekn] at h1
        exact absurd h1 (nI_ge (by omega) (by omega))
      · rw [nI_le0 hj31] at h1
        subst h1
        unfold opN
        split
        · rfl
        · rw [if_neg]
          rw [wtA_0]
          simp
      · rw [oI_lt hcl] at h2
        unfold opN
        rw [h2]
      · rw [nI_c hj31, hM1.q60] at h3
        have efl : fl (rnN s a b c j) j = fl s j := by unfold fl; rw [rnN_eq.2 60 (by omega) (by omega)]
        rw [efl] at h3
        have : fl s j = 1 := by
          have := (hW.b.1 j).2.1
          have : fl s j ≠ 0 := fun h0 => h3 (by rw [h0]; rfl)
          omega
        unfold opN
        split
        · rfl
        · rw [if_neg (fun q => q.1 this)]
      · rw [nI_le0 hj31] at h1
        rw [nI_c hj31, hM1.q60] at h3
        have efl : fl (rnN s a b c j) j = fl s j := by unfold fl; rw [rnN_eq.2 60 (by omega) (by omega)]
        rw [efl] at h3
        have hfl : fl s j ≠ 1 := fun h0 => by rw [h0] at h3; exact absurd h3 (by decide)
        have hW3 : WF3 (rnN s a b c j) := WF_cg rnN_eq hW.w (by funext i; unfold rnN; rw [if_neg (by omega), if_neg (by omega), if_neg (by omega)])
        refine c8_waitAt hM1 hW3 (by omega) (by omega) a1 (by rw [ekn]; exact a2) b2 c2 ?_
        rw [wtA_cg rnN_eq]
        obtain ⟨t, ht⟩ : ∃ t, clN s a b c (kn s) = some t := by
          rw [oI_lt hcl] at h2
          exact Option.ne_none_iff_exists'.mp h2
        have ew : oI (wtA s j a b c) = oI (clN s a b c (kn s)) ↔ wtA s j a b c = some t := by
          rw [ht]
          cases hw : wtA s j a b c with
          | none =>
            have := nI_pos' (hcl t ht)
            constructor
            · intro h
              have h : (-1 : Int32) = nI t := h
              rw [← h] at this
              exact absurd this (by decide)
            · intro h; cases h
          | some w =>
            have h1 := wtA_le hW.c hW.b hw
            have h2 := hcl t ht
            show nI w = nI t ↔ _
            rw [nI_eq (by omega) h2]
            simp
        rw [ew]
        refine ⟨fun h4 => s82 ?_, fun h4 => s83 1 ?_⟩
        · unfold opN
          rw [ht]
          exact if_neg (fun q => h4 q.2)
        · unfold opN
          rw [ht]
          exact (if_pos ⟨hfl, h4⟩).symm
  refine key (kn s) 0 (by omega) _ ?_ (sLo.rf.u (by omega))
  have := hM.set9 19 1
  have e : sU s 49 19 1 = rnN s a b c 0 := by
    funext q i
    rw [sU_at]
    unfold rnN
    rw [if_neg (show ¬ (q = 62 ∧ i < 0) by omega), if_neg (show ¬ (q = 63 ∧ i < 0) by omega)]
  rw [e] at this
  exact this
end M5
