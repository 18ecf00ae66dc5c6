theorem bI_c {c d : Prop} [Decidable c] [Decidable d] (h : c ↔ d) : bI (decide c) = bI (decide d) := by
  by_cases hc : c
  · rw [bI_y hc, bI_y (h.mp hc)]
  · rw [bI_n hc, bI_n (fun x => hc (h.mpr x))]
theorem i1_int : (1 : Int32).toInt = 1 := by decide
theorem lnP_n {s : NN} {v : Int32} (h : lnP s v) (hw : kn s ≤ 30) : ∃ k, 1 ≤ k ∧ k < kn s ∧ v = nI k := by
  obtain ⟨h1, h2⟩ := h
  refine ⟨v.toNatClampNeg, ?_, ?_, nI_self (by omega)⟩ <;> have := toInt_c (x := v) (by omega) <;> omega
theorem ktP_n {s : NN} {v : Int32} (h : ktP s v) (hw : kn s ≤ 30) : ∃ k, k < kn s ∧ v = nI k := by
  obtain ⟨h1, h2⟩ := h
  refine ⟨v.toNatClampNeg, ?_, nI_self (by omega)⟩ ; have := toInt_c (x := v) (by omega); omega
theorem inR_n {v : Int32} {a b : Nat} (h1 : (a : Int) ≤ v.toInt) (h2 : v.toInt ≤ (b : Int)) : ∃ k, a ≤ k ∧ k ≤ b ∧ v = nI k := by
  refine ⟨v.toNatClampNeg, ?_, ?_, nI_self (by omega)⟩ <;> have := toInt_c (x := v) (by omega) <;> omega
theorem nI_p1 {n : Nat} (h : 1 ≤ n) : nI n - 1 = nI (n - 1) := by
  obtain ⟨m, rfl⟩ : ∃ m, n = m + 1 := ⟨n - 1, by omega⟩
  rw [nI_pred]
  rfl
theorem MR.at {s : NN} {G : GG} {p : Nat} (hM : MR s G) (h1 : 50 ≤ p) (h2 : p ≤ 64) (h3 : p ≠ 61) (k : Nat) : G p k = nI (s p k) := hM.2.2.2.2.2.2.2.2.2.1 p h1 h2 h3 k
theorem MR.q50 {s : NN} {G : GG} (hM : MR s G) (k : Nat) : G 50 k = nI (fr s k) := hM.at (p := 50) (by omega) (by omega) (by omega) k
theorem MR.q51 {s : NN} {G : GG} (hM : MR s G) (k : Nat) : G 51 k = nI (bY s k) := hM.at (p := 51) (by omega) (by omega) (by omega) k
theorem MR.q52 {s : NN} {G : GG} (hM : MR s G) (k : Nat) : G 52 k = nI (ld s k) := hM.at (p := 52) (by omega) (by omega) (by omega) k
theorem MR.q53 {s : NN} {G : GG} (hM : MR s G) (k : Nat) : G 53 k = nI (cn s k) := hM.at (p := 53) (by omega) (by omega) (by omega) k
theorem MR.q56 {s : NN} {G : GG} (hM : MR s G) (k : Nat) : G 56 k = nI (hs s k) := hM.at (p := 56) (by omega) (by omega) (by omega) k
theorem MR.q57 {s : NN} {G : GG} (hM : MR s G) (k : Nat) : G 57 k = nI (cu s k) := hM.at (p := 57) (by omega) (by omega) (by omega) k
theorem MR.q58 {s : NN} {G : GG} (hM : MR s G) (k : Nat) : G 58 k = nI (dl s k) := hM.at (p := 58) (by omega) (by omega) (by omega) k
theorem MR.q59 {s : NN} {G : GG} (hM : MR s G) (k : Nat) : G 59 k = nI (pk s k) := hM.at (p := 59) (by omega) (by omega) (by omega) k
theorem MR.q60 {s : NN} {G : GG} (hM : MR s G) (k : Nat) : G 60 k = nI (fl s k) := hM.at (p := 60) (by omega) (by omega) (by omega) k
theorem MR.q62 {s : NN} {G : GG} (hM : MR s G) (k : Nat) : G 62 k = nI (op s k) := hM.at (p := 62) (by omega) (by omega) (by omega) k
theorem MR.q63 {s : NN} {G : GG} (hM : MR s G) (k : Nat) : G 63 k = nI (dk s k) := hM.at (p := 63) (by omega) (by omega) (by omega) k
theorem MR.q64 {s : NN} {G : GG} (hM : MR s G) (k : Nat) : G 64 k = nI (st s k) := hM.at (p := 64) (by omega) (by omega) (by omega) k
theorem MR.q54 {s : NN} {G : GG} (hM : MR s G) (c j : Nat) : G 54 (8 * c + j) = nI (mu s c j) := hM.at (p := 54) (by omega) (by omega) (by omega) _
theorem MR.q55 {s : NN} {G : GG} (hM : MR s G) (c j : Nat) : G 55 (8 * c + j) = nI (tk s c j) := hM.at (p := 55) (by omega) (by omega) (by omega) _
theorem MR.q61 {s : NN} {G : GG} (hM : MR s G) (k : Nat) : G 61 k = gN (go s k) := hM.2.2.2.2.2.2.2.2.2.2 k
section M1
variable {s : NN} {G : GG} {P : Int32 → GG → Prop} {PL : Int64 → GG → Prop}
theorem c8_isLine {v : Int32} (hM : MR s G) (hW : WFn s) (h : P (bI (decide (lnP s v))) G) : CTi kX8_isLine [.ref 49, .int v] G P := by
  refine vX8_isLine _ v G (c8_isIn ⟨bI_bo _, _, rfl, ?_⟩)
  rw [hM.1, nI_p1 hW.1, bI_c (d := lnP s v)]
  · exact h
  · rw [Ile, Ile, nI_toInt (by have := hW.2.1; omega), i1_int]
    unfold lnP
    have := hW.1
    omega
theorem c8_isBreaker {v : Int32} (hM : MR s G) (hW : WFn s) (hb : WFb s) (h : P (bI (decide (0 ≤ v.toInt ∧ hs s v.toNatClampNeg = 1))) G) : CTi kX8_isBreaker [.ref 49, .int v] G P := by
  refine vX8_isBreaker _ v G (c8_isLine hM hW (bI_br (fun hc => ⟨_, rfl, ?_⟩) (fun hc => ?_)))
  · rw [bI_n] at h
    · exact h
    · rintro ⟨h0, h1⟩
      have := hb.2.1 _ h1
      apply hc
      unfold lnP
      have := toInt_c h0
      omega
  · obtain ⟨k, hk1, hk2, rfl⟩ := lnP_n hc hW.2.1
    have hk3 : k < 30 := by have := hW.2.1; omega
    have hk4 : k < 2 ^ 31 := by omega
    have e : G 56 (nI k).toNatClampNeg = nI (hs s k) := by
      rw [nI_c hk4]
      exact hM.q56 k
    rw [nI_c hk4, nI_toInt hk4] at h
    have hb1 := (hb.1 k).1
    refine ⟨vp_in_nI hk3 (by omega), fun h1 => ⟨_, rfl, ?_⟩, fun h1 => ⟨_, rfl, ?_⟩⟩
    · rw [e] at h1
      rw [bI_n] at h
      · exact h
      · rintro ⟨-, h2⟩
        rw [h2] at h1
        exact absurd h1 (by decide)
    · rw [e] at h1
      rw [bI_y] at h
      · exact h
      · refine ⟨by omega, ?_⟩
        have : hs s k ≠ 0 := fun h2 => h1 (by rw [h2]; rfl)
        omega
theorem c8_isFault {k p f : Int32} (hM : MR s G) (hW : WFn s) (h : P (bI (decide (ftP s k p f))) G) : CTi kX8_isFault [.ref 49, .int k, .int p, .int f] G P := by
  have h16 : (16 : Int32).toInt = 16 := by decide
  have h0 : (0 : Int32).toInt = 0 := by decide
  have h1000 : (1000 : Int32).toInt = 1000 := by decide
  refine vX8_isFault _ k p f G (c8_isLine hM hW (bI_br (fun hc => ⟨_, rfl, ?_⟩) (fun hc => c8_isIn (bI_br (fun hc2 => ⟨_, rfl, ?_⟩) (fun hc2 => c8_isIn (bI_br (fun hc3 => ⟨_, rfl, ?_⟩) (fun hc3 => ⟨_, rfl, ?_⟩)))))))
  · rw [bI_n (fun q => hc q.1)] at h
    exact h
  · rw [Ile, Ile, h16, h0] at hc2
    rw [bI_n (fun q => hc2 q.2.1)] at h
    exact h
  · rw [Ile, Ile, h1000, h0] at hc3
    rw [bI_n (fun q => hc3 q.2.2)] at h
    exact h
  · rw [Ile, Ile, h16, h0] at hc2
    rw [Ile, Ile, h1000, h0] at hc3
    rw [bI_y ⟨hc, hc2, hc3⟩] at h
    exact h
theorem c8_isOnWay {b k : Nat} (hM : MR s G) (hW : WFn s) (hb0 : 1 ≤ b) (hb : b < 30) (hk : k < kn s) (h : P (bI (decide (b ∈ way s k))) G) : CTi kX8_isOnWay [.ref 49, .int (nI b), .int (nI k)] G P := by
  refine vX8_isOnWay _ _ _ G ?_
  have hkn := hW.2.1
  revert hk h
  induction k using Nat.strongRecOn with
  | ind k ih =>
    intro hk h
    have hk31 : k < 2 ^ 31 := by omega
    have e0 : nI k ≤ 0 ↔ k = 0 := nI_le0 hk31
    have e1 : nI k = nI b ↔ k = b := nI_eq hk31 (by omega)
    refine vX8_isOnWay_2 _ _ _ G ⟨fun h0 => ?_, fun h0 => ⟨fun h1 => ?_, fun h1 => ⟨vp_in_nI (by omega) (by omega), ?_⟩⟩⟩
    · rw [e0] at h0
      subst h0
      refine vX8_isOnWay_21 _ _ _ G ⟨fun _ => ⟨_, rfl, ?_⟩, fun h1 => absurd (e1.mp h1) (by omega)⟩
      rw [way_0, bI_n (by simp)] at h
      exact h
    · rw [e1] at h1
      subst h1
      refine vX8_isOnWay_21 _ _ _ G ⟨fun h1 => absurd rfl h1, fun _ => ⟨_, rfl, ?_⟩⟩
      rw [bI_y (by rw [way_s (hW.2.2.2.2.2.2.1 k hb0 hk).1]; exact List.mem_cons_self)] at h
      exact h
    · rw [e0] at h0
      rw [e1] at h1
      have hf := (hW.2.2.2.2.2.2.1 k (by omega) hk).1
      rw [nI_c hk31, hM.q50 k]
      refine ih (fr s k) hf (by omega) ?_
      rw [bI_c (d := b ∈ way s k)]
      · exact h
      · rw [way_s hf, List.mem_cons]
        constructor
        · exact Or.inr
        · rintro (h2 | h2)
          · exact absurd h2.symm h1
          · exact h2
theorem nI_lN {n : Nat} (h : n < 2 ^ 31) : (nI n).toInt64 = lN n := nI_l h
theorem wsum_le {s : NN} (hW : WFn s) : ∀ {k : Nat}, k < kn s → ((way s k).map (bY s)).sum ≤ 1000 * k := by
  intro k
  induction k using Nat.strongRecOn with
  | ind k ih =>
    intro hk
    rcases Nat.eq_zero_or_pos k with rfl | hp
    · rw [way_0]; simp
    · have hf := hW.2.2.2.2.2.2.1 k hp hk
      rw [way_s hf.1, List.map_cons, List.sum_cons]
      have := ih _ hf.1 (by omega)
      have : fr s k + 1 ≤ k := hf.1
      omega
theorem abv_le {s : NN} {k : Nat} (hW : WFn s) (hk : k < kn s) : abv s k ≤ 30000 := by
  unfold abv
  have hkn := hW.2.1
  rcases Nat.eq_zero_or_pos k with rfl | hp
  · rw [hW.2.2.2.2.2.2.2.2.1, way_0]; simp
  · have hf := hW.2.2.2.2.2.2.1 k hp hk
    have := wsum_le hW (k := fr s k) (by omega)
    omega
theorem c8_sum {k p f : Nat} (hM : MR s G) (hW : WFn s) (hk1 : 1 ≤ k) (hk : k < kn s) (hp : p ≤ 16) (hf : f ≤ 1000) (h : PL (lN (smN s k p f)) G) : CTl kX8_sum [.ref 49, .int (nI k), .int (nI p), .int (nI f)] G PL := by
  have hkn := hW.2.1
  have hrs := hW.2.2.2.2.2.1
  have hk31 : k < 2 ^ 31 := by omega
  refine vX8_sum _ _ _ _ G ⟨vp_in_nI (by omega) (by omega), ?_⟩
  rw [nI_c hk31, hM.2.2.1, hM.q50 k, nI_add, nI_lN (by omega)]
  have key : ∀ x v : Nat, x < kn s → v + ((way s x).map (bY s)).sum = rs s + abv s k + f → zJ kX8_sum (fun r G' => ∃ x, r = some (.long x) ∧ PL x G') 17 [(0, .ref 49), (1, .int (nI k)), (2, .int (nI p)), (4, .long (lN v)), (6, .int (nI x))] [] G := by
    intro x
    induction x using Nat.strongRecOn with
    | ind x ih =>
      intro v hx hv
      have hx31 : x < 2 ^ 31 := by omega
      have e0 : nI x ≤ 0 ↔ x = 0 := nI_le0 hx31
      refine vX8_sum_17 _ _ _ _ _ G ⟨fun h0 => ⟨vp_in_nI (by omega) (by omega), _, rfl, ?_⟩, fun h0 => ⟨vp_in_nI (by omega) (by omega), vp_in_nI (by omega) (by omega), ?_⟩⟩
      · rw [e0] at h0
        subst h0
        rw [way_0] at hv
        simp only [List.map_nil, List.sum_nil, Nat.add_zero] at hv
        have hb := (hW.2.2.2.2.2.2.1 k hk1 hk).2
        rw [nI_c hk31, hM.q51 k, nI_lN (by omega), nI_lN (by omega), show (16 : Int64) = lN 16 from rfl, lN_mul, lN_mul, lN_add, hv]
        exact h
      · rw [e0] at h0
        have hfx := hW.2.2.2.2.2.2.1 x (by omega) hx
        rw [nI_c hx31, hM.q51 x, hM.q50 x, nI_lN (by omega), lN_add]
        refine ih _ hfx.1 _ (by omega) ?_
        rw [way_s hfx.1, List.map_cons, List.sum_cons] at hv
        omega
  have hfk := hW.2.2.2.2.2.2.1 k hk1 hk
  refine key (fr s k) (rs s + f) (by omega) ?_
  unfold abv
  omega
end M1
