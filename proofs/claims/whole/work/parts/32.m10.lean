/-- what change() keeps beside the state while it looks -/
def CI (s : NN) (G : GG) : Prop := G 49 30 = nI (on s) ∧ ∀ j, j < on s → G 66 j = nI (oj s j) ∧ G 65 (oj s j) = nI (dl s (oj s j))
section M10
variable {s : NN} {G : GG} {P : Int32 → GG → Prop} {PV : GG → Prop}
theorem oj_30 (hW : WF s) {j : Nat} (h : j < on s) : oj s j < 30 := by
  have := (oj_m h).1
  have := hW.n.2.1
  omega
theorem on_30 (hW : WF s) : on s ≤ 30 := by
  have := otN_len (s := s) (kn s)
  have := hW.n.2.1
  unfold on ot
  omega
theorem c8_take {m m0 : Nat} (hM : MR (dS s (dM s m0)) G) (hW : WF s) (hI : CI s G) (hm : m < 2 ^ 31) (h : ∀ G', MR (dS s (dM s m)) G' → (∀ p, p ≠ 58 → G' p = G p) → PV G') : CTv kX8_take [.ref 49, .int (nI m)] G PV := by
  have hon := on_30 hW
  refine vX8_take _ _ G ?_
  have key : ∀ k j : Nat, j + k = on s → ∀ G1, MR (dS s (fun x => if ∃ i, i < j ∧ oj s i = x then dM s m x else dM s m0 x)) G1 → (∀ p, p ≠ 58 → G1 p = G p) → zJ kX8_take (fun r G' => r = none ∧ PV G') 2 [(0, .ref 49), (1, .int (nI m)), (2, .int (nI j))] [] G1 := by
    intro k
    induction k with
    | zero =>
      intro j hj G1 hM1 hf
      have hjn : j = on s := by omega
      subst hjn
      have e30 : G1 49 30 = nI (on s) := by rw [hf 49 (by omega)]; exact hI.1
      refine vX8_take_2 _ _ _ G1 ⟨fun _ => ⟨rfl, h G1 ?_ hf⟩, fun h1 => ?_⟩
      · have e : (fun x => if ∃ i, i < on s ∧ oj s i = x then dM s m x else dM s m0 x) = dM s m := by
          funext x
          by_cases hx : ∃ i, i < on s ∧ oj s i = x
          · rw [if_pos hx]
          · rw [if_neg hx]
            have hno : ∀ q, tkn s q x = true → False := by
              intro q hq
              obtain ⟨i, h1, h2, -⟩ := tkn_iff.mp hq
              exact hx ⟨i, h1, h2⟩
            unfold dM
            rw [if_neg (hno m0), if_neg (hno m)]
        rw [e] at hM1
        exact hM1
      · rw [e30] at h1
        exact absurd (nI_le (by omega) (by omega)) h1
    | succ k ih =>
      intro j hj G1 hM1 hf
      have hjl : j < on s := by omega
      have hj31 : j < 2 ^ 31 := by omega
      have hin : vp_in (nI j) 30 := vp_in_nI (by omega) (by omega)
      have ho30 := oj_30 hW hjl
      have hin2 : vp_in (nI (oj s j)) 30 := vp_in_nI ho30 (by omega)
      have e30 : G1 49 30 = nI (on s) := by rw [hf 49 (by omega)]; exact hI.1
      have e66 : G1 66 j = nI (oj s j) := by rw [hf 66 (by omega)]; exact (hI.2 j hjl).1
      have e65 : G1 65 (oj s j) = nI (dl s (oj s j)) := by rw [hf 65 (by omega)]; exact (hI.2 j hjl).2
      have hgo := (oj_m hjl).2.2.1
      have e61 : G1 61 (oj s j) = nI (go s (oj s j)) := by
        rw [hM1.q61]
        show gN (dS s _ 61 _) = _
        rw [dS_p (by omega)]
        unfold gN
        rw [if_neg hgo]
      have step : zJ kX8_take (fun r G' => r = none ∧ PV G') 2 [(0, .ref 49), (1, .int (nI m)), (2, .int (nI (j + 1)))] [] (gU G1 58 (oj s j) (nI (dM s m (oj s j)))) := by
        have hM2 := hM1.set (p := 58) (oj s j) (dM s m (oj s j)) (by omega) (by omega) (by omega)
        rw [dS_U] at hM2
        have e : (fun x => if x = oj s j then dM s m (oj s j) else if ∃ i, i < j ∧ oj s i = x then dM s m x else dM s m0 x) = (fun x => if ∃ i, i < j + 1 ∧ oj s i = x then dM s m x else dM s m0 x) := by
          funext x
          by_cases hx : x = oj s j
          · subst hx
            rw [if_pos rfl, if_pos ⟨j, by omega, rfl⟩]
          · rw [if_neg hx]
            have : (∃ i, i < j ∧ oj s i = x) ↔ (∃ i, i < j + 1 ∧ oj s i = x) := by
              constructor
              · rintro ⟨i, h1, h2⟩; exact ⟨i, by omega, h2⟩
              · rintro ⟨i, h1, h2⟩
                refine ⟨i, ?_, h2⟩
                rcases Nat.lt_or_ge i j with q | q
                · exact q
                · have : i = j := by omega
                  subst this
                  exact absurd h2.symm hx
            simp only [this]
        rw [e] at hM2
        exact ih (j + 1) (by omega) _ hM2 (fun p hp => by rw [gU_n hp]; exact hf p hp)
      refine vX8_take_2 _ _ _ G1 ⟨fun h1 => ?_, fun _ => ?_⟩
      · rw [e30] at h1
        exact absurd h1 (nI_ge (by omega) (by omega))
      · rw [nI_c hj31, e66, nI_c (show oj s j < 2 ^ 31 by omega), e65, e61, nI_1, sh_1 hm (by omega)]
        rw [dM_oj hjl] at step
        refine ⟨hin, fun h1 => ⟨hin, hin2, hin2, ?_⟩, fun h1 => ⟨hin, hin2, hin2, ?_⟩⟩
        · cases hb : m.testBit j with
          | true => rw [hb] at h1; exact absurd rfl h1
          | false => rw [hb] at step; exact step
        · cases hb : m.testBit j with
          | true => rw [hb] at step; exact step
          | false => rw [hb] at h1; exact absurd h1 (by decide)
  have fin : ∀ z : Nat, z = 0 → MR (dS s (fun x => if ∃ i, i < z ∧ oj s i = x then dM s m x else dM s m0 x)) G := by
    intro z hz
    have e : (fun x => if ∃ i, i < z ∧ oj s i = x then dM s m x else dM s m0 x) = dM s m0 := by
      funext x
      rw [if_neg]
      rintro ⟨i, h1, -⟩
      omega
    rw [e]
    exact hM
  exact key (on s) 0 (by omega) G (fin 0 rfl) (fun p _ => rfl)
theorem al_lt (h10 : on s ≤ 10) : al s < 1024 := by
  unfold al
  have : 2 ^ on s ≤ 2 ^ 10 := Nat.pow_le_pow_right (by omega) h10
  have : 0 < 2 ^ on s := Nat.pow_pos (by omega)
  omega
theorem le_al {m : Nat} : m ≤ al s ↔ m < 2 ^ on s := by
  unfold al
  have : 0 < 2 ^ on s := Nat.pow_pos (by omega)
  omega
theorem c8_change (hM : MR s G) (hW : WF s) (hno : ¬ ChY s → ∀ G', MR s G' → sLo G G' → P (-1) G') (hyes : ∀ js, ChJ s js → ∀ G', MR (nChange s (js.map (oj s))) G' → sLo G G' → P (nI js.length) G') : CTi kX8_change [.ref 49] G P := by
  have hkn := hW.n.2.1
  have hk1 := hW.n.1
  have hhg := hW.r.2.2.2.2.2.1
  have hon := on_30 hW
  refine vX8_change _ G ?_
  rw [hM.2.2.2.2.2.2.1, n0_iff (by omega)]
  refine ⟨fun h1 => ?_, fun h1 => ⟨_, rfl, hno (fun q => by have := q.1; omega) G hM sLo.rf⟩⟩
  have hg1 : hg s = 1 := by omega
  -- phase 5: the order is told
  have phase5 : on s ≤ 10 → ∀ k m : Nat, ∀ pre : List Nat, m ≤ al s → can s m → on s ≤ cb m (on s) + k → pre.length = cb m (on s) → (∀ post, gp s m post → gp s 0 (pre ++ post)) → ChY s → ∀ G1, MR (nChange s (pre.map (oj s))) G1 → sLo G G1 → CI s G1 → (∀ m', m' ≤ al s → (G1 67 m' = 1 ↔ can s m')) → zJ kX8_change (fun r G' => ∃ x, r = some (.int x) ∧ P x G') 271 [(0, .ref 49), (1, .int (nI (al s))), (2, .int (nI m))] [] G1 := by
    intro h10 k
    have halt := al_lt (s := s) h10
    induction k with
    | zero =>
      intro m pre hm hcan hk hpre hgp hCh G1 hM1 hL hI h67
      have e23 : G1 49 23 = nI pre.length := by
        have := hM1.2.2.2.2.2.2.2.2.1
        rw [this]
        show nI (nChange s _ 49 23) = _
        unfold nChange
        rw [if_neg (by omega), if_pos ⟨rfl, rfl⟩, List.length_map]
      have hall : m = al s := by
        rcases (can_iff.mp hcan).2 with q | ⟨j, h1, h2, -⟩
        · exact q
        · have := cb_lt h2 h1
          omega
      subst hall
      refine vX8_change_271 _ _ _ G1 ⟨fun _ => ⟨_, rfl, ?_⟩, fun q => absurd rfl q⟩
      rw [e23]
      have := hgp [] rfl
      rw [List.append_nil] at this
      exact hyes pre ⟨hCh, this⟩ G1 hM1 hL
    | succ k ih =>
      intro m pre hm hcan hk hpre hgp hCh G1 hM1 hL hI h67
      have e23 : G1 49 23 = nI pre.length := by
        have := hM1.2.2.2.2.2.2.2.2.1
        rw [this]
        show nI (nChange s _ 49 23) = _
        unfold nChange
        rw [if_neg (by omega), if_pos ⟨rfl, rfl⟩, List.length_map]
      have hm31 : m < 2 ^ 31 := by omega
      have hm2 := le_al.mp hm
      refine vX8_change_271 _ _ _ G1 ?_
      rw [nI_eq hm31 (by omega)]
      refine ⟨fun hall => ⟨_, rfl, ?_⟩, fun hne => ?_⟩
      · subst hall
        rw [e23]
        have := hgp [] rfl
        rw [List.append_nil] at this
        exact hyes pre ⟨hCh, this⟩ G1 hM1 hL
      · -- the least that can go
        obtain ⟨j0, hj0, hb0, hc0⟩ : ∃ j, j < on s ∧ m.testBit j = false ∧ can s (m ||| 2 ^ j) := by
          rcases (can_iff.mp hcan).2 with q | q
          · exact absurd q hne
          · exact q
        have find : ∀ t i : Nat, i + t = j0 + 1 → (∀ a, a < i → m.testBit a = false → ¬ can s (m ||| 2 ^ a)) → zJ kX8_change (fun r G' => ∃ x, r = some (.int x) ∧ P x G') 278 [(0, .ref 49), (1, .int (nI (al s))), (2, .int (nI m)), (3, .int (nI i))] [] G1 := by
          intro t
          induction t with
          | zero =>
            intro i hi hall
            exact absurd hc0 (hall j0 (by omega) hb0)
          | succ t iht =>
            intro i hi hall
            have hi10 : i < on s := by omega
            have hi31 : i < 2 ^ 31 := by omega
            have hnext : (m.testBit i = true ∨ ¬ can s (m ||| 2 ^ i)) → zJ kX8_change (fun r G' => ∃ x, r = some (.int x) ∧ P x G') 278 [(0, .ref 49), (1, .int (nI (al s))), (2, .int (nI m)), (3, .int (nI (i + 1)))] [] G1 := by
              intro hor
              refine iht (i + 1) (by omega) ?_
              intro a ha hba
              rcases Nat.lt_or_ge a i with q | q
              · exact hall a q hba
              · have : a = i := by omega
                subst this
                rcases hor with q | q
                · rw [q] at hba; cases hba
                · exact q
            have hor2 := or_lt hm2 hi10
            have hor3 : m ||| 2 ^ i ≤ al s := le_al.mpr hor2
            refine vX8_change_278 _ _ _ _ G1 ?_
            rw [sh_1 hm31 (by omega), sh_l (by omega), fa_or, nI_1, nI_c (show m ||| 2 ^ i < 2 ^ 31 by omega), h67 _ hor3]
            refine ⟨fun h2 => hnext (Or.inl ?_), fun h2 => ⟨vp_in_nI (by omega) (by omega), fun h3 => ?_, fun h3 => hnext (Or.inr h3)⟩⟩
            · cases hb : m.testBit i with
              | true => rfl
              | false => rw [hb] at h2; exact absurd h2 (by decide)
            · have hbi : m.testBit i = false := by
                cases hb : m.testBit i with
                | false => rfl
                | true => rw [hb] at h2; exact absurd rfl h2
              have hcb := cb_or hbi (on s)
              rw [if_pos hi10] at hcb
              have hcl := cb_lt hbi hi10
              rw [e23, nI_c (show pre.length < 2 ^ 31 by omega), nI_c hi31, (hI.2 i hi10).1, gU_n (q := 49) (by omega), e23, nI_1]
              refine ⟨vp_in_nI (by omega) (by omega), vp_in_nI (by omega) (by omega), ?_⟩
              have hM2 := (hM1.set (p := 64) (pre.map (oj s)).length (oj s i) (by omega) (by omega) (by omega)).set9 23 ((pre.map (oj s)).length + 1)
              rw [nChange_s] at hM2
              rw [List.length_map] at hM2
              refine ih (m ||| 2 ^ i) (pre ++ [i]) hor3 h3 (by omega) ?_ ?_ hCh _ ?_ ((hL.u (by omega)).u (by omega)) ?_ ?_
              · rw [List.length_append, hcb, hpre]; rfl
              · intro post hp
                have := hgp (i :: post) ⟨hi10, hbi, h3, fun a ha hba => hall a ha hba, hp⟩
                simpa using this
              · simpa using hM2
              · refine ⟨?_, fun a ha => ⟨?_, ?_⟩⟩
                · rw [gU_k (by omega), gU_n (by omega)]; exact hI.1
                · rw [gU_n (by omega), gU_n (by omega)]; exact (hI.2 a ha).1
                · rw [gU_n (by omega), gU_n (by omega)]; exact (hI.2 a ha).2
              · intro m' hm'
                rw [gU_n (by omega), gU_n (by omega)]
                exact h67 m' hm'
        exact find (j0 + 1) 0 (by omega) (fun a ha => by omega)
  -- phase 4: all sets are looked at
  have phase4 : on s ≤ 10 → ∀ m0 : Nat, ∀ G1, MR (dS s (dM s m0)) G1 → sLo G G1 → CI s G1 → (∀ m', m' ≤ al s → (G1 67 m' = 1 ↔ can s m')) → zJ kX8_change (fun r G' => ∃ x, r = some (.int x) ∧ P x G') 146 [(0, .ref 49), (1, .int (nI (al s))), (2, .int (-1 : Int32))] [] G1 := by
    intro h10 m0 G1 hM1 hL hI h67
    refine vX8_change_146 _ _ _ G1 ⟨fun _ => ?_, fun q => absurd (by decide) q⟩
    rw [show (0 : Int32) = nI 0 from rfl]
    refine c8_take hM1 hW hI (by omega) fun G2 hM2 hf => ?_
    rw [dM_0, dS_id] at hM2
    have hL2 : sLo G G2 := fun p hp => by rw [hf p (by omega)]; exact hL p hp
    have hI2 : CI s G2 := ⟨by rw [hf 49 (by omega)]; exact hI.1, fun j hj => ⟨by rw [hf 66 (by omega)]; exact (hI.2 j hj).1, by rw [hf 65 (by omega)]; exact (hI.2 j hj).2⟩⟩
    have h672 : ∀ m', m' ≤ al s → (G2 67 m' = 1 ↔ can s m') := fun m' hm' => by rw [hf 67 (by omega)]; exact h67 m' hm'
    rw [nI_c (by omega), h672 0 (Nat.zero_le _)]
    refine ⟨vp_in_nI (by omega) (by omega), fun hc => ?_, fun hc => ⟨_, rfl, hno (fun q => hc q.2.2) G2 hM2 hL2⟩⟩
    have hM3 := hM2.set9 23 0
    rw [← nChange_0] at hM3
    refine phase5 h10 (on s) 0 [] (Nat.zero_le _) hc (by omega) (by rw [cb_0]; rfl) (fun post hp => hp) ⟨hg1, h10, hc⟩ _ hM3 (hL2.u (by omega)) ?_ ?_
    · refine ⟨?_, fun a ha => ⟨?_, ?_⟩⟩
      · rw [gU_k (by omega)]; exact hI2.1
      · rw [gU_n (by omega)]; exact (hI2.2 a ha).1
      · rw [gU_n (by omega)]; exact (hI2.2 a ha).2
    · intro m' hm'
      rw [gU_n (by omega)]
      exact h672 m' hm'
  -- phase 3: one set
  have phase3 : on s ≤ 10 → ∀ m : Nat, m ≤ al s → ∀ m0 : Nat, ∀ G1, MR (dS s (dM s m0)) G1 → sLo G G1 → CI s G1 → (∀ m', m < m' → m' ≤ al s → (G1 67 m' = 1 ↔ can s m')) → zJ kX8_change (fun r G' => ∃ x, r = some (.int x) ∧ P x G') 146 [(0, .ref 49), (1, .int (nI (al s))), (2, .int (nI m))] [] G1 := by
    intro h10 m
    have halt := al_lt (s := s) h10
    induction m using Nat.strongRecOn with
    | ind m ih =>
      intro hm m0 G1 hM1 hL hI h67
      have hm31 : m < 2 ^ 31 := by omega
      have hm2 := le_al.mp hm
      have hin : vp_in (nI m) 1024 := vp_in_nI (by omega) (by omega)
      -- behind the look at this set
      have after : ∀ v : Int32, (v = 1 ↔ can s m) → ∀ m1 G2, MR (dS s (dM s m1)) G2 → sLo G G2 → CI s G2 → (∀ m', m < m' → m' ≤ al s → (G2 67 m' = 1 ↔ can s m')) → zJ kX8_change (fun r G' => ∃ x, r = some (.int x) ∧ P x G') 146 [(0, .ref 49), (1, .int (nI (al s))), (2, .int (nI m + (-1 : Int32)))] [] (gU G2 67 m v) := by
        intro v hv m1 G2 hM2 hL2 hI2 h672
        have hM3 : MR (dS s (dM s m1)) (gU G2 67 m v) := hM2.congr (fun k _ => by rw [gU_n (by omega)]) (fun p h1 h2 => gU_n (by omega))
        have hI3 : CI s (gU G2 67 m v) := ⟨by rw [gU_n (by omega)]; exact hI2.1, fun j hj => ⟨by rw [gU_n (by omega)]; exact (hI2.2 j hj).1, by rw [gU_n (by omega)]; exact (hI2.2 j hj).2⟩⟩
        have h673 : ∀ m', m ≤ m' → m' ≤ al s → (gU G2 67 m v 67 m' = 1 ↔ can s m') := by
          intro m' h1 h2
          rw [gU_at]
          by_cases he : m' = m
          · subst he
            rw [if_pos ⟨rfl, rfl⟩]
            exact hv
          · rw [if_neg (fun q => he q.2)]
            exact h672 m' (by omega) h2
        rcases Nat.eq_zero_or_pos m with h0 | h0
        · subst h0
          have e : nI 0 + (-1 : Int32) = -1 := by decide
          rw [e]
          exact phase4 h10 m1 _ hM3 (hL2.u (by omega)) hI3 (fun m' hm' => h673 m' (Nat.zero_le _) hm')
        · obtain ⟨a, rfl⟩ : ∃ a, m = a + 1 := ⟨m - 1, by omega⟩
          rw [pk_m1]
          exact ih a (by omega) (by omega) m1 _ hM3 (hL2.u (by omega)) hI3 (fun m' h1 h2 => h673 m' (by omega) h2)
      -- the flag 'more'
      have more : ∀ t j : Nat, j + t = on s → ∀ f : Int32, (f = 1 ∧ (m = al s ∨ ∃ i, i < j ∧ m.testBit i = false ∧ can s (m ||| 2 ^ i)) ∨ f = 0 ∧ ¬ (m = al s ∨ ∃ i, i < j ∧ m.testBit i = false ∧ can s (m ||| 2 ^ i))) → zJ kX8_change (fun r G' => ∃ x, r = some (.int x) ∧ P x G') 164 [(0, .ref 49), (1, .int (nI (al s))), (2, .int (nI m)), (3, .int f), (4, .int (nI j))] [] G1 := by
        intro t
        induction t with
        | zero =>
          intro j hj f hf
          have hjn : j = on s := by omega
          subst hjn
          refine vX8_change_164 _ _ _ _ _ G1 ⟨fun _ => c8_take hM1 hW hI hm31 fun G2 hM2 hfr => ?_, fun h2 => ?_⟩
          · have hL2 : sLo G G2 := fun p hp => by rw [hfr p (by omega)]; exact hL p hp
            have hI2 : CI s G2 := ⟨by rw [hfr 49 (by omega)]; exact hI.1, fun j hj => ⟨by rw [hfr 66 (by omega)]; exact (hI.2 j hj).1, by rw [hfr 65 (by omega)]; exact (hI.2 j hj).2⟩⟩
            have h672 : ∀ m', m < m' → m' ≤ al s → (G2 67 m' = 1 ↔ can s m') := fun m' h1 h2 => by rw [hfr 67 (by omega)]; exact h67 m' h1 h2
            rw [nI_c hm31]
            refine ⟨fun h2 => ⟨hin, by decide, after _ ?_ m G2 hM2 hL2 hI2 h672⟩, fun h2 => c8_isRight hM2 (dM_WF hW) fun G3 hS3 _ => ?_⟩
            · rcases hf with ⟨q, -⟩ | ⟨-, q⟩
              · rw [q] at h2; exact absurd h2 (by decide)
              · constructor
                · intro z; exact absurd z (by decide)
                · intro z; exact absurd (can_iff.mp z).2 q
            · have hmore : m = al s ∨ ∃ i, i < on s ∧ m.testBit i = false ∧ can s (m ||| 2 ^ i) := by
                rcases hf with ⟨-, q⟩ | ⟨q, -⟩
                · exact q
                · exact absurd q h2
              have hM3 := hS3.mr hM2
              have hL3 := hL2.t hS3.lo
              have hI3 : CI s G3 := ⟨by rw [hS3.2 30 (by omega)]; exact hI2.1, fun j hj => ⟨by rw [hS3.1 66 (by omega)]; exact (hI2.2 j hj).1, by rw [hS3.1 65 (by omega)]; exact (hI2.2 j hj).2⟩⟩
              have h673 : ∀ m', m < m' → m' ≤ al s → (G3 67 m' = 1 ↔ can s m') := fun m' h1 h2 => by rw [hS3.1 67 (by omega)]; exact h672 m' h1 h2
              refine bI_br (fun hR => ⟨hin, by decide, after _ ?_ m G3 hM3 hL3 hI3 h673⟩) (fun hR => ⟨hin, by decide, after _ ?_ m G3 hM3 hL3 hI3 h673⟩)
              · constructor
                · intro z; exact absurd z (by decide)
                · intro z; exact absurd (can_iff.mp z).1 hR
              · constructor
                · intro _; exact can_iff.mpr ⟨hR, hmore⟩
                · intro _; decide
          · rw [hI.1] at h2
            exact absurd (nI_le (by omega) (by omega)) h2
        | succ t iht =>
          intro j hj f hf
          have hjl : j < on s := by omega
          have hor2 := or_lt hm2 hjl
          have hor3 : m ||| 2 ^ j ≤ al s := le_al.mpr hor2
          have split1 : (m = al s ∨ ∃ i, i < j + 1 ∧ m.testBit i = false ∧ can s (m ||| 2 ^ i)) ↔ ((m = al s ∨ ∃ i, i < j ∧ m.testBit i = false ∧ can s (m ||| 2 ^ i)) ∨ (m.testBit j = false ∧ can s (m ||| 2 ^ j))) := by
            constructor
            · rintro (q | ⟨i, h1, h2⟩)
              · exact Or.inl (Or.inl q)
              · rcases Nat.lt_or_ge i j with q | q
                · exact Or.inl (Or.inr ⟨i, q, h2⟩)
                · have : i = j := by omega
                  subst this
                  exact Or.inr h2
            · rintro ((q | ⟨i, h1, h2⟩) | q)
              · exact Or.inl q
              · exact Or.inr ⟨i, by omega, h2⟩
              · exact Or.inr ⟨j, by omega, q⟩
          refine vX8_change_164 _ _ _ _ _ G1 ⟨fun h2 => ?_, fun _ => ?_⟩
          · rw [hI.1] at h2
            exact absurd h2 (nI_ge (by omega) (by omega))
          · rw [nI_1]
            refine ⟨fun h2 => iht (j + 1) (by omega) 1 (Or.inl ⟨rfl, split1.mpr (Or.inl ?_)⟩), fun h2 => ?_⟩
            · rcases hf with ⟨-, q⟩ | ⟨q, -⟩
              · exact q
              · exact absurd q h2
            · have hn : ¬ (m = al s ∨ ∃ i, i < j ∧ m.testBit i = false ∧ can s (m ||| 2 ^ i)) := by
                rcases hf with ⟨q, -⟩ | ⟨-, q⟩
                · rw [q] at h2; exact absurd h2 (by decide)
                · exact q
              have skip : ¬ (m.testBit j = false ∧ can s (m ||| 2 ^ j)) → zJ kX8_change (fun r G' => ∃ x, r = some (.int x) ∧ P x G') 164 [(0, .ref 49), (1, .int (nI (al s))), (2, .int (nI m)), (3, .int (0 : Int32)), (4, .int (nI (j + 1)))] [] G1 := fun hs => iht (j + 1) (by omega) 0 (Or.inr ⟨rfl, fun q => (split1.mp q).elim hn hs⟩)
              rw [sh_1 hm31 (by omega), sh_l (by omega), fa_or, nI_c (show m ||| 2 ^ j < 2 ^ 31 by omega)]
              refine ⟨fun h3 => skip ?_, fun h3 => ?_⟩
              · rintro ⟨q, -⟩
                rw [q] at h3
                exact h3 rfl
              · have hb : m.testBit j = false := by
                  cases hb : m.testBit j with
                  | false => rfl
                  | true => rw [hb] at h3; exact absurd h3 (by decide)
                have hgt := or_gt hb
                rw [h67 _ hgt hor3]
                exact ⟨vp_in_nI (by omega) (by omega), fun h4 => skip (fun q => h4 q.2), fun h4 => iht (j + 1) (by omega) 1 (Or.inl ⟨rfl, split1.mpr (Or.inr ⟨hb, h4⟩)⟩)⟩
      refine vX8_change_146 _ _ _ G1 ⟨fun h2 => absurd h2 (nI_pos hm31), fun _ => ?_⟩
      rw [nI_eq hm31 (by omega)]
      refine ⟨fun h2 => more (on s) 0 (by omega) 0 (Or.inr ⟨rfl, ?_⟩), fun h2 => more (on s) 0 (by omega) 1 (Or.inl ⟨rfl, Or.inl h2⟩)⟩
      rintro (q | ⟨i, q, -⟩)
      · exact h2 q
      · omega
  -- phase 2: the DIALS are kept
  have phase2 : on s ≤ 10 → ∀ t j : Nat, j + t = on s → ∀ G1, MR s G1 → sLo G G1 → G1 49 30 = nI (on s) → (∀ i, i < on s → G1 66 i = nI (oj s i)) → (∀ i, i < j → G1 65 (oj s i) = nI (dl s (oj s i))) → zJ kX8_change (fun r G' => ∃ x, r = some (.int x) ∧ P x G') 99 [(0, .ref 49), (1, .int (nI j))] [] G1 := by
    intro h10 t
    induction t with
    | zero =>
      intro j hj G1 hM1 hL h30 h66 h65
      have hjn : j = on s := by omega
      subst hjn
      have hpow : 0 < 2 ^ on s := Nat.pow_pos (by omega)
      refine vX8_change_99 _ _ G1 ⟨fun _ => ?_, fun h2 => ?_⟩
      · rw [h30, sh_l (by omega), nI_p1 (by omega)]
        refine phase3 h10 (al s) (Nat.le_refl _) 0 G1 ?_ hL ⟨h30, fun i hi => ⟨h66 i hi, h65 i hi⟩⟩ (fun m' h1 h2 => by omega)
        rw [dM_0, dS_id]
        exact hM1
      · rw [h30] at h2
        exact absurd (nI_le (by omega) (by omega)) h2
    | succ t iht =>
      intro j hj G1 hM1 hL h30 h66 h65
      have hjl : j < on s := by omega
      have ho30 := oj_30 hW hjl
      have hin : vp_in (nI j) 30 := vp_in_nI (by omega) (by omega)
      have hin2 : vp_in (nI (oj s j)) 30 := vp_in_nI ho30 (by omega)
      refine vX8_change_99 _ _ G1 ⟨fun h2 => ?_, fun _ => ?_⟩
      · rw [h30] at h2
        exact absurd h2 (nI_ge (by omega) (by omega))
      · rw [nI_c (show j < 2 ^ 31 by omega), h66 j hjl, nI_c (show oj s j < 2 ^ 31 by omega), hM1.q58, nI_1]
        refine ⟨hin, hin, hin2, hin2, iht (j + 1) (by omega) _ ?_ (hL.u (by omega)) ?_ ?_ ?_⟩
        · exact hM1.congr (fun k _ => by rw [gU_n (by omega)]) (fun p h1 h2 => gU_n (by omega))
        · rw [gU_n (by omega)]; exact h30
        · intro i hi; rw [gU_n (by omega)]; exact h66 i hi
        · intro i hi
          rw [gU_at]
          by_cases he : oj s i = oj s j
          · rw [if_pos ⟨rfl, he⟩, he]
          · rw [if_neg (fun q => he q.2)]
            refine h65 i ?_
            rcases Nat.lt_or_ge i j with q | q
            · exact q
            · have : i = j := by omega
              subst this
              exact absurd rfl he
  -- phase 1: which LINES
  have phase1 : ∀ t b : Nat, b + t = kn s → 1 ≤ b → ∀ G1, MR s G1 → sLo G G1 → G1 49 30 = nI (otN s b).length → (∀ i, i < (otN s b).length → G1 66 i = nI ((otN s b).getD i 0)) → zJ kX8_change (fun r G' => ∃ x, r = some (.int x) ∧ P x G') 16 [(0, .ref 49), (1, .int (nI b))] [] G1 := by
    intro t
    induction t with
    | zero =>
      intro b hb hb1 G1 hM1 hL h30 h66
      have hbn : b = kn s := by omega
      subst hbn
      refine vX8_change_16 _ _ G1 ⟨fun _ => ?_, fun h2 => ?_⟩
      · have h30' : G1 49 30 = nI (on s) := h30
        rw [h30', show (10 : Int32) = nI 10 from rfl, nI_leI (by omega) (by omega)]
        exact ⟨fun h10 => phase2 h10 (on s) 0 (by omega) G1 hM1 hL h30' h66 (fun i hi => by omega), fun h10 => ⟨_, rfl, hno (fun q => h10 q.2.1) G1 hM1 hL⟩⟩
      · rw [hM1.1] at h2
        exact absurd (nI_le (by omega) (by omega)) h2
    | succ t iht =>
      intro b hb hb1 G1 hM1 hL h30 h66
      have hb31 : b < 2 ^ 31 := by omega
      have hin : vp_in (nI b) 30 := vp_in_nI (by omega) (by omega)
      have hlen := otN_len (s := s) b
      have hwb := hW.b.1 b
      have skip : ¬ chg s b → zJ kX8_change (fun r G' => ∃ x, r = some (.int x) ∧ P x G') 16 [(0, .ref 49), (1, .int (nI (b + 1)))] [] G1 := by
        intro hn
        have e : otN s (b + 1) = otN s b := by
          rw [otN, if_neg hn, List.append_nil]
        refine iht (b + 1) (by omega) (by omega) G1 hM1 hL ?_ ?_
        · rw [e]; exact h30
        · rw [e]; exact h66
      refine vX8_change_16 _ _ G1 ⟨fun h2 => ?_, fun _ => ?_⟩
      · rw [hM1.1] at h2
        exact absurd h2 (nI_ge (by omega) (by omega))
      · rw [nI_c hb31, hM1.q56, hM1.q61, hM1.q58, hs_ne hW.b, nI_1]
        have hglt : gN (go s b) < 0 ↔ go s b = 0 := by
          have := gN_ge hwb.2.2.2.2.2
          rw [← Int32.not_le, this]
          exact Decidable.not_not
        rw [hglt]
        refine ⟨hin, fun h2 => skip (fun q => h2 q.1), fun h2 => ⟨hin, fun h3 => skip (fun q => q.2.1 h3), fun h3 => ⟨hin, hin, ?_⟩⟩⟩
        have eg : gN (go s b) = nI (go s b) := by unfold gN; rw [if_neg h3]
        rw [eg, nI_eq (by omega) (by omega)]
        refine ⟨fun h4 => ⟨?_, ?_⟩, fun h4 => skip (fun q => q.2.2 h4)⟩
        · rw [h30]; exact vp_in_nI (by omega) (by omega)
        · have hch : chg s b := ⟨Decidable.not_not.mp h2, h3, h4⟩
          have e : otN s (b + 1) = otN s b ++ [b] := by rw [otN, if_pos hch]
          rw [h30, nI_c (show (otN s b).length < 2 ^ 31 by omega), gU_n (q := 49) (by omega), h30, nI_1]
          refine iht (b + 1) (by omega) (by omega) _ ?_ ((hL.u (by omega)).u (by omega)) ?_ ?_
          · exact hM1.congr (fun k hk => by rw [gU_k (by simp at hk; omega), gU_n (by omega)]) (fun p h1 h2 => by rw [gU_n (by omega), gU_n (by omega)])
          · rw [gU_s, e, List.length_append]; rfl
          · intro i hi
            rw [gU_n (by omega), gU_at, e]
            rw [e, List.length_append, List.length_singleton] at hi
            by_cases he : i = (otN s b).length
            · subst he
              rw [if_pos ⟨rfl, rfl⟩]
              simp [List.getD]
            · rw [if_neg (fun q => he q.2), h66 i (by omega)]
              simp [List.getD, List.getElem?_append_left (show i < (otN s b).length by omega)]
  have hn0 : ¬ chg s 0 := fun q => by have := (hW.b.2.1 0 q.1).1; omega
  have e1 : otN s 1 = [] := by rw [otN, otN, if_neg hn0]; rfl
  refine phase1 (kn s - 1) 1 (by omega) (by omega) _ ?_ (sLo.rf.u (by omega)) ?_ ?_
  · exact hM.congr (fun k hk => by rw [gU_k (by simp at hk; omega)]) (fun p h1 h2 => gU_n (by omega))
  · rw [gU_s, e1]; rfl
  · intro i hi
    rw [e1] at hi
    cases hi
end M10
