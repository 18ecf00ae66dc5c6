/-- the FAULTS looked at before place p, number j of LINE k -/
def Fdn (s : NN) (k p j : Nat) : Nat → Nat → Nat → Prop := fun k' p' f' => fltV s k' p' f' ∧ (k' < k ∨ (k' = k ∧ (p' < p ∨ (p' = p ∧ ∃ i, i < j ∧ f' = i % 2 * la s))))
theorem Fdn_row {s : NN} {k p j : Nat} (hj : (if la s = 0 then 1 else 2) ≤ j) : Fdn s k p j = Fdn s k (p + 1) 0 := by
  funext k' p' f'
  apply propext
  unfold Fdn
  constructor
  · rintro ⟨hv, q | ⟨rfl, q | ⟨rfl, -⟩⟩⟩
    · exact ⟨hv, Or.inl q⟩
    · exact ⟨hv, Or.inr ⟨rfl, Or.inl (by omega)⟩⟩
    · exact ⟨hv, Or.inr ⟨rfl, Or.inl (by omega)⟩⟩
  · rintro ⟨hv, q | ⟨rfl, q | ⟨rfl, i, hi, -⟩⟩⟩
    · exact ⟨hv, Or.inl q⟩
    · refine ⟨hv, Or.inr ⟨rfl, ?_⟩⟩
      rcases Nat.lt_or_ge p' p with z | z
      · exact Or.inl z
      · refine Or.inr ⟨by omega, ?_⟩
        rcases hv.2.2.2 with r | r
        · exact ⟨0, by split at hj <;> omega, by rw [r, Nat.zero_mod, Nat.zero_mul]⟩
        · by_cases h0 : la s = 0
          · exact ⟨0, by split at hj <;> omega, by rw [r, h0, Nat.mul_zero]⟩
          · rw [if_neg h0] at hj
            exact ⟨1, by omega, by rw [r, show 1 % 2 = 1 from rfl, Nat.one_mul]⟩
    · omega
theorem Fdn_line {s : NN} {k : Nat} : Fdn s k 17 0 = Fdn s (k + 1) 0 0 := by
  funext k' p' f'
  apply propext
  unfold Fdn
  constructor
  · rintro ⟨hv, q | ⟨rfl, -⟩⟩
    · exact ⟨hv, Or.inl (by omega)⟩
    · exact ⟨hv, Or.inl (by omega)⟩
  · rintro ⟨hv, q | ⟨rfl, q | ⟨rfl, i, hi, -⟩⟩⟩
    · refine ⟨hv, ?_⟩
      rcases Nat.lt_or_ge k' k with z | z
      · exact Or.inl z
      · exact Or.inr ⟨by omega, Or.inl (by have := hv.2.2.1; omega)⟩
    · omega
    · omega
theorem Fdn_all {s : NN} : Fdn s (kn s) 0 0 = fltV s := by
  funext k' p' f'
  apply propext
  unfold Fdn
  constructor
  · rintro ⟨hv, -⟩
    exact hv
  · intro hv
    exact ⟨hv, Or.inl hv.2.1⟩
theorem Fdn_one {s : NN} {k p j : Nat} (hk1 : 1 ≤ k) (hk : k < kn s) (hp : p ≤ 16) (hj : j < 2) : (fun k' p' f' => Fdn s k p j k' p' f' ∨ (k' = k ∧ p' = p ∧ f' = j % 2 * la s)) = Fdn s k p (j + 1) := by
  funext k' p' f'
  apply propext
  unfold Fdn
  constructor
  · rintro (⟨hv, q | ⟨rfl, q | ⟨rfl, i, hi, e⟩⟩⟩ | ⟨rfl, rfl, rfl⟩)
    · exact ⟨hv, Or.inl q⟩
    · exact ⟨hv, Or.inr ⟨rfl, Or.inl q⟩⟩
    · exact ⟨hv, Or.inr ⟨rfl, Or.inr ⟨rfl, i, by omega, e⟩⟩⟩
    · refine ⟨⟨hk1, hk, hp, ?_⟩, Or.inr ⟨rfl, Or.inr ⟨rfl, j, by omega, rfl⟩⟩⟩
      have : j = 0 ∨ j = 1 := by omega
      rcases this with rfl | rfl
      · left; rw [Nat.zero_mod, Nat.zero_mul]
      · right; rw [show 1 % 2 = 1 from rfl, Nat.one_mul]
  · rintro ⟨hv, q | ⟨rfl, q | ⟨rfl, i, hi, e⟩⟩⟩
    · exact Or.inl ⟨hv, Or.inl q⟩
    · exact Or.inl ⟨hv, Or.inr ⟨rfl, Or.inl q⟩⟩
    · rcases Nat.lt_or_ge i j with z | z
      · exact Or.inl ⟨hv, Or.inr ⟨rfl, Or.inr ⟨rfl, i, z, e⟩⟩⟩
      · have : i = j := by omega
        subst this
        exact Or.inr ⟨rfl, rfl, e⟩
def TD (s : NN) (G : GG) : Prop := TR (AF s (fltV s)) (BF s (fltV s)) G
section D2
variable {s : NN} {G : GG} {P : Int32 → GG → Prop} {PL : Int64 → GG → Prop} {PV : GG → Prop}
theorem c1_gather (hC : CS s G) (hW : WF s) (h : ∀ G', sT G G' → TD s G' → PV G') : CTv kX1_gather [.ref 15] G PV := by
  have hkn := hW.n.2.1
  have hk1 := hW.n.1
  have hla := hW.2.2.2.2.2.2.2.1
  have k3 : ∀ m k p j : Nat, ((30 - k) * 100 + (17 - p) * 4 + (2 - j)) ≤ m → 1 ≤ k → k < kn s → p ≤ 16 → j ≤ 2 → ∀ G1, sT G G1 → TR (AF s (Fdn s k p j)) (BF s (Fdn s k p j)) G1 → zJ kX1_gather (fun r G' => r = none ∧ PV G') 68 [(0, .ref 15), (1, .int (nI k)), (2, .int (nI p)), (3, .int (nI j))] [] G1 := by
    intro m
    induction m with
    | zero => intro k p j hm; omega
    | succ m ih =>
      intro k p j hm hk1 hk hp hj G1 hS hT
      have hC1 := hC.fr hS.c
      refine vX1_gather_68 _ _ _ _ G1 (c6_many hC1 hla ?_)
      rw [nI_leI (by split <;> omega) (by omega)]
      refine ⟨fun h1 => ?_, fun h1 => c6_asked hC1 (by split at h1 <;> omega) ?_⟩
      · rw [Fdn_row h1] at hT
        rw [nI_1]
        refine vX1_gather_60 _ _ _ G1 ?_
        rw [show (16 : Int32) = nI 16 from rfl, nI_ltI (by omega) (by omega), nI_1]
        refine ⟨fun h2 => ?_, fun h2 => ih k (p + 1) 0 (by omega) hk1 hk (by omega) (by omega) G1 hS hT⟩
        have hp17 : p + 1 = 17 := by omega
        rw [hp17, Fdn_line] at hT
        refine vX1_gather_47 _ _ G1 ?_
        rw [hC1.1.1, nI_leI (by omega) (by omega)]
        refine ⟨fun h3 => ⟨rfl, h G1 hS ?_⟩, fun h3 => ?_⟩
        · rw [show k + 1 = kn s by omega, Fdn_all] at hT
          exact hT
        · exact vX1_gather_60 _ _ _ G1 ⟨fun q => absurd q (by decide), fun _ => ih (k + 1) 0 0 (by omega) (by omega) (by omega) (by omega) (by omega) G1 hS hT⟩
      · have hj2 : j < 2 := by split at h1 <;> omega
        have hf1000 : j % 2 * la s ≤ 1000 := by
          have : j = 0 ∨ j = 1 := by omega
          rcases this with rfl | rfl
          · rw [Nat.zero_mod, Nat.zero_mul]; omega
          · rw [show 1 % 2 = 1 from rfl, Nat.one_mul]; exact hla
        refine c3_sumOf hC1 hW.n hk1 hk hp hf1000 (c1_gatherOf hC1 hW.w hk1 hk hp hf1000 hT fun G2 hS2 hT2 => ?_)
        rw [Fdn_one hk1 hk hp hj2] at hT2
        rw [nI_1]
        exact ih k p (j + 1) (by omega) hk1 hk hp (by omega) G2 (hS.t hS2) hT2
  have k2 : ∀ n i : Nat, i + n = 30 → ∀ G1, sT G G1 → (∀ j, j < 3480 → G1 16 j = 0) → (∀ j, j < i → G1 17 j = 0) → zJ kX1_gather (fun r G' => r = none ∧ PV G') 26 [(0, .ref 15), (1, .int (nI i))] [] G1 := by
    intro n
    induction n with
    | zero =>
      intro i hi G1 hS h16 h17
      have e : i = 30 := by omega
      subst e
      refine vX1_gather_26 _ _ G1 ⟨fun _ => vX1_gather_47 _ _ G1 ?_, fun q => absurd (by decide) q⟩
      have hC1 := hC.fr hS.c
      have hT : TR (AF s (Fdn s 1 0 0)) (BF s (Fdn s 1 0 0)) G1 := by
        have no : ∀ k p f, ¬ Fdn s 1 0 0 k p f := by
          rintro k p f ⟨hv, q | ⟨rfl, q | ⟨rfl, i, hi, -⟩⟩⟩
          · have := hv.1; omega
          · omega
          · omega
        refine ⟨fun u l i g1 g2 g3 => ⟨0, by omega, h16 _ (ix_lt g1 g2 g3), ?_, Or.inl rfl⟩, fun b hb => ⟨0, by omega, h17 b hb, ?_, Or.inl rfl⟩⟩
        · rintro tl ⟨k, p, f, q, -⟩
          exact absurd q (no k p f)
        · rintro tl ⟨k, p, f, q, -⟩
          exact absurd q (no k p f)
      rw [hC1.1.1, show (1 : Int32) = nI 1 from rfl, nI_leI (by omega) (by omega)]
      refine ⟨fun h3 => ⟨rfl, h G1 hS ?_⟩, fun h3 => vX1_gather_60 _ _ _ G1 ⟨fun q => absurd q (by decide), fun _ => k3 10000 1 0 0 (by omega) (by omega) (by omega) (by omega) (by omega) G1 hS hT⟩⟩
      rw [show 1 = kn s by omega, Fdn_all] at hT
      exact hT
    | succ n ih =>
      intro i hi G1 hS h16 h17
      refine vX1_gather_26 _ _ G1 ⟨fun q => ?_, fun _ => ⟨vp_in_nI (by omega) (by omega), ?_⟩⟩
      · rw [show (30 : Int32) = nI 30 from rfl] at q
        exact absurd q (nI_ge (by omega) (by omega))
      · rw [nI_1, nI_c (by omega)]
        refine ih (i + 1) (by omega) _ (hS.u (by omega)) (fun j hj => by rw [gU_n (by omega)]; exact h16 j hj) (fun j hj => ?_)
        rw [gU_at]
        split
        · rfl
        · next q => exact h17 j (by omega)
  have k1 : ∀ n i : Nat, i + n = 3480 → ∀ G1, sT G G1 → (∀ j, j < i → G1 16 j = 0) → zJ kX1_gather (fun r G' => r = none ∧ PV G') 2 [(0, .ref 15), (1, .int (nI i))] [] G1 := by
    intro n
    induction n with
    | zero =>
      intro i hi G1 hS h16
      have e : i = 3480 := by omega
      subst e
      exact vX1_gather_2 _ _ G1 ⟨fun _ => k2 30 0 (by omega) G1 hS h16 (fun j hj => by omega), fun q => absurd (by decide) q⟩
    | succ n ih =>
      intro i hi G1 hS h16
      refine vX1_gather_2 _ _ G1 ⟨fun q => ?_, fun _ => ⟨vp_in_nI (by omega) (by omega), ?_⟩⟩
      · rw [show (3480 : Int32) = nI 3480 from rfl] at q
        exact absurd q (nI_ge (by omega) (by omega))
      · rw [nI_1, nI_c (by omega)]
        refine ih (i + 1) (by omega) _ (hS.u (by omega)) (fun j hj => ?_)
        rw [gU_at]
        split
        · rfl
        · next q => exact h16 j (by omega)
  exact vX1_gather _ G (k1 3480 0 (by omega) G sT.rf (fun j hj => by omega))
theorem AF_f {u i l tl : Nat} (hW : WF s) (h : AF s (fltV s) u i l tl) : u < l ∧ hs s u = 1 ∧ hs s l = 1 ∧ 1 ≤ tl ∧ tl ≤ 1000 ∧ i < 8 ∧ 1 ≤ tk s (cu s u) i ∧ tk s (cu s u) i ≤ 1000 := by
  have h1 := Pr_f hW.c hW.b (Pr_AF.mpr ⟨i, rfl, h⟩)
  obtain ⟨k, p, f, -, hm⟩ := h
  have h2 := prC_m hW.c hW.b hm
  exact ⟨h1.1, h1.2.1, h1.2.2.1, h1.2.2.2.2.2.1, h1.2.2.2.2.2.2, h2.2.2.1, h1.2.2.2.1, h1.2.2.2.2.1⟩
theorem cd_le {W t x : Nat} (ht : 1 ≤ t) : (W + t - 1) / t ≤ x ↔ W ≤ x * t := by
  rw [← Nat.lt_succ_iff, Nat.div_lt_iff_lt_mul (by omega), Nat.succ_mul]
  omega
theorem tk_bd (hW : WF s) {b i : Nat} (hi : i < 8) : tk s (cu s b) i ≤ 1000 := by
  have hcc := hW.c (cu s b) (hW.b.1 b).2.2.1
  rcases Nat.lt_or_ge i (cn s (cu s b)) with q | q
  · exact (hcc.2.1 i q).2.2.2
  · rw [hcc.2.2.2 i q hi]; omega
theorem c1_least {b : Nat} {d : Nat → Nat} (hC : CS s G) (hW : WF s) (hT : TD s G) (hb1 : 1 ≤ b) (hb : b < kn s) (hd : ∀ x, x < 30 → G 23 x = nI (d x)) (hd40 : ∀ x, d x ≤ 40) (h : ∀ L, L < 100000 → (∀ x, L ≤ x ↔ 1 ≤ x ∧ ∀ tu l tl, Pr s b tu l tl → d l * tl + mg s ≤ x * tu) → PL (lN L) G) : CTl kX1_leastDial [.ref 15, .int (nI b), .ref 23] G PL := by
  have hkn := hW.n.2.1
  have hmg := hW.2.2.2.2.1
  refine vX1_leastDial _ _ G ?_
  have key : ∀ m l i L : Nat, (30 - l) * 10 + (9 - i) ≤ m → b < l → l < kn s → i ≤ 8 → L < 100000 → (∀ x, L ≤ x ↔ 1 ≤ x ∧ ∀ i' l' tl, AF s (fltV s) b i' l' tl → (l' < l ∨ (l' = l ∧ i' < i)) → d l' * tl + mg s ≤ x * tk s (cu s b) i') → zJ kX1_leastDial (fun r G' => ∃ x, r = some (.long x) ∧ PL x G') 30 [(0, .ref 15), (1, .int (nI b)), (2, .ref 23), (3, .long (lN L)), (5, .int (nI l)), (6, .int (nI ((tri l + b) * 8))), (7, .int (nI i))] [] G := by
    intro m
    induction m with
    | zero => intro l i L hm; omega
    | succ m ih =>
      intro l i L hm hbl hl hi hL hinv
      refine vX1_leastDial_30 _ _ _ _ _ _ G ?_
      rw [show (8 : Int32) = nI 8 from rfl, nI_leI (by omega) (by omega)]
      refine ⟨fun h1 => ?_, fun h1 => c5_ticksAt hC hW.b (by omega) (by omega) ?_⟩
      · have hinv' : ∀ x, L ≤ x ↔ 1 ≤ x ∧ ∀ i' l' tl, AF s (fltV s) b i' l' tl → (l' < l + 1 ∨ (l' = l + 1 ∧ i' < 0)) → d l' * tl + mg s ≤ x * tk s (cu s b) i' := by
          intro x
          rw [hinv x]
          constructor
          · rintro ⟨a1, a2⟩
            refine ⟨a1, fun i' l' tl hA q => a2 i' l' tl hA ?_⟩
            have := (AF_f hW hA).2.2.2.2.2.1
            omega
          · rintro ⟨a1, a2⟩
            exact ⟨a1, fun i' l' tl hA q => a2 i' l' tl hA (by omega)⟩
        rw [nI_1]
        refine vX1_leastDial_7 _ _ _ _ G ?_
        rw [hC.1.1, nI_leI (by omega) (by omega)]
        refine ⟨fun h2 => ⟨_, rfl, h L hL fun x => ?_⟩, fun h2 => c1_rowOf (by omega) (by omega) (ih (l + 1) 0 L (by omega) (by omega) (by omega) (by omega) hL hinv')⟩
        rw [hinv' x]
        constructor
        · rintro ⟨a1, a2⟩
          refine ⟨a1, fun tu l' tl hP => ?_⟩
          obtain ⟨i', rfl, hA⟩ := Pr_AF.mp hP
          refine a2 i' l' tl hA (Or.inl ?_)
          have := (hW.b.2.1 _ (AF_f hW hA).2.2.1).2.1
          omega
        · rintro ⟨a1, a2⟩
          exact ⟨a1, fun i' l' tl hA _ => a2 _ l' tl (Pr_AF.mpr ⟨i', rfl, hA⟩)⟩
      · have hi8 : i < 8 := by omega
        obtain ⟨T, t1, t2, t3, t4⟩ := hT.1 b l i hbl (by omega) hi8
        have hix := ix_lt hbl (show l < 30 by omega) hi8
        have e : nI ((tri l + b) * 8) + nI i = nI (ix b l i) := nI_add _ _
        have htb := tk_bd hW (b := b) hi8
        have hin : vp_in (nI (ix b l i)) 3480 := vp_in_nI hix (by omega)
        rw [e, nI_c (show ix b l i < 2 ^ 31 by omega), t2, nI_le0 (by omega), nI_le0 (by omega), n0_iff (by omega), nI_1, nI_c (show l < 2 ^ 31 by omega), hd l (by omega), hC.2.2.2.1]
        have hTL := Nat.mul_le_mul (hd40 l) t1
        refine ⟨hin, fun h2 => ih l (i + 1) L (by omega) hbl hl (by omega) hL fun x => ?_, fun h2 => ⟨fun h3 => ?_, fun h3 => ⟨vp_in_nI (by omega) (by omega), hin, h3, ?_⟩⟩⟩
        · rw [hinv x]
          constructor
          · rintro ⟨a1, a2⟩
            refine ⟨a1, fun i' l' tl hA q => a2 i' l' tl hA ?_⟩
            rcases q with q | ⟨rfl, q⟩
            · exact Or.inl q
            · refine Or.inr ⟨rfl, ?_⟩
              rcases Nat.lt_or_ge i' i with z | z
              · exact z
              · have : i' = i := by omega
                subst this
                have := t3 tl hA
                have := (AF_f hW hA).2.2.2.1
                omega
          · rintro ⟨a1, a2⟩
            exact ⟨a1, fun i' l' tl hA q => a2 i' l' tl hA (by omega)⟩
        · rcases t4 with z | z
          · exact absurd z h2
          · have := (AF_f hW z).2.2.2.2.2.2.1
            omega
        · have hAT : AF s (fltV s) b i l T := t4.resolve_left h2
          rw [pk_mul, nI_add, nI_add, nI_p1 (by omega), pk_div (by omega) (by omega) (by omega)]
          have hq := Nat.div_le_self (d l * T + mg s + tk s (cu s b) i - 1) (tk s (cu s b) i)
          rw [nI_lN (by omega), mx_l (by omega) (by omega)]
          refine ih l (i + 1) _ (by omega) hbl hl (by omega) (by omega) fun x => ?_
          rw [Nat.max_le, hinv x, cd_le (by omega)]
          constructor
          · rintro ⟨⟨a1, a2⟩, a3⟩
            refine ⟨a1, fun i' l' tl hA q => ?_⟩
            rcases q with q | ⟨rfl, q⟩
            · exact a2 i' l' tl hA (Or.inl q)
            · rcases Nat.lt_or_ge i' i with z | z
              · exact a2 i' l' tl hA (Or.inr ⟨rfl, z⟩)
              · have : i' = i := by omega
                subst this
                have := Nat.mul_le_mul (Nat.le_refl (d l')) (t3 tl hA)
                omega
          · rintro ⟨a1, a2⟩
            exact ⟨⟨a1, fun i' l' tl hA q => a2 i' l' tl hA (by omega)⟩, a2 i l T hAT (Or.inr ⟨rfl, by omega⟩)⟩
  rw [nI_1, show (1 : Int64) = lN 1 from rfl]
  refine vX1_leastDial_7 _ _ _ _ G ?_
  rw [hC.1.1, nI_leI (by omega) (by omega)]
  have no : ∀ i' l' tl, AF s (fltV s) b i' l' tl → b + 1 ≤ l' ∧ l' < kn s := fun i' l' tl hA => by
    have h1 := AF_f hW hA
    have := (hW.b.2.1 _ h1.2.2.1).2.1
    omega
  refine ⟨fun h2 => ⟨_, rfl, h 1 (by omega) fun x => ⟨fun q => ⟨q, fun tu l tl hP => ?_⟩, fun q => q.1⟩⟩, fun h2 => c1_rowOf (by omega) (by omega) (key 1000 (b + 1) 0 1 (by omega) (by omega) (by omega) (by omega) (by omega) fun x => ⟨fun q => ⟨q, fun i' l' tl hA z => ?_⟩, fun q => q.1⟩)⟩
  · obtain ⟨i', rfl, hA⟩ := Pr_AF.mp hP
    have := no i' l tl hA
    omega
  · have := no i' l' tl hA
    omega
end D2
