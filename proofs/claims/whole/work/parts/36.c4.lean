theorem abv_cg2 {s s' : NN} (h50 : s' 50 = s 50) (h51 : s' 51 = s 51) (k : Nat) : abv s' k = abv s k := by
  unfold abv
  have e : fr s' k = fr s k := by unfold fr; rw [h50]
  have e2 : bY s' = bY s := by funext j; unfold bY; rw [h51]
  rw [e, e2, way_cg h50]
theorem CNet_cg {s s' : NN} {G : GG} (h : CNet s G) (h0 : s' 49 0 = s 49 0) (h1 : s' 49 1 = s 49 1) (h2 : s' 49 2 = s 49 2) (h50 : s' 50 = s 50) (h51 : s' 51 = s 51) (h52 : s' 52 = s 52) : CNet s' G := by
  unfold CNet kn fo rs fr bY ld at *
  simp only [h0, h1, h2, h50, h51, h52, way_cg h50, abv_cg2 h50 h51]
  exact h
theorem CRow_cg {s s' : NN} {G : GG} (h : CRow s G) (h56 : s' 56 = s 56) (h57 : s' 57 = s 57) (h58 : s' 58 = s 58) (h59 : s' 59 = s 59) (h60 : s' 60 = s 60) (h61 : s' 61 = s 61) : CRow s' G := by
  unfold CRow hs fl cu dl pk go at *
  simp only [h56, h57, h58, h59, h60, h61]
  exact h
theorem CCur_cg {s s' : NN} {G : GG} (h : CCur s G) (h53 : s' 53 = s 53) (h54 : s' 54 = s 54) (h55 : s' 55 = s 55) : CCur s' G := by
  unfold CCur cn mu tk at *
  simp only [h53, h54, h55]
  exact h
theorem CRul_cg {s s' : NN} {G : GG} (h : CRul s G) (h3 : s' 49 3 = s 49 3) (h4 : s' 49 4 = s 49 4) (h5 : s' 49 5 = s 49 5) : CRul s' G := by
  unfold CRul mg lm la at *
  simp only [h3, h4, h5]
  exact h
/-- no run told -/
theorem CMis_no {s s' : NN} {G G' : GG} (h : CMis s G) (h17 : s' 49 17 = s 49 17) (h19 : s' 49 19 = 0) (h23 : s' 49 23 = s 49 23) (h64 : s' 64 = s 64) (g8 : G' 0 8 = G 0 8) (g9 : G' 0 9 = 0) (g18 : G' 18 2 = G 18 2) (g19 : G' 19 = G 19) : CMis s' G' := by
  obtain ⟨a1, -, -, a4, a5⟩ := h
  refine ⟨?_, ?_, fun q => ?_, ?_, ?_⟩
  · show G' 0 8 = nI (s' 49 17); rw [g8, h17]; exact a1
  · show G' 0 9 = nI (s' 49 19); rw [g9, h19]; rfl
  · have q : s' 49 19 = 1 := q
    rw [h19] at q; cases q
  · show G' 18 2 = nI (s' 49 23); rw [g18, h23]; exact a4
  · show ∀ i, i < s' 49 23 → G' 19 i = nI (s' 64 i)
    rw [h23, g19, h64]; exact a5
section C4
variable {s : NN} {G : GG} {P : Int32 → GG → Prop} {PL : Int64 → GG → Prop}
theorem c7_arcOf {k p f : Nat} (hC : CS s G) (hW : WF s) (hk1 : 1 ≤ k) (hk : k < kn s) (hp : p ≤ 16) (hf : f ≤ 1000) (h : PL (oL (arcN s k p f)) G) : CTl kX7_arcOf [.ref 0, .int (nI k), .int (nI p), .int (nI f)] G PL := by
  have hWn := hW.n
  have hsm := smN_le hWn hk1 hk hp hf
  have hfo := hWn.2.2.2.1
  refine vX7_arcOf _ _ _ _ G (c7_clearTick hC hW.w hk1 hk hp hf (c3_sumOf hC hWn hk1 hk hp hf ?_))
  have hcl : ∀ t, clN s k p f (kn s) = some t → t < 2 ^ 31 := fun t ht => by have := clN_le hW.c hW.b ht; omega
  rw [oI_m1 hcl]
  refine ⟨fun h1 => ⟨_, rfl, ?_⟩, fun h1 => ?_⟩
  · have : arcN s k p f = none := by unfold arcN; rw [h1]; rfl
    rw [this] at h
    exact h
  · obtain ⟨t, ht⟩ := Option.ne_none_iff_exists'.mp h1
    rw [ht]
    have ht4 := clN_le hW.c hW.b ht
    have hss : smN s k p f * smN s k p f ≤ 528000 * 528000 := Nat.mul_le_mul hsm.2 hsm.2
    have hss1 : 0 < smN s k p f * smN s k p f := Nat.mul_pos (by omega) (by omega)
    have hnum : 256 * fo s * fo s * t ≤ 256 * 10000 * 10000 * 40000 := Nat.mul_le_mul (Nat.mul_le_mul (Nat.mul_le_mul (Nat.le_refl _) hfo) hfo) ht4
    rw [show (1 : Int64) = lN 1 from rfl, pk_lLE (by omega) (by omega)]
    refine ⟨fun _ => c3_six hC hWn ?_, fun q => absurd (by omega) q⟩
    rw [lN_mul, show (0 : Int64) = lN 0 from rfl, lN_eq0 (by omega) (by omega)]
    refine ⟨by omega, _, rfl, ?_⟩
    rw [show oI (some t) = nI t from rfl, nI_lN (by omega), lN_mul, lN_mul]
    have e : 16 * fo s * (16 * fo s) * t = 256 * fo s * fo s * t := by
      congr 1
      rw [Nat.mul_mul_mul_comm, show 16 * 16 = 256 from rfl, Nat.mul_assoc]
    rw [e, pk_lDiv (by omega) hss1 (by omega)]
    have : arcN s k p f = some (256 * fo s * fo s * t / (smN s k p f * smN s k p f)) := by unfold arcN; rw [ht]; rfl
    rw [this] at h
    exact h
theorem c7_arc {k p f : Int32} (hC : CS s G) (hW : WF s) (h : PL (aArc s k p f) G) : CTl kX7_arc [.ref 0, .int k, .int p, .int f] G PL := by
  have hkn := hW.n.2.1
  unfold aArc at h
  refine vX7_arc _ _ _ _ G (c3_isFault hC hW.n (bI_rb (fun hc => ?_) (fun hc => ⟨_, rfl, ?_⟩)))
  · rw [if_pos hc] at h
    obtain ⟨a, b, c, a1, a2, b2, c2, rfl, rfl, rfl⟩ := ftP_n hc hkn
    rw [show cl (nI a) = a from nI_c (by omega), show cl (nI b) = b from nI_c (by omega), show cl (nI c) = c from nI_c (by omega)] at h
    exact c7_arcOf hC hW a1 a2 b2 c2 ⟨_, rfl, h⟩
  · rw [if_neg hc] at h; exact h
theorem oL_m1 {o : Option Nat} (h : ∀ w, o = some w → w < 2 ^ 63) : oL o = -1 ↔ o = none := by
  cases o with
  | none => simp [oL]
  | some w =>
    have hw := h w rfl
    constructor
    · intro q
      have q : lN w = -1 := q
      have h1 : (lN w).toInt = (-1 : Int64).toInt := by rw [q]
      rw [pk_lT hw, show (-1 : Int64).toInt = -1 by decide] at h1
      omega
    · intro q; cases q
/-- the FAULTS of a LINE: none isn't cleared, and which is the worst -/
def LwIs (s : NN) (k : Nat) (o : Option Nat) : Prop := (o = none ∧ ∃ p f, fltV s k p f ∧ arcN s k p f = none) ∨ (∃ M, o = some M ∧ M < 2 ^ 62 ∧ (∀ p f, fltV s k p f → ∃ a, arcN s k p f = some a ∧ a ≤ M) ∧ (M = 0 ∨ ∃ p f, fltV s k p f ∧ arcN s k p f = some M))
theorem mx_l {a b : Nat} (ha : a < 2 ^ 63) (hb : b < 2 ^ 63) : (if lN a < lN b then lN b else lN a) = lN (max b a) := by
  by_cases h : a < b
  · rw [if_pos ((lN_r ha hb).mpr h), Nat.max_eq_left (by omega)]
  · rw [if_neg (fun q => h ((lN_r ha hb).mp q)), Nat.max_eq_right (by omega)]
theorem c7_worstOf {k : Nat} (hC : CS s G) (hW : WF s) (hk1 : 1 ≤ k) (hk : k < kn s) (h : ∀ o, LwIs s k o → PL (oL o) G) : CTl kX7_worstOf [.ref 0, .int (nI k)] G PL := by
  have hla := hW.r.2.2.2.2.1
  refine vX7_worstOf _ _ G ?_
  have key : ∀ m p j M : Nat, (17 - p) * 4 + (2 - j) ≤ m → p ≤ 16 → j ≤ 2 → M < 2 ^ 62 → (∀ p' f, p' < p → (f = 0 ∨ f = la s) → ∃ a, arcN s k p' f = some a ∧ a ≤ M) → (∀ i, i < j → ∃ a, arcN s k p (i % 2 * la s) = some a ∧ a ≤ M) → (M = 0 ∨ ∃ p f, fltV s k p f ∧ arcN s k p f = some M) → zJ kX7_worstOf (fun r G' => ∃ x, r = some (.long x) ∧ PL x G') 15 [(0, .ref 0), (1, .int (nI k)), (2, .long (lN M)), (4, .int (nI p)), (5, .int (nI j))] [] G := by
    intro m
    induction m with
    | zero => intro p j M hm; omega
    | succ m ih =>
      intro p j M hm hp hj hMb hall hrow hat
      refine vX7_worstOf_15 _ _ _ _ _ G (c6_many hC hla ?_)
      rw [nI_leI (by split <;> omega) (by omega)]
      refine ⟨fun h1 => ?_, fun h1 => c6_asked hC (by split at h1 <;> omega) ?_⟩
      · -- this place is done
        have hall' : ∀ p' f, p' < p + 1 → (f = 0 ∨ f = la s) → ∃ a, arcN s k p' f = some a ∧ a ≤ M := by
          intro p' f hp' hf
          rcases Nat.lt_or_ge p' p with q | q
          · exact hall p' f q hf
          · have : p' = p := by omega
            subst this
            by_cases h0 : la s = 0
            · rw [if_pos h0] at h1
              have := hrow 0 (by omega)
              rw [Nat.zero_mod, Nat.zero_mul] at this
              rcases hf with rfl | rfl
              · exact this
              · rw [h0]; exact this
            · rw [if_neg h0] at h1
              rcases hf with rfl | rfl
              · have := hrow 0 (by omega)
                rw [Nat.zero_mod, Nat.zero_mul] at this
                exact this
              · have := hrow 1 (by omega)
                rw [show 1 % 2 = 1 from rfl, Nat.one_mul] at this
                exact this
        rw [nI_1]
        refine vX7_worstOf_5 _ _ _ _ G ?_
        rw [show (16 : Int32) = nI 16 from rfl, nI_ltI (by omega) (by omega)]
        refine ⟨fun h2 => ⟨_, rfl, h (some M) (Or.inr ⟨M, rfl, hMb, fun p' f hv => hall' p' f (by have := hv.2.2.1; omega) hv.2.2.2, hat⟩)⟩, fun h2 => ?_⟩
        exact ih (p + 1) 0 M (by omega) (by omega) (by omega) hMb hall' (fun i hi => by omega) hat
      · have hj2 : j < 2 := by split at h1 <;> omega
        have hfl : j % 2 * la s = 0 ∨ j % 2 * la s = la s := by
          have : j = 0 ∨ j = 1 := by omega
          rcases this with rfl | rfl
          · left; rw [Nat.zero_mod, Nat.zero_mul]
          · right; rw [show 1 % 2 = 1 from rfl, Nat.one_mul]
        have hf1000 : j % 2 * la s ≤ 1000 := by rcases hfl with q | q <;> omega
        refine c7_arcOf hC hW hk1 hk hp hf1000 ?_
        have hal : ∀ w, arcN s k p (j % 2 * la s) = some w → w < 2 ^ 63 := fun w hw => by have := arcN_le hW.w hw; omega
        rw [oL_m1 hal, nI_1]
        refine ⟨fun h2 => ?_, fun h2 => ⟨_, rfl, h none (Or.inl ⟨rfl, p, _, ⟨hk1, hk, hp, hfl⟩, h2⟩)⟩⟩
        obtain ⟨a, ha⟩ := Option.ne_none_iff_exists'.mp h2
        have ha4 := arcN_le hW.w ha
        rw [ha, show oL (some a) = lN a from rfl, mx_l (by omega) (by omega)]
        refine ih p (j + 1) (max M a) (by omega) hp (by omega) (by omega) ?_ ?_ ?_
        · intro p' f hp' hf
          obtain ⟨x, hx, hx2⟩ := hall p' f hp' hf
          exact ⟨x, hx, by omega⟩
        · intro i hi
          rcases Nat.lt_or_ge i j with q | q
          · obtain ⟨x, hx, hx2⟩ := hrow i q
            exact ⟨x, hx, by omega⟩
          · rw [show i = j by omega]
            exact ⟨a, ha, by omega⟩
        · rcases Nat.le_total M a with q | q
          · rw [Nat.max_eq_right q]
            exact Or.inr ⟨p, _, ⟨hk1, hk, hp, hfl⟩, ha⟩
          · rw [Nat.max_eq_left q]
            exact hat
  refine vX7_worstOf_5 _ _ _ _ G ⟨fun q => absurd q (by decide), fun _ => key 100 0 0 0 (by omega) (by omega) (by omega) (by omega) (fun p' f hp' => by omega) (fun i hi => by omega) (Or.inl rfl)⟩
theorem c7_worst (hC : CS s G) (hW : WF s) (h : ∀ r, WorstIs s r → PL r G) : CTl kX7_worst [.ref 0] G PL := by
  have hkn := hW.n.2.1
  refine vX7_worst _ G ?_
  have key : ∀ m k M : Nat, k + m = kn s → 1 ≤ k → M < 2 ^ 62 → (∀ k' p f, k' < k → fltV s k' p f → ∃ a, arcN s k' p f = some a ∧ a ≤ M) → (M = 0 ∨ ∃ k' p f, fltV s k' p f ∧ arcN s k' p f = some M) → zJ kX7_worst (fun r G' => ∃ x, r = some (.long x) ∧ PL x G') 4 [(0, .ref 0), (1, .long (lN M)), (3, .int (nI k))] [] G := by
    intro m
    induction m with
    | zero =>
      intro k M hk hk1 hMb hall hat
      have hkk : k = kn s := by omega
      subst hkk
      refine vX7_worst_4 _ _ _ G ⟨fun _ => ⟨_, rfl, h _ (Or.inr ⟨M, rfl, hMb, fun k' p f hv => hall k' p f hv.2.1 hv, hat⟩)⟩, fun h1 => ?_⟩
      rw [hC.1.1] at h1
      exact absurd (nI_le (by omega) (by omega)) h1
    | succ m ih =>
      intro k M hk hk1 hMb hall hat
      refine vX7_worst_4 _ _ _ G ⟨fun h1 => ?_, fun _ => c7_worstOf hC hW hk1 (by omega) fun o ho => ?_⟩
      · rw [hC.1.1] at h1
        exact absurd h1 (nI_ge (by omega) (by omega))
      · rcases ho with ⟨rfl, p, f, hv, hn⟩ | ⟨N, rfl, hN, hall2, hat2⟩
        · exact ⟨fun q => absurd rfl q, fun _ => ⟨_, rfl, h _ (Or.inl ⟨rfl, k, p, f, hv, hn⟩)⟩⟩
        · rw [oL_m1 (fun w hw => by cases hw; omega), nI_1, show oL (some N) = lN N from rfl, mx_l (by omega) (by omega)]
          refine ⟨fun _ => ih (k + 1) (max M N) (by omega) (by omega) (by omega) ?_ ?_, fun q => by cases q⟩
          · intro k' p f hk' hv
            rcases Nat.lt_or_ge k' k with q | q
            · obtain ⟨x, hx, hx2⟩ := hall k' p f q hv
              exact ⟨x, hx, by omega⟩
            · have : k' = k := by omega
              subst this
              obtain ⟨x, hx, hx2⟩ := hall2 p f hv
              exact ⟨x, hx, by omega⟩
          · rcases Nat.le_total M N with q | q
            · rw [Nat.max_eq_right q]
              rcases hat2 with z | ⟨p, f, hv, ha⟩
              · exact Or.inl z
              · exact Or.inr ⟨k, p, f, hv, ha⟩
            · rw [Nat.max_eq_left q]
              exact hat
  exact key (kn s - 1) 1 0 (by have := hW.n.1; omega) (by omega) (by omega) (fun k' p f hk' hv => by have := hv.1; omega) (Or.inl rfl)
theorem c7_growthOf {b : Nat} (hC : CS s G) (hW : WF s) (hb1 : 1 ≤ b) (hb : b < kn s) (h : PL (lN (gw s b)) G) : CTl kX7_growthOf [.ref 0, .int (nI b)] G PL := by
  have hkn := hW.n.2.1
  have hld := ldS_le hW.n (k := b) (kn s)
  have hwb := hW.b.1 b
  have hcc := hW.c (cu s b) hwb.2.2.1
  refine vX7_growthOf _ _ G (c3_cbl hC hW.n hb1 hb (c5_lts hC hW.b hW.c (by omega) ?_))
  have hq1 : hs s b = 1 ∧ cn s (cu s b) ≠ 0 → pk s b * mu s (cu s b) 0 ≤ 10000 * 1000 ∧ 1 ≤ pk s b * mu s (cu s b) 0 := by
    intro q
    have hmu := hcc.2.1 0 (by have := q.2; omega)
    have hpk := (hW.b.2.1 b q.1).2.2.2
    exact ⟨Nat.mul_le_mul hwb.2.2.2.2.1 hmu.2.1, Nat.mul_pos (by omega) (by omega)⟩
  have hol : ∀ w, (if hs s b = 1 ∧ cn s (cu s b) ≠ 0 then some (pk s b * mu s (cu s b) 0) else none) = some w → w < 2 ^ 63 := by
    intro w hw
    split at hw
    · next q => cases hw; have := (hq1 q).1; omega
    · cases hw
  rw [oL_m1 hol, nI_lN (by omega), show (1 : Int64) = lN 1 from rfl, lN_r (by omega) (by omega), show (0 : Int64) = lN 0 from rfl, lN_eq0 (by omega) (by omega)]
  refine ⟨fun h1 => ⟨_, rfl, ?_⟩, fun h1 => ⟨fun h2 => ⟨by omega, _, rfl, ?_⟩, fun h2 => ⟨_, rfl, ?_⟩⟩⟩
  · rw [gw, if_neg (fun q => by have := q.2.2; omega)] at h; exact h
  · have q : hs s b = 1 ∧ cn s (cu s b) ≠ 0 := by
      apply Decidable.byContradiction
      intro z
      exact h2 (if_neg z)
    have hq := hq1 q
    rw [if_pos q, show oL (some (pk s b * mu s (cu s b) 0)) = lN (pk s b * mu s (cu s b) 0) from rfl, show (10 : Int64) = lN 10 from rfl, lN_mul, lN_sub (by omega), pk_lDiv (by omega) (by omega) (by omega)]
    rw [gw, if_pos ⟨q.1, q.2, by omega⟩] at h
    exact h
  · have q : ¬ (hs s b = 1 ∧ cn s (cu s b) ≠ 0) := by
      intro z
      rw [if_pos z] at h2
      cases h2
    rw [gw, if_neg (fun z => q ⟨z.1, z.2.1⟩)] at h; exact h
theorem gw_le (hW : WF s) (b : Nat) : gw s b ≤ 100000000 := by
  unfold gw
  split
  · next q =>
    have hwb := hW.b.1 b
    have hmu := (hW.c (cu s b) hwb.2.2.1).2.1 0 (by have := q.2.1; omega)
    have := Nat.mul_le_mul hwb.2.2.2.2.1 hmu.2.1
    refine Nat.le_trans (Nat.div_le_self _ _) ?_
    omega
  · omega
theorem c7_growth (hC : CS s G) (hW : WF s) (h : P (nI (gwS s (kn s))) G) : CTi kX7_growth [.ref 0] G P := by
  have hkn := hW.n.2.1
  have hk1 := hW.n.1
  refine vX7_growth _ G ?_
  have key : ∀ n b : Nat, b + n = kn s → 1 ≤ b → zJ kX7_growth (fun r G' => ∃ x, r = some (.int x) ∧ P x G') 6 [(0, .ref 0), (1, .long (lN (gwS s b))), (3, .int (nI b))] [] G := by
    intro n
    induction n with
    | zero =>
      intro b hb hb1
      have hbb : b = kn s := by omega
      subst hbb
      refine vX7_growth_6 _ _ _ G ⟨fun _ => ⟨_, rfl, ?_⟩, fun h1 => ?_⟩
      · rw [lN_i]; exact h
      · rw [hC.1.1] at h1
        exact absurd (nI_le (by omega) (by omega)) h1
    | succ n ih =>
      intro b hb hb1
      refine vX7_growth_6 _ _ _ G ⟨fun h1 => ?_, fun _ => c7_growthOf hC hW hb1 (by omega) ?_⟩
      · rw [hC.1.1] at h1
        exact absurd h1 (nI_ge (by omega) (by omega))
      · have h1 := gw_le hW b
        have h2 := gwS_le (s := s) b
        have hih := ih (b + 1) (by omega) (by omega)
        rw [gwS] at hih
        rw [nI_1]
        have e : (if lN (gw s b) < lN (gwS s b) then lN (gw s b) else lN (gwS s b)) = lN (min (gwS s b) (gw s b)) := by
          by_cases q : gw s b < gwS s b
          · rw [if_pos ((lN_r (by omega) (by omega)).mpr q), Nat.min_eq_right (by omega)]
          · rw [if_neg (fun z => q ((lN_r (by omega) (by omega)).mp z)), Nat.min_eq_left (by omega)]
        rw [e]
        exact hih
  have e1 : gwS s 1 = 100000 := by
    rw [gwS, gwS, gw, if_neg (fun q => by have := (hW.b.2.1 0 q.1).1; omega)]
    rfl
  have := key (kn s - 1) 1 (by omega) (by omega)
  rw [e1] at this
  exact this
theorem c7_step {i : Int32} (hM : CMis s G) (hW : WF s) (h : P (aStep s i) G) : CTi kX7_step [.ref 0, .int i] G P := by
  have hsn := hW.r.2.2.2.2.2.2.2.1
  unfold aStep at h
  have hcond : inR i 0 ((sn s : Int) - 1) ↔ (0 ≤ i.toInt ∧ i.toInt < (sn s : Int)) := by unfold inR; omega
  have e1 : (nI (sn s) - 1).toInt = (sn s : Int) - 1 := by
    rcases Nat.eq_zero_or_pos (sn s) with q | q
    · rw [q]; decide
    · rw [nI_p1 q, nI_toInt (by omega)]; omega
  refine vX7_step _ _ G ?_
  rw [hM.2.2.2.1]
  refine c7_in (a := 0) (b := (sn s : Int) - 1) (by decide) e1 (bI_br (fun h1 => ⟨_, rfl, ?_⟩) (fun h1 => ?_))
  · rw [hcond] at h1
    rw [if_neg h1] at h; exact h
  · rw [hcond] at h1
    rw [if_pos h1] at h
    have e := nI_self h1.1
    have e2 := toInt_c h1.1
    refine ⟨?_, _, rfl, ?_⟩
    · rw [e]; exact vp_in_nI (by omega) (by omega)
    · rw [hM.2.2.2.2 _ (by omega)]; exact h
theorem c7_ran {b w : Int32} (hR : CR s G) (hW : WF s) (h : P (aRan s b w) G) : CTi kX7_ran [.ref 0, .int b, .int w] G P := by
  have hC := hR.s
  have hM := hR.2.2.2.2
  have hkn := hW.n.2.1
  have hhr := hW.r.2.2.2.2.2.2.1
  unfold aRan at h
  refine vX7_ran _ _ _ G ?_
  rw [hM.2.1, n0_iff (by omega)]
  have st33 : hr s = 1 → (w = 0 → ¬ (0 ≤ b.toInt ∧ hs s (cl b) = 1)) → zJ kX7_ran (fun r G' => ∃ x, r = some (.int x) ∧ P x G') 33 [(0, .ref 0), (1, .int b), (2, .int w)] [] G := by
    intro h1 hno
    refine vX7_ran_33 _ _ _ G ⟨fun h2 => ⟨_, rfl, ?_⟩, fun h2 => c3_isKnot hC hW.n (bI_br (fun h3 => ⟨_, rfl, ?_⟩) (fun h3 => ?_))⟩
    · rw [if_neg] at h
      · exact h
      · rintro ⟨-, q1, q2, q3⟩
        rcases q2 with q2 | q2
        · exact hno q2 ⟨q1.1, q3 q2⟩
        · exact h2 q2
    · rw [if_neg (fun q => h3 q.2.1)] at h; exact h
    · subst h2
      rw [if_pos ⟨h1, h3, Or.inr rfl, fun q => absurd q (by decide)⟩, if_neg (by decide)] at h
      obtain ⟨a, a1, rfl⟩ := ktP_n h3 hkn
      rw [show cl (nI a) = a from nI_c (by omega)] at h
      rw [nI_c (by omega)]
      have hdk := hW.r.2.2.2.2.2.2.2.2.2.1 h1 a a1
      have hd1 := (hW.r.2.2.2.2.2.2.2.2.1 a).2.1
      have key : G 5 a &&& G 0 10 = 0 ↔ ¬ dk s a = 1 := by
        rw [hdk]
        have hb : ∀ c, bt (G 5 a &&& G 0 10) c = decide (c ∈ way s a ∧ op s c = 1) := by
          intro c
          rw [b_and, hC.1.2.2.2.2.2.2.1 a a1 c, hM.2.2.1 h1 c]
          by_cases q : c ∈ way s a
          · have := way_le q
            have : c < kn s := by omega
            simp [q, this]
          · simp [q]
        constructor
        · rintro q ⟨x, x1, x2⟩
          have := hb x
          rw [q, b_0, decide_eq_true ⟨x1, x2⟩] at this
          cases this
        · intro q
          apply b_ext
          intro i _
          rw [hb i, b_0, decide_eq_false]
          rintro ⟨x1, x2⟩
          exact q ⟨i, x1, x2⟩
      rw [key]
      refine ⟨vp_in_nI (by omega) (by omega), fun q => ⟨_, rfl, ?_⟩, fun q => ⟨_, rfl, ?_⟩⟩
      · rw [show dk s a = 0 by omega] at h; exact h
      · rw [show dk s a = 1 by omega] at h; exact h
  refine ⟨fun h1 => ⟨fun h2 => st33 (by omega) (fun q => absurd q h2), fun h2 => c5_isThere hC hW.n hW.b (bI_br (fun h3 => st33 (by omega) (fun _ => h3)) (fun h3 => ⟨_, rfl, ?_⟩))⟩, fun h1 => ⟨_, rfl, ?_⟩⟩
  · subst h2
    have hk : ktP s b := by
      have := (hW.b.2.1 _ h3.2).2.1
      have := toInt_c h3.1
      unfold ktP cl at *
      omega
    rw [if_pos ⟨by omega, hk, Or.inl rfl, fun _ => h3.2⟩, if_pos rfl] at h
    obtain ⟨a, a1, rfl⟩ := ktP_n hk hkn
    rw [show cl (nI a) = a from nI_c (by omega)] at h
    have hop := (hW.r.2.2.2.2.2.2.2.2.1 a).1
    have e : ((G 0 10) >>> (nI a &&& 31)) &&& 1 = nI (op s a) := by
      have hb := hM.2.2.1 (by omega) a
      apply b_ext
      intro i hi
      rw [b_and, b_1, bt_nI]
      by_cases hi0 : i = 0
      · subst hi0
        rw [b_sshr a (by omega) _ (by omega), if_pos (by omega), Nat.add_zero, hb]
        have : op s a = 0 ∨ op s a = 1 := by omega
        rcases this with q | q <;> simp [q, a1]
      · have : (op s a).testBit i = false := by
          apply Nat.testBit_lt_two_pow
          have : 2 ^ 1 ≤ 2 ^ i := Nat.pow_le_pow_right (by omega) (by omega)
          omega
        simp [hi0, this]
    rw [e]
    exact h
  · rw [if_neg (fun q => by have := q.1; omega)] at h; exact h
end C4
