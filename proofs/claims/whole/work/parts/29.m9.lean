section M9
variable {s : NN} {G : GG} {P : Int32 → GG → Prop}
theorem c8_raises (hM : MR s G) (hW : WF s) (h0 : Sol s (dl s) → P 0 G) (h1 : ∀ b tu l tl, Pr s b tu l tl → dl s b * tu < dl s l * tl + mg s → dl s b = 40 → P (-1) G) (h2 : ∀ b tu l tl, Pr s b tu l tl → dl s b * tu < dl s l * tl + mg s → dl s b < 40 → P 1 (gU G 58 b (nI (dl s b + 1)))) : CTi kX8_raises [.ref 49] G P := by
  have hkn := hW.n.2.1
  have hk1 := hW.n.1
  have hla := hW.r.2.2.2.2.1
  refine vX8_raises _ G ?_
  let bef : Nat → Nat → Nat → Nat → Nat → Prop := fun k n k' p f => 1 ≤ k' ∧ ((k' < k ∧ p ≤ 16 ∧ (f = 0 ∨ f = la s)) ∨ (k' = k ∧ ∃ i, i < n ∧ p = i / 2 ∧ f = i % 2 * la s))
  have key : ∀ m k n : Nat, (30 - k) * 40 + (34 - n) ≤ m → 1 ≤ k → k < kn s → n ≤ 34 → (∀ k' p f, bef k n k' p f → tsN s k' p f = none) → zJ kX8_raises (fun r G' => ∃ x, r = some (.int x) ∧ P x G') 12 [(0, .ref 49), (1, .int (nI k)), (2, .int (nI n))] [] G := by
    intro m
    induction m with
    | zero => intro k n hm; omega
    | succ m ih =>
      intro k n hm hk1 hk hn hall
      refine vX8_raises_12 _ _ _ G ⟨fun h3 => ?_, fun h3 => ?_⟩
      · rw [show (34 : Int32) = nI 34 from rfl, nI_leI (by omega) (by omega)] at h3
        have hn34 : n = 34 := by omega
        subst hn34
        have hall' : ∀ k' p f, 1 ≤ k' → k' < k + 1 → p ≤ 16 → (f = 0 ∨ f = la s) → tsN s k' p f = none := by
          intro k' p f q1 q2 q3 q4
          rcases Nat.lt_or_ge k' k with q | q
          · exact hall k' p f ⟨q1, Or.inl ⟨q, q3, q4⟩⟩
          · refine hall k' p f ⟨q1, Or.inr ⟨by omega, ?_⟩⟩
            rcases q4 with rfl | rfl
            · exact ⟨2 * p, by omega, by omega, by rw [show 2 * p % 2 = 0 by omega, Nat.zero_mul]⟩
            · exact ⟨2 * p + 1, by omega, by omega, by rw [show (2 * p + 1) % 2 = 1 by omega, Nat.one_mul]⟩
        rw [nI_1]
        refine vX8_raises_2 _ _ G ?_
        rw [hM.1, nI_leI (by omega) (by omega)]
        refine ⟨fun h4 => ⟨_, rfl, h0 (tsN_Sol.mp fun k' p f ⟨q1, q2, q3, q4⟩ => hall' k' p f q1 (by omega) q3 q4)⟩, fun h4 => ih (k + 1) 0 (by omega) (by omega) (by omega) (by omega) ?_⟩
        rintro k' p f ⟨q1, ⟨q2, q3, q4⟩ | ⟨q2, i, q3, -⟩⟩
        · exact hall' k' p f q1 q2 q3 q4
        · omega
      · rw [show (34 : Int32) = nI 34 from rfl, nI_leI (by omega) (by omega)] at h3
        have hn34 : n < 34 := by omega
        have hh := half34 (s := s) hn34
        have e := nf_eq hn34 hM
        have e3 := e.2
        rw [e.1] at e3
        have hf1000 : n % 2 * la s ≤ 1000 := by rcases hh.2 with q | q <;> omega
        rw [e.1, e3]
        refine c8_tooShort hM hW.w ⟨hW.r.1, hW.r.2.1⟩ hk1 hk hh.1 hf1000 ?_
        have htl : ∀ t, tsN s k (n / 2) (n % 2 * la s) = some t → t < 2 ^ 31 := fun t ht => by have := tsN_lt ht; omega
        rw [oI_le htl, nI_1]
        refine ⟨fun ⟨b, hb⟩ => ?_, fun hno => ih k (n + 1) (by omega) hk1 hk (by omega) ?_⟩
        · rw [hb]
          have hbl := tsN_lt hb
          have hb31 : b < 2 ^ 31 := by omega
          have hin : vp_in (nI b) 30 := vp_in_nI (by omega) (by omega)
          obtain ⟨tu, l, tl, hp1, hp2⟩ := tsN_Pr ⟨hk1, hk, hh⟩ hb
          have hd := (hW.b.1 b).2.2.2.1
          show vp_in (nI b) 30 ∧ (¬ G 58 (nI b).toNatClampNeg = 40 → vp_in (nI b) 30 ∧ vp_in (nI b) 30 ∧ _) ∧ (G 58 (nI b).toNatClampNeg = 40 → _)
          rw [show (oI (some b)).toNatClampNeg = b from nI_c hb31, nI_c hb31, hM.q58, show (40 : Int32) = nI 40 from rfl, nI_eq (by omega) (by omega), nI_1]
          exact ⟨hin, fun h4 => ⟨hin, hin, _, rfl, h2 b tu l tl hp1 hp2 (by omega)⟩, fun h4 => ⟨_, rfl, h1 b tu l tl hp1 hp2 h4⟩⟩
        · have htn : tsN s k (n / 2) (n % 2 * la s) = none := by
            cases hw : tsN s k (n / 2) (n % 2 * la s) with
            | none => rfl
            | some w => exact absurd ⟨w, hw⟩ hno
          rintro k' p f ⟨q1, q2 | ⟨q2, i, q3, q4, q5⟩⟩
          · exact hall k' p f ⟨q1, Or.inl q2⟩
          · rcases Nat.lt_or_ge i n with q | q
            · exact hall k' p f ⟨q1, Or.inr ⟨q2, i, q, q4, q5⟩⟩
            · have : i = n := by omega
              subst this
              subst q2 q4 q5
              exact htn
  refine vX8_raises_2 _ _ G ?_
  rw [hM.1, show (1 : Int32) = nI 1 from rfl, nI_leI (by omega) (by omega)]
  refine ⟨fun h2 => ⟨_, rfl, h0 (tsN_Sol.mp fun k' p f ⟨q1, q2, q3, q4⟩ => absurd q2 (by omega))⟩, fun h2 => key 2000 1 0 (by omega) (by omega) (by omega) (by omega) ?_⟩
  rintro k' p f ⟨q1, ⟨q2, q3, q4⟩ | ⟨q2, i, q3, -⟩⟩ <;> omega
theorem Sol_dS {d d' : Nat → Nat} : Sol (dS s d) d' ↔ Sol s d' := by
  unfold Sol
  simp only [dS_Pr, dS_mg]
theorem c8_fit (hM : MR s G) (hW : WF s) (hno : FitNo s → ∀ G', MR s G' → sLo G G' → P (-1) G') (hwr : ∀ d, FitYes s d → rtN (dS s d) ≠ none → ∀ G', MR s G' → sLo G G' → P (-1) G') (hyes : ∀ d, FitYes s d → rtN (dS s d) = none → ∀ G', MR (nFit s d) G' → sLo G G' → P (nI (fsN s d (kn s))) G') : CTi kX8_fit [.ref 49] G P := by
  have hkn := hW.n.2.1
  have hk1 := hW.n.1
  have h00 : hs s 0 ≠ 1 := fun q => by have := (hW.b.2.1 0 q).1; omega
  refine vX8_fit _ G ?_
  -- the way back
  have back : ∀ d : Nat → Nat, (∀ x, ¬ hs s x = 1 → d x = dl s x) → P (-1) = P (-1) → ∀ m j : Nat, j + m = kn s → 1 ≤ j → ∀ G1, MR (dS s (fun x => if 1 ≤ x ∧ x < j then dl s x else d x)) G1 → sLo G G1 → (∀ x, 1 ≤ x → x < kn s → G1 65 x = nI (dl s x)) → (∀ G', MR s G' → sLo G G' → P (-1) G') → zJ kX8_fit (fun r G' => ∃ x, r = some (.int x) ∧ P x G') 72 [(0, .ref 49), (2, .int (nI j))] [] G1 := by
    intro d hd _ m
    induction m with
    | zero =>
      intro j hj hj1 G1 hM1 hL hK hP
      have hjk : j = kn s := by omega
      subst hjk
      have e : (fun x => if 1 ≤ x ∧ x < kn s then dl s x else d x) = dl s := by
        funext x
        by_cases hx : 1 ≤ x ∧ x < kn s
        · rw [if_pos hx]
        · rw [if_neg hx]
          refine hd x (fun q => hx ?_)
          exact ⟨(hW.b.2.1 x q).1, (hW.b.2.1 x q).2.1⟩
      rw [e, dS_id] at hM1
      refine vX8_fit_72 _ _ G1 ⟨fun _ => ⟨_, rfl, hP G1 hM1 hL⟩, fun h1 => ?_⟩
      rw [hM1.1] at h1
      exact absurd (nI_le (by omega) (by omega)) h1
    | succ m ih =>
      intro j hj hj1 G1 hM1 hL hK hP
      have hj31 : j < 2 ^ 31 := by omega
      have hin : vp_in (nI j) 30 := vp_in_nI (by omega) (by omega)
      refine vX8_fit_72 _ _ G1 ⟨fun h1 => ?_, fun _ => ⟨hin, hin, ?_⟩⟩
      · rw [hM1.1, dS_kn] at h1
        exact absurd h1 (nI_ge (by omega) (by omega))
      · rw [nI_c hj31, hK j hj1 (by omega), nI_1]
        have hM2 := hM1.set (p := 58) j (dl s j) (by omega) (by omega) (by omega)
        rw [dS_U] at hM2
        have e : (fun i => if i = j then dl s j else if 1 ≤ i ∧ i < j then dl s i else d i) = (fun x => if 1 ≤ x ∧ x < j + 1 then dl s x else d x) := by
          funext i
          by_cases hi : i = j
          · subst hi
            rw [if_pos rfl, if_pos (by omega)]
          · rw [if_neg hi]
            have : (1 ≤ i ∧ i < j) ↔ (1 ≤ i ∧ i < j + 1) := by omega
            simp only [this]
        rw [e] at hM2
        exact ih (j + 1) (by omega) (by omega) _ hM2 (hL.u (by omega)) (fun x h1 h2 => by rw [gU_n (by omega)]; exact hK x h1 h2) hP
  -- the sum
  have summ : ∀ d : Nat → Nat, (∀ x, d x ≤ 40) → FitYes s d → rtN (dS s d) = none → ∀ m j : Nat, j + m = kn s → ∀ G1, MR (nFit s d) G1 → sLo G G1 → zJ kX8_fit (fun r G' => ∃ x, r = some (.int x) ∧ P x G') 109 [(0, .ref 49), (2, .int (nI (fsN s d j))), (3, .int (nI j))] [] G1 := by
    intro d hd40 hF hR m
    have ekn : kn (nFit s d) = kn s := by show sU (dS s d) 49 19 0 49 0 = _; rw [sU_k (by omega), dS_p (by omega)]
    have ehs : ∀ x, hs (nFit s d) x = hs s x := fun x => by show sU (dS s d) 49 19 0 56 x = _; rw [sU_n (by omega), dS_p (by omega)]
    have edl : ∀ x, dl (nFit s d) x = d x := fun x => by show sU (dS s d) 49 19 0 58 x = _; rw [sU_n (by omega), dS_d]
    induction m with
    | zero =>
      intro j hj G1 hM1 hL
      have hjk : j = kn s := by omega
      subst hjk
      refine vX8_fit_109 _ _ _ G1 ⟨fun _ => ⟨_, rfl, hyes d hF hR G1 hM1 hL⟩, fun h1 => ?_⟩
      rw [hM1.1, ekn] at h1
      exact absurd (nI_le (by omega) (by omega)) h1
    | succ m ih =>
      intro j hj G1 hM1 hL
      have hj31 : j < 2 ^ 31 := by omega
      have hin : vp_in (nI j) 30 := vp_in_nI (by omega) (by omega)
      have hih := ih (j + 1) (by omega) G1 hM1 hL
      rw [fsN] at hih
      refine vX8_fit_109 _ _ _ G1 ⟨fun h1 => ?_, fun _ => ?_⟩
      · rw [hM1.1, ekn] at h1
        exact absurd h1 (nI_ge (by omega) (by omega))
      · rw [nI_c hj31, hM1.q56, hM1.q58, ehs, edl, hs_ne hW.b, nI_add, nI_1, show (0 : Int32) = nI 0 from rfl, nI_add]
        refine ⟨hin, fun h1 => ?_, fun h1 => ⟨hin, ?_⟩⟩
        · rw [if_neg h1] at hih; exact hih
        · rw [if_pos (Decidable.not_not.mp h1)] at hih; exact hih
  -- the loop
  have loop : ∀ m : Nat, ∀ d : Nat → Nat, (∀ x, d x ≤ 40) → pos s d → (∀ x, ¬ hs s x = 1 → d x = dl s x) → (∀ d', Sol s d' → pos s d' → ∀ x, hs s x = 1 → d x ≤ d' x) → 1201 ≤ m + smD d 30 → ∀ G1, MR (dS s d) G1 → sLo G G1 → (∀ x, 1 ≤ x → x < kn s → G1 65 x = nI (dl s x)) → zJ kX8_fit (fun r G' => ∃ x, r = some (.int x) ∧ P x G') 46 [(0, .ref 49), (1, .int (1 : Int32))] [] G1 := by
    intro m
    induction m with
    | zero =>
      intro d h40 _ _ _ hm
      have := smD_le h40 30
      omega
    | succ m ih =>
      intro d h40 hpos hnon hleast hm G1 hM1 hL hK
      have hWd : WF (dS s d) := dS_WF hW h40 hpos
      have hbk : ∀ G2, MR (dS s d) G2 → sLo G G2 → (∀ x, 1 ≤ x → x < kn s → G2 65 x = nI (dl s x)) → (∀ G', MR s G' → sLo G G' → P (-1) G') → zJ kX8_fit (fun r G' => ∃ x, r = some (.int x) ∧ P x G') 72 [(0, .ref 49), (2, .int (1 : Int32))] [] G2 := by
        intro G2 hM2 hL2 hK2 hP2
        refine back d hnon rfl (kn s - 1) 1 (by omega) (by omega) G2 ?_ hL2 hK2 hP2
        have e : (fun x => if 1 ≤ x ∧ x < 1 then dl s x else d x) = d := by
          funext x
          rw [if_neg (by omega)]
        rw [e]
        exact hM2
      refine vX8_fit_46 _ _ G1 ⟨fun q => absurd rfl q, fun _ => c8_raises hM1 hWd (fun hsol => ?_) (fun b tu l tl hp hlt h40b => ?_) (fun b tu l tl hp hlt h40b => ?_)⟩
      · -- no one is too short
        have edl : dl (dS s d) = d := by funext x; exact dS_dl x
        rw [edl, Sol_dS] at hsol
        have hF : FitYes s d := ⟨hsol, fun x hx => ⟨hpos x hx, h40 x⟩, hleast, hnon⟩
        refine vX8_fit_46 _ _ G1 ⟨fun _ => ⟨fun q => absurd q (by decide), fun _ => c8_isRight hM1 hWd fun G2 hS2 _ => ?_⟩, fun q => absurd q (by decide)⟩
        have hM2 := hS2.mr hM1
        have hL2 := hL.t hS2.lo
        refine bI_rb (fun hR => ?_) (fun hR => ?_)
        · have := summ d h40 hF hR (kn s - 1) 1 (by omega) (gU G2 49 19 (nI 0)) (hM2.set9 19 0) (hL2.u (by omega))
          have e1 : fsN s d 1 = 0 := by
            rw [fsN, fsN, if_neg h00]
          rw [e1] at this
          exact this
        · exact hbk G2 hM2 hL2 (fun x h1 h2 => by rw [hS2.1 65 (by omega)]; exact hK x h1 h2) (hwr d hF hR)
      · -- it can't be raised
        rw [dS_Pr] at hp
        rw [dS_dl, dS_dl, dS_mg] at hlt
        rw [dS_dl] at h40b
        refine vX8_fit_46 _ _ G1 ⟨fun _ => ⟨fun _ => hbk G1 hM1 hL hK (hno ?_), fun q => absurd (by decide) q⟩, fun q => absurd q (by decide)⟩
        intro d' hs' hp'
        have hf := Pr_f hW.c hW.b hp
        refine ⟨b, hf.2.1, ?_⟩
        have h1 := hs' b tu l tl hp
        have h2 := hleast d' hs' hp' l hf.2.2.1
        have h3 : d l * tl ≤ d' l * tl := Nat.mul_le_mul_right _ h2
        have h4 : d b * tu < d' b * tu := by omega
        have := Nat.lt_of_mul_lt_mul_right h4
        omega
      · -- it is raised
        rw [dS_Pr] at hp
        rw [dS_dl, dS_dl, dS_mg] at hlt
        rw [dS_dl] at h40b ⊢
        have hf := Pr_f hW.c hW.b hp
        have hb30 : b < 30 := by have := (hW.b.2.1 b hf.2.1).2.1; omega
        have hM2 := hM1.set (p := 58) b (d b + 1) (by omega) (by omega) (by omega)
        rw [dS_U] at hM2
        refine ih (fun j => if j = b then d b + 1 else d j) ?_ ?_ ?_ ?_ ?_ _ hM2 (hL.u (by omega)) ?_
        · intro x
          show (if x = b then d b + 1 else d x) ≤ 40
          split
          · omega
          · exact h40 x
        · intro x hx
          show 1 ≤ (if x = b then d b + 1 else d x)
          split
          · omega
          · exact hpos x hx
        · intro x hx
          show (if x = b then d b + 1 else d x) = dl s x
          rw [if_neg (fun q => hx (by rw [q]; exact hf.2.1))]
          exact hnon x hx
        · intro d' hs' hp' x hx
          show (if x = b then d b + 1 else d x) ≤ d' x
          split
          · next q =>
            subst q
            have h1 := hs' x tu l tl hp
            have h2 := hleast d' hs' hp' l hf.2.2.1
            have h3 : d l * tl ≤ d' l * tl := Nat.mul_le_mul_right _ h2
            have h4 : d x * tu < d' x * tu := by omega
            have := Nat.lt_of_mul_lt_mul_right h4
            omega
          · exact hleast d' hs' hp' x hx
        · have := smD_up (d := d) (b := b) 30
          rw [if_pos hb30] at this
          rw [this]
          omega
        · intro x h1 h2
          rw [gU_n (by omega)]
          exact hK x h1 h2
  -- the beginning
  have start : ∀ m j : Nat, j + m = kn s → 1 ≤ j → ∀ G1, MR (dS s (fun x => if hs s x = 1 ∧ x < j then 1 else dl s x)) G1 → sLo G G1 → (∀ x, 1 ≤ x → x < j → G1 65 x = nI (dl s x)) → zJ kX8_fit (fun r G' => ∃ x, r = some (.int x) ∧ P x G') 2 [(0, .ref 49), (1, .int (nI j))] [] G1 := by
    intro m
    induction m with
    | zero =>
      intro j hj hj1 G1 hM1 hL hK
      have hjk : j = kn s := by omega
      subst hjk
      refine vX8_fit_2 _ _ G1 ⟨fun _ => loop 1201 _ ?_ ?_ ?_ ?_ (by omega) G1 hM1 hL hK, fun h1 => ?_⟩
      · intro x
        show (if hs s x = 1 ∧ x < kn s then 1 else dl s x) ≤ 40
        split
        · omega
        · exact (hW.b.1 x).2.2.2.1
      · intro x hx
        show 1 ≤ (if hs s x = 1 ∧ x < kn s then 1 else dl s x)
        rw [if_pos ⟨hx, (hW.b.2.1 x hx).2.1⟩]
        omega
      · intro x hx
        show (if hs s x = 1 ∧ x < kn s then 1 else dl s x) = dl s x
        rw [if_neg (fun q => hx q.1)]
      · intro d' _ hp' x hx
        show (if hs s x = 1 ∧ x < kn s then 1 else dl s x) ≤ d' x
        rw [if_pos ⟨hx, (hW.b.2.1 x hx).2.1⟩]
        exact hp' x hx
      · rw [hM1.1, dS_kn] at h1
        exact absurd (nI_le (by omega) (by omega)) h1
    | succ m ih =>
      intro j hj hj1 G1 hM1 hL hK
      have hj31 : j < 2 ^ 31 := by omega
      have hin : vp_in (nI j) 30 := vp_in_nI (by omega) (by omega)
      have e58 : G1 58 j = nI (dl s j) := by
        rw [hM1.q58, dS_dl]
        show nI (if hs s j = 1 ∧ j < j then 1 else dl s j) = _
        rw [if_neg (by omega)]
      refine vX8_fit_2 _ _ G1 ⟨fun h1 => ?_, fun _ => ⟨hin, hin, hin, ?_⟩⟩
      · rw [hM1.1, dS_kn] at h1
        exact absurd h1 (nI_ge (by omega) (by omega))
      · rw [nI_c hj31, e58, gU_n (q := 56) (by omega), hM1.q56, dS_hs, hs_ne hW.b, nI_1]
        have hM2 : MR (dS s (fun x => if hs s x = 1 ∧ x < j then 1 else dl s x)) (gU G1 65 j (nI (dl s j))) := hM1.congr (fun k _ => by rw [gU_n (by omega)]) (fun p h1 h2 => gU_n (by omega))
        have hK2 : ∀ x, 1 ≤ x → x < j + 1 → gU G1 65 j (nI (dl s j)) 65 x = nI (dl s x) := by
          intro x h1 h2
          rw [gU_at]
          by_cases hx : x = j
          · subst hx; rw [if_pos ⟨rfl, rfl⟩]
          · rw [if_neg (fun q => hx q.2)]; exact hK x h1 (by omega)
        refine ⟨fun h1 => ih (j + 1) (by omega) (by omega) _ ?_ (hL.u (by omega)) hK2, fun h1 => ⟨hin, ih (j + 1) (by omega) (by omega) _ ?_ ((hL.u (by omega)).u (by omega)) (fun x h2 h3 => by rw [gU_n (by omega)]; exact hK2 x h2 h3)⟩⟩
        · have e : (fun x => if hs s x = 1 ∧ x < j + 1 then 1 else dl s x) = (fun x => if hs s x = 1 ∧ x < j then 1 else dl s x) := by
            funext x
            have : (hs s x = 1 ∧ x < j + 1) ↔ (hs s x = 1 ∧ x < j) := by
              constructor
              · rintro ⟨a, b⟩
                refine ⟨a, ?_⟩
                rcases Nat.lt_or_ge x j with q | q
                · exact q
                · have : x = j := by omega
                  subst this
                  exact absurd a h1
              · rintro ⟨a, b⟩; exact ⟨a, by omega⟩
            simp only [this]
          rw [e]
          exact hM2
        · have hM3 := hM2.set (p := 58) j 1 (by omega) (by omega) (by omega)
          rw [dS_U] at hM3
          have e : (fun i => if i = j then 1 else if hs s i = 1 ∧ i < j then 1 else dl s i) = (fun x => if hs s x = 1 ∧ x < j + 1 then 1 else dl s x) := by
            funext x
            by_cases hx : x = j
            · subst hx
              rw [if_pos rfl, if_pos ⟨Decidable.not_not.mp h1, by omega⟩]
            · rw [if_neg hx]
              have : (hs s x = 1 ∧ x < j) ↔ (hs s x = 1 ∧ x < j + 1) := by omega
              simp only [this]
          rw [e] at hM3
          exact hM3
  refine start (kn s - 1) 1 (by omega) (by omega) G ?_ sLo.rf (fun x h1 h2 => by omega)
  have e : (fun x => if hs s x = 1 ∧ x < 1 then 1 else dl s x) = dl s := by
    funext x
    rw [if_neg]
    rintro ⟨a, b⟩
    have : x = 0 := by omega
    subst this
    exact h00 a
  rw [e, dS_id]
  exact hM
end M9
