section D3
variable {s : NN} {G : GG} {P : Int32 → GG → Prop} {PL : Int64 → GG → Prop} {PV : GG → Prop}
theorem lN_i32 {n : Nat} (h : n < 2 ^ 31) : (lN n).toInt32 = nI n := lN_i n
theorem c7_find (hC : CS s G) (hW : WF s) (hno : FitNo s → ∀ G', (∀ p, p ≠ 16 → p ≠ 17 → p ≠ 23 → G' p = G p) → P 0 G') (hyes : ∀ d, FitYes s d → (∀ x, d x ≤ 40) → ∀ G', (∀ p, p ≠ 16 → p ≠ 17 → p ≠ 23 → G' p = G p) → (∀ x, x < 30 → G' 23 x = nI (d x)) → P 1 G') : CTi kX7_findLeastDials [.ref 0] G P := by
  have hkn := hW.n.2.1
  have hk1 := hW.n.1
  refine vX7_findLeastDials _ G (c1_gather hC hW fun G1 hS1 hT1 => ?_)
  obtain ⟨G2, eG2⟩ : ∃ G2, G2 = gA G1 23 (va_cpy (G1 10) (G1 23) (0 : Int32).toNatClampNeg (0 : Int32).toNatClampNeg (30 : Int32).toNatClampNeg) := ⟨_, rfl⟩
  rw [← eG2]
  have f2 : ∀ p, p ≠ 23 → G2 p = G1 p := fun p hp => by rw [eG2]; exact gA_n hp
  have fG : ∀ p, p ≠ 16 → p ≠ 17 → p ≠ 23 → G2 p = G p := fun p a b c => (f2 p c).trans (hS1 p a b)
  have h23 : ∀ x, x < 30 → G2 23 x = nI (dl s x) := by
    intro x hx
    rw [eG2, gA_s, show (0 : Int32).toNatClampNeg = 0 from rfl, show (30 : Int32).toNatClampNeg = 30 from rfl, sb_cpy0 hx, hS1 10 (by omega) (by omega)]
    exact hC.2.1.2.2.2.1 x hx
  have hT2 : ∀ G3 : GG, G3 16 = G1 16 → G3 17 = G1 17 → TD s G3 := by
    intro G3 e1 e2
    unfold TD TR
    rw [e1, e2]
    exact hT1
  have key : ∀ b : Nat, b < kn s → ∀ (d : Nat → Nat) (G3 : GG), (∀ p, p ≠ 23 → G3 p = G2 p) → (∀ x, x < 30 → G3 23 x = nI (d x)) → (∀ x, d x ≤ 40) → (∀ x, b < x → hs s x = 1 → 1 ≤ d x) → (∀ x, x ≤ b ∨ ¬ hs s x = 1 → d x = dl s x) → (∀ u tu l tl, Pr s u tu l tl → b < u → d l * tl + mg s ≤ d u * tu) → (∀ d', Sol s d' → pos s d' → ∀ x, b < x → hs s x = 1 → d x ≤ d' x) → zJ kX7_findLeastDials (fun r G' => ∃ x, r = some (.int x) ∧ P x G') 35 [(0, .ref 0), (1, .int (nI b))] [] G3 := by
    intro b
    induction b with
    | zero =>
      intro _ d G3 hf h23 h40 h1 hsame hsol hmin
      refine vX7_findLeastDials_35 _ _ G3 ⟨fun _ => ⟨_, rfl, hyes d ?_ h40 G3 (fun p a b c => (hf p c).trans (fG p a b c)) h23⟩, fun q => absurd (by decide) q⟩
      have pos1 : ∀ x, hs s x = 1 → 0 < x := fun x hx => (hW.b.2.1 x hx).1
      refine ⟨fun u tu l tl hP => hsol u tu l tl hP (pos1 u (Pr_f hW.c hW.b hP).2.1), fun x hx => ⟨h1 x (pos1 x hx) hx, h40 x⟩, fun d' a1 a2 x hx => hmin d' a1 a2 x (pos1 x hx) hx, fun x hx => hsame x (Or.inr hx)⟩
    | succ b ih =>
      intro hb d G3 hf h23 h40 h1 hsame hsol hmin
      have hC3 : CS s G3 := hC.fr fun p hp => by rw [hf p (by omega)]; exact fG p (by omega) (by omega) (by omega)
      have hT3 : TD s G3 := hT2 G3 (by rw [hf 16 (by omega), f2 16 (by omega)]) (by rw [hf 17 (by omega), f2 17 (by omega)])
      refine vX7_findLeastDials_35 _ _ G3 ⟨fun q => ?_, fun _ => c5_isThereN hC3 (by omega) (bI_br (fun q => ?_) (fun q => ?_))⟩
      · rw [show (1 : Int32) = nI 1 from rfl, nI_ltI (by omega) (by omega)] at q
        omega
      · rw [pk_m1]
        refine ih (by omega) d G3 hf h23 h40 (fun x hx hh => ?_) (fun x hx => ?_) (fun u tu l tl hP hu => ?_) (fun d' a1 a2 x hx hh => ?_)
        · rcases Nat.lt_or_ge (b + 1) x with z | z
          · exact h1 x z hh
          · have : x = b + 1 := by omega
            subst this
            exact absurd hh q
        · rcases hx with hx | hx
          · exact hsame x (Or.inl (by omega))
          · exact hsame x (Or.inr hx)
        · rcases Nat.lt_or_ge (b + 1) u with z | z
          · exact hsol u tu l tl hP z
          · have : u = b + 1 := by omega
            subst this
            exact absurd (Pr_f hW.c hW.b hP).2.1 q
        · rcases Nat.lt_or_ge (b + 1) x with z | z
          · exact hmin d' a1 a2 x z hh
          · have : x = b + 1 := by omega
            subst this
            exact absurd hh q
      · refine c1_least hC3 hW hT3 (by omega) hb h23 h40 fun L hL hLx => ?_
        have below : ∀ d', Sol s d' → pos s d' → L ≤ d' (b + 1) := by
          intro d' a1 a2
          rw [hLx]
          refine ⟨a2 _ q, fun tu l tl hP => ?_⟩
          have hf := Pr_f hW.c hW.b hP
          have h2 := hmin d' a1 a2 l hf.1 hf.2.2.1
          have h3 := a1 _ _ _ _ hP
          have h4 := Nat.mul_le_mul h2 (Nat.le_refl tl)
          omega
        rw [show (40 : Int64) = lN 40 from rfl, pk_lLE (by omega) (by omega)]
        refine ⟨fun h2 => ⟨vp_in_nI (by omega) (by omega), ?_⟩, fun h2 => ⟨_, rfl, hno (fun d' a1 a2 => ⟨b + 1, q, by have := below d' a1 a2; omega⟩) G3 (fun p a b c => (hf p c).trans (fG p a b c))⟩⟩
        rw [pk_m1, nI_c (by omega), lN_i32 (by omega)]
        have hL1 := (hLx L).mp (Nat.le_refl L)
        refine ih (by omega) (fun j => if j = b + 1 then L else d j) _ (fun p hp => by rw [gU_n hp]; exact hf p hp) (fun x hx => ?_) (fun x => ?_) (fun x hx hh => ?_) (fun x hx => ?_) (fun u tu l tl hP hu => ?_) (fun d' a1 a2 x hx hh => ?_)
        · rw [gU_at]
          by_cases z : x = b + 1
          · rw [if_pos ⟨rfl, z⟩, if_pos z]
          · rw [if_neg (fun w => z w.2), if_neg z]
            exact h23 x hx
        · show (if x = b + 1 then L else d x) ≤ 40
          split
          · exact h2
          · exact h40 x
        · show 1 ≤ if x = b + 1 then L else d x
          split
          · exact hL1.1
          · exact h1 x (by omega) hh
        · show (if x = b + 1 then L else d x) = dl s x
          rw [if_neg]
          · rcases hx with hx | hx
            · exact hsame x (Or.inl (by omega))
            · exact hsame x (Or.inr hx)
          · rintro rfl
            rcases hx with hx | hx
            · omega
            · exact hx q
        · have hf := Pr_f hW.c hW.b hP
          show (if l = b + 1 then L else d l) * tl + mg s ≤ (if u = b + 1 then L else d u) * tu
          rw [if_neg (show ¬ l = b + 1 by omega)]
          by_cases z : u = b + 1
          · subst z
            rw [if_pos rfl]
            exact hL1.2 tu l tl hP
          · rw [if_neg z]
            exact hsol u tu l tl hP (by omega)
        · show (if x = b + 1 then L else d x) ≤ d' x
          by_cases z : x = b + 1
          · subst z
            rw [if_pos rfl]
            exact below d' a1 a2
          · rw [if_neg z]
            exact hmin d' a1 a2 x (by omega) hh
  rw [fG 1 (by omega) (by omega) (by omega), hC.1.1, nI_p1 (by omega)]
  refine key (kn s - 1) (by omega) (dl s) G2 (fun p _ => rfl) h23 (fun x => (hW.b.1 x).2.2.2.1) (fun x hx hh => ?_) (fun x _ => rfl) (fun u tu l tl hP hu => ?_) (fun d' a1 a2 x hx hh => ?_)
  · have := (hW.b.2.1 x hh).2.1; omega
  · have := (hW.b.2.1 u (Pr_f hW.c hW.b hP).2.1).2.1; omega
  · have := (hW.b.2.1 x hh).2.1; omega
theorem fsN_30 (hW : WF s) {d : Nat → Nat} : fsN s d 30 = fsN s d (kn s) := by
  have hkn := hW.n.2.1
  have key : ∀ m, kn s + m ≤ 30 → fsN s d (kn s + m) = fsN s d (kn s) := by
    intro m
    induction m with
    | zero => intro _; rfl
    | succ m ih =>
      intro h
      have e : ¬ hs s (kn s + m) = 1 := fun q => by have := (hW.b.2.1 _ q).2.1; omega
      rw [show kn s + (m + 1) = (kn s + m) + 1 by omega, fsN, ih (by omega), if_neg e, Nat.add_zero]
  have := key (30 - kn s) (by omega)
  rw [show kn s + (30 - kn s) = 30 by omega] at this
  exact this
theorem c5_sum {d : Nat → Nat} (hC : CS (dS s d) G) (hd : ∀ x, d x ≤ 40) (h : P (nI (fsN s d 30)) G) : CTi kX5_sumOfDials [.ref 7] G P := by
  refine vX5_sumOfDials _ G ?_
  have key : ∀ n b : Nat, b + n = 30 → zJ kX5_sumOfDials (fun r G' => ∃ x, r = some (.int x) ∧ P x G') 4 [(0, .ref 7), (1, .int (nI (fsN s d b))), (2, .int (nI b))] [] G := by
    intro n
    induction n with
    | zero =>
      intro b hb
      have : b = 30 := by omega
      subst this
      exact vX5_sumOfDials_4 _ _ _ G ⟨fun _ => ⟨_, rfl, h⟩, fun q => absurd (by decide) q⟩
    | succ n ih =>
      intro b hb
      have hih := ih (b + 1) (by omega)
      rw [fsN] at hih
      refine vX5_sumOfDials_4 _ _ _ G ⟨fun q => ?_, fun _ => c5_isThereN hC (by omega) ?_⟩
      · rw [show (30 : Int32) = nI 30 from rfl] at q
        exact absurd q (nI_ge (by omega) (by omega))
      · rw [dS_hs, nI_1, nI_c (by omega), hC.2.1.2.2.2.1 b (by omega), dS_dl, nI_add, show (0 : Int32) = nI 0 from rfl, nI_add]
        refine bI_br (fun q => ?_) (fun q => ⟨vp_in_nI (by omega) (by omega), ?_⟩)
        · rw [if_neg q] at hih; exact hih
        · rw [if_pos q] at hih; exact hih
  exact key 30 0 (by omega)
/-- the class with other DIALS -/
theorem CS_dS {d : Nat → Nat} {G' : GG} (hC : CS s G) (hf : ∀ p, (1 ≤ p ∧ p ≤ 13) ∨ (25 ≤ p ∧ p ≤ 48) → p ≠ 10 → G' p = G p) (hd : ∀ x, x < 30 → G' 10 x = nI (d x)) : CS (dS s d) G' := by
  obtain ⟨hn, ⟨r1, r2, r3, r4, r5, r6⟩, hcu, hru⟩ := hC
  refine ⟨?_, ?_, ?_, ?_⟩
  · exact CNet_cg (hn.fr fun p h1 h2 => hf p (by omega) (by omega)) (by rw [dS_p (by omega)]) (by rw [dS_p (by omega)]) (by rw [dS_p (by omega)]) (dS_p (by omega)) (dS_p (by omega)) (dS_p (by omega))
  · unfold CRow
    rw [hf 7 (by omega) (by omega), hf 9 (by omega) (by omega), hf 11 (by omega) (by omega), hf 12 (by omega) (by omega)]
    unfold hs fl cu pk go dl
    rw [dS_d, dS_p (p := 56) (by omega), dS_p (p := 57) (by omega), dS_p (p := 59) (by omega), dS_p (p := 60) (by omega), dS_p (p := 61) (by omega)]
    exact ⟨r1, r2, r3, hd, r5, r6⟩
  · exact CCur_cg (hcu.fr fun p h1 h2 => hf p (by omega) (by omega)) (dS_p (by omega)) (dS_p (by omega)) (dS_p (by omega))
  · exact CRul_cg (hru.fr (hf 13 (by omega) (by omega))) (by rw [dS_p (by omega)]) (by rw [dS_p (by omega)]) (by rw [dS_p (by omega)])
theorem CMis_fr {G' : GG} (h : CMis s G) (h0 : G' 0 = G 0) (h18 : G' 18 2 = G 18 2) (h19 : G' 19 = G 19) : CMis s G' := by
  unfold CMis
  rw [h0, h18, h19]
  exact h
theorem c7_fit (hR : CR s G) (hW : WF s) (hno : FitNo s → ∀ G', CR s G' → sHi G G' → P (-1) G') (hwr : ∀ d, FitYes s d → rtN (dS s d) ≠ none → ∀ G', CR s G' → sHi G G' → P (-1) G') (hyes : ∀ d, FitYes s d → rtN (dS s d) = none → ∀ G', CR (nFit s d) G' → sHi G G' → P (nI (fsN s d (kn s))) G') : CTi kX7_fit [.ref 0] G P := by
  have hC := hR.s
  refine vX7_fit _ G (c7_find hC hW (fun hF G1 hf => ?_) (fun d hF h40 G1 hf h23 => ?_))
  · refine ⟨fun q => absurd rfl q, fun _ => ⟨_, rfl, hno hF G1 ?_ (fun p hp => hf p (by omega) (by omega) (by omega))⟩⟩
    have hC1 := hC.fr (G' := G1) fun p hp => hf p (by omega) (by omega) (by omega)
    exact ⟨hC1.1, hC1.2.1, hC1.2.2.1, hC1.2.2.2, CMis_fr hR.2.2.2.2 (hf 0 (by omega) (by omega) (by omega)) (by rw [hf 18 (by omega) (by omega) (by omega)]) (hf 19 (by omega) (by omega) (by omega))⟩
  · refine ⟨fun _ => ?_, fun q => absurd q (by decide)⟩
    obtain ⟨G2, eG2⟩ : ∃ G2, G2 = gA (gA G1 24 (va_cpy (G1 10) (G1 24) (0 : Int32).toNatClampNeg (0 : Int32).toNatClampNeg (30 : Int32).toNatClampNeg)) 10 (va_cpy ((gA G1 24 (va_cpy (G1 10) (G1 24) (0 : Int32).toNatClampNeg (0 : Int32).toNatClampNeg (30 : Int32).toNatClampNeg)) 23) ((gA G1 24 (va_cpy (G1 10) (G1 24) (0 : Int32).toNatClampNeg (0 : Int32).toNatClampNeg (30 : Int32).toNatClampNeg)) 10) (0 : Int32).toNatClampNeg (0 : Int32).toNatClampNeg (30 : Int32).toNatClampNeg) := ⟨_, rfl⟩
    rw [← eG2]
    have f2 : ∀ p, p ≠ 16 → p ≠ 17 → p ≠ 23 → p ≠ 24 → p ≠ 10 → G2 p = G p := fun p a b c e g => by rw [eG2, gA_n g, gA_n e]; exact hf p a b c
    have g10 : ∀ x, x < 30 → G2 10 x = nI (d x) := by
      intro x hx
      rw [eG2, gA_s, show (0 : Int32).toNatClampNeg = 0 from rfl, show (30 : Int32).toNatClampNeg = 30 from rfl, sb_cpy0 hx, gA_n (by omega)]
      exact h23 x hx
    have g24 : ∀ x, x < 30 → G2 24 x = nI (dl s x) := by
      intro x hx
      rw [eG2, gA_n (by omega), gA_s, show (0 : Int32).toNatClampNeg = 0 from rfl, show (30 : Int32).toNatClampNeg = 30 from rfl, sb_cpy0 hx, hf 10 (by omega) (by omega) (by omega)]
      exact hC.2.1.2.2.2.1 x hx
    have hC2 : CS (dS s d) G2 := CS_dS hC (fun p hp q => f2 p (by omega) (by omega) (by omega) (by omega) q) g10
    have hW2 : WF (dS s d) := dS_WF hW h40 fun x hx => (hF.2.1 x hx).1
    refine c2_look hC2 hW2 ?_
    have e3 : ntQ G2 (rtN (dS s d)) 14 3 = q24 (rtN (dS s d)) := nt_3
    rw [e3]
    have hq0 : q24 (rtN (dS s d)) = 0 ↔ rtN (dS s d) = none := by
      cases hr : rtN (dS s d) with
      | none => exact ⟨fun _ => rfl, fun _ => rfl⟩
      | some q =>
        refine ⟨fun z => ?_, fun z => by cases z⟩
        have hq : q.1 ≠ 0 ∧ q.1 < 5 := by
          unfold rtN at hr
          have hA : ∀ m k q, rtA (dS s d) m k = some q → q.1 ≠ 0 ∧ q.1 < 5 := by
            intro m
            induction m with
            | zero => intro k q h; cases h
            | succ m ih =>
              intro k q h
              rw [rtA] at h
              split at h
              · next h2 => cases h; have := lrN_ne h2; exact ⟨this.1, by omega⟩
              · exact ih _ _ h
          have hB : ∀ m k q, rtB (dS s d) m k = some q → q.1 ≠ 0 ∧ q.1 < 5 := by
            intro m
            induction m with
            | zero => intro k q h; cases h
            | succ m ih =>
              intro k q h
              rw [rtB] at h
              split at h
              · cases h; simp
              · exact ih _ _ h
          split at hr
          · next h2 => cases hr; exact hA _ _ _ h2
          · exact hB _ _ _ hr
        have z : nI q.1 = 0 := z
        exact absurd ((n0_iff (by omega)).mp z) hq.1
    rw [hq0]
    refine ⟨fun hr => ?_, fun hr => ⟨_, rfl, hwr d hF hr _ ?_ ?_⟩⟩
    · have hC3 : CS (dS s d) (gU (ntQ G2 (rtN (dS s d))) 0 9 0) := hC2.fr (nt_C.u (by omega))
      refine c5_sum hC3 h40 ⟨_, rfl, ?_⟩
      rw [fsN_30 hW]
      refine hyes d hF hr _ ?_ ?_
      · have e49 : ∀ j, j ≠ 19 → nFit s d 49 j = s 49 j := fun j hj => by
          unfold nFit
          rw [sU_k hj, dS_p (by omega)]
        have ep : ∀ p, p ≠ 49 → nFit s d p = dS s d p := fun p hp => by unfold nFit; rw [sU_n hp]
        have e49' : ∀ j, j ≠ 19 → nFit s d 49 j = dS s d 49 j := fun j hj => by rw [e49 j hj, dS_p (by omega)]
        refine ⟨CNet_cg hC3.1 (e49' 0 (by omega)) (e49' 1 (by omega)) (e49' 2 (by omega)) (ep 50 (by omega)) (ep 51 (by omega)) (ep 52 (by omega)), CRow_cg hC3.2.1 (ep 56 (by omega)) (ep 57 (by omega)) (ep 58 (by omega)) (ep 59 (by omega)) (ep 60 (by omega)) (ep 61 (by omega)), CCur_cg hC3.2.2.1 (ep 53 (by omega)) (ep 54 (by omega)) (ep 55 (by omega)), CRul_cg hC3.2.2.2 (e49' 3 (by omega)) (e49' 4 (by omega)) (e49' 5 (by omega)), ?_⟩
        refine CMis_no hR.2.2.2.2 (e49 17 (by omega)) ?_ (e49 23 (by omega)) ?_ ?_ (by rw [gU_s]) ?_ ?_
        · unfold nFit; rw [sU_s]
        · rw [ep 64 (by omega), dS_p (by omega)]
        · rw [gU_k (by omega), show ntQ G2 (rtN (dS s d)) 0 = G2 0 from nt_p (by omega), f2 0 (by omega) (by omega) (by omega) (by omega) (by omega)]
        · rw [gU_n (by omega), show ntQ G2 (rtN (dS s d)) 18 = G2 18 from nt_p (by omega), f2 18 (by omega) (by omega) (by omega) (by omega) (by omega)]
        · rw [gU_n (by omega), show ntQ G2 (rtN (dS s d)) 19 = G2 19 from nt_p (by omega), f2 19 (by omega) (by omega) (by omega) (by omega) (by omega)]
      · intro p hp
        rw [gU_n (by omega), show ntQ G2 (rtN (dS s d)) p = G2 p from nt_p (by omega)]
        exact f2 p (by omega) (by omega) (by omega) (by omega) (by omega)
    · have fr3 : ∀ p, p ≠ 16 → p ≠ 17 → p ≠ 23 → p ≠ 24 → p ≠ 10 → p ≠ 14 → (gA (ntQ G2 (rtN (dS s d))) 10 (va_cpy (ntQ G2 (rtN (dS s d)) 24) (ntQ G2 (rtN (dS s d)) 10) (0 : Int32).toNatClampNeg (0 : Int32).toNatClampNeg (30 : Int32).toNatClampNeg)) p = G p := by
        intro p a b c e g i
        rw [gA_n g, show ntQ G2 (rtN (dS s d)) p = G2 p from nt_p i]
        exact f2 p a b c e g
      have hC4 := CS_dS (d := dl s) hC (fun p hp q => fr3 p (by omega) (by omega) (by omega) (by omega) q (by omega)) (fun x hx => by
        rw [gA_s, show (0 : Int32).toNatClampNeg = 0 from rfl, show (30 : Int32).toNatClampNeg = 30 from rfl, sb_cpy0 hx, show ntQ G2 (rtN (dS s d)) 24 = G2 24 from nt_p (by omega)]
        exact g24 x hx)
      rw [dS_id] at hC4
      exact ⟨hC4.1, hC4.2.1, hC4.2.2.1, hC4.2.2.2, CMis_fr hR.2.2.2.2 (fr3 0 (by omega) (by omega) (by omega) (by omega) (by omega) (by omega)) (by rw [fr3 18 (by omega) (by omega) (by omega) (by omega) (by omega) (by omega)]) (fr3 19 (by omega) (by omega) (by omega) (by omega) (by omega) (by omega))⟩
    · intro p hp
      rw [gA_n (by omega), show ntQ G2 (rtN (dS s d)) p = G2 p from nt_p (by omega)]
      exact f2 p (by omega) (by omega) (by omega) (by omega) (by omega)
end D3
