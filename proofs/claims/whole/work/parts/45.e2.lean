theorem rt_q24 {s : NN} : q24 (rtN s) = 0 ↔ rtN s = none := by
  cases hr : rtN s with
  | none => exact ⟨fun _ => rfl, fun _ => rfl⟩
  | some q =>
    refine ⟨fun z => ?_, fun z => by cases z⟩
    have hq : q.1 ≠ 0 ∧ q.1 < 5 := by
      unfold rtN at hr
      have hA : ∀ m k q, rtA s m k = some q → q.1 ≠ 0 ∧ q.1 < 5 := by
        intro m
        induction m with
        | zero => intro k q h; cases h
        | succ m ih =>
          intro k q h
          rw [rtA] at h
          split at h
          · next h2 => cases h; have := lrN_ne h2; exact ⟨this.1, by omega⟩
          · exact ih _ _ h
      have hB : ∀ m k q, rtB s m k = some q → q.1 ≠ 0 ∧ q.1 < 5 := by
        intro m
        induction m with
        | zero => intro k q h; cases h
        | succ m ih =>
          intro k q h
          rw [rtB] at h
          split at h
          · cases h; simp
          · exact ih _ _ h
      split at hr
      · next h2 => cases hr; exact hA _ _ _ h2
      · exact hB _ _ _ hr
    have z : nI q.1 = 0 := z
    exact absurd ((n0_iff (by omega)).mp z) hq.1
section E2
variable {s : NN} {G : GG} {P : Int32 → GG → Prop} {PL : Int64 → GG → Prop} {PV : GG → Prop}
theorem c1_isMet {u l : Nat} {d : Nat → Nat} (hC : CS s G) (hW : WF s) (hT : TD s G) (hul : u < l) (hl : l < 30) (hd : ∀ x, x < 30 → G 22 x = nI (d x)) (hd40 : ∀ x, d x ≤ 40) (hy : (∀ tu tl, Pr s u tu l tl → d l * tl + mg s ≤ d u * tu) → P 1 G) (hn : ¬ (∀ tu tl, Pr s u tu l tl → d l * tl + mg s ≤ d u * tu) → P 0 G) : CTi kX1_isMet [.ref 15, .int (nI u), .int (nI l), .ref 22] G P := by
  have hmg := hW.2.2.2.2.1
  refine vX1_isMet _ _ _ G (c1_rowOf hul hl ?_)
  have key : ∀ m i : Nat, i + m = 8 → (∀ i' tl, i' < i → AF s (fltV s) u i' l tl → d l * tl + mg s ≤ d u * tk s (cu s u) i') → zJ kX1_isMet (fun r G' => ∃ x, r = some (.int x) ∧ P x G') 10 [(0, .ref 15), (1, .int (nI u)), (2, .int (nI l)), (3, .ref 22), (4, .int (nI ((tri l + u) * 8))), (5, .int (nI i))] [] G := by
    intro m
    induction m with
    | zero =>
      intro i hi hinv
      have : i = 8 := by omega
      subst this
      refine vX1_isMet_10 _ _ _ _ _ G ⟨fun _ => ⟨_, rfl, hy fun tu tl hP => ?_⟩, fun q => absurd (by decide) q⟩
      obtain ⟨i', rfl, hA⟩ := Pr_AF.mp hP
      exact hinv i' tl (AF_f hW hA).2.2.2.2.2.1 hA
    | succ m ih =>
      intro i hi hinv
      have hi8 : i < 8 := by omega
      obtain ⟨T, t1, t2, t3, t4⟩ := hT.1 u l i hul hl hi8
      have hix := ix_lt hul hl hi8
      have e : nI ((tri l + u) * 8) + nI i = nI (ix u l i) := nI_add _ _
      have htb := tk_bd hW (b := u) hi8
      have hin : vp_in (nI (ix u l i)) 3480 := vp_in_nI hix (by omega)
      refine vX1_isMet_10 _ _ _ _ _ G ?_
      rw [e, nI_c (show ix u l i < 2 ^ 31 by omega), t2, nI_le0 (by omega), nI_1, nI_c (show l < 2 ^ 31 by omega), nI_c (show u < 2 ^ 31 by omega)]
      refine ⟨fun q => ?_, fun _ => ⟨hin, fun h2 => ih (i + 1) (by omega) fun i' tl h3 hA => ?_, fun h2 => ⟨vp_in_nI (by omega) (by omega), c5_ticksAt hC hW.b (by omega) hi8 ?_⟩⟩⟩
      · rw [show (8 : Int32) = nI 8 from rfl] at q
        exact absurd q (nI_ge hi8 (by omega))
      · rcases Nat.lt_or_ge i' i with z | z
        · exact hinv i' tl z hA
        · have : i' = i := by omega
          subst this
          have := t3 tl hA
          have := (AF_f hW hA).2.2.2.1
          omega
      · have hTL := Nat.mul_le_mul (hd40 l) t1
        have hTU := Nat.mul_le_mul (hd40 u) htb
        rw [hd l hl, hd u (by omega), hC.2.2.2.1, pk_mul, pk_mul, nI_add, nI_leI (by omega) (by omega)]
        refine ⟨vp_in_nI (by omega) (by omega), fun h3 => ih (i + 1) (by omega) fun i' tl h4 hA => ?_, fun h3 => ⟨_, rfl, hn fun q => h3 ?_⟩⟩
        · rcases Nat.lt_or_ge i' i with z | z
          · exact hinv i' tl z hA
          · have : i' = i := by omega
            subst this
            have := Nat.mul_le_mul (Nat.le_refl (d l)) (t3 tl hA)
            omega
        · exact q _ _ (Pr_AF.mpr ⟨i, rfl, t4.resolve_left h2⟩)
  exact key 8 0 (by omega) (fun i' tl h => by omega)
theorem c1_around {b : Nat} {d : Nat → Nat} (hC : CS s G) (hW : WF s) (hT : TD s G) (hb1 : 1 ≤ b) (hb : b < kn s) (hd : ∀ x, x < 30 → G 22 x = nI (d x)) (hd40 : ∀ x, d x ≤ 40) (hy : Arnd s d b → P 1 G) (hn : ¬ Arnd s d b → P 0 G) : CTi kX1_areMetAround [.ref 15, .int (nI b), .ref 22] G P := by
  have hkn := hW.n.2.1
  have hlm := hW.2.2.2.2.2.2.1
  have hin : vp_in (nI b) 30 := vp_in_nI (by omega) (by omega)
  obtain ⟨K, a1, a2, a3, a4⟩ := hT.2 b (by omega)
  have hTU := Nat.mul_le_mul (hd40 b) a1
  refine vX1_areMetAround _ _ G ⟨hin, hin, ?_⟩
  rw [nI_c (show b < 2 ^ 31 by omega), hd b (by omega), a2, hC.2.2.2.2.1, pk_mul, nI_leI (by omega) (by omega)]
  refine ⟨fun h1 => ?_, fun h1 => ⟨_, rfl, hn fun q => h1 ?_⟩⟩
  · have hK : ∀ t, BF s (fltV s) b t → d b * t ≤ lm s := fun t ht => by
      have := Nat.mul_le_mul (Nat.le_refl (d b)) (a3 t ht)
      omega
    have key : ∀ m o : Nat, o + m = kn s → 1 ≤ o → (∀ u tu l tl, Pr s u tu l tl → (u = b ∧ l < o ∨ l = b ∧ u < o) → d l * tl + mg s ≤ d u * tu) → zJ kX1_areMetAround (fun r G' => ∃ x, r = some (.int x) ∧ P x G') 24 [(0, .ref 15), (1, .int (nI b)), (2, .ref 22), (3, .int (nI o))] [] G := by
      intro m
      induction m with
      | zero =>
        intro o ho ho1 hinv
        refine vX1_areMetAround_24 _ _ _ G ?_
        rw [hC.1.1, nI_leI (by omega) (by omega)]
        refine ⟨fun _ => ⟨_, rfl, hy ⟨hK, fun u tu l tl hP q => hinv u tu l tl hP ?_⟩⟩, fun q => by omega⟩
        have hf := Pr_f hW.c hW.b hP
        have h1 := (hW.b.2.1 u hf.2.1).2.1
        have h2 := (hW.b.2.1 l hf.2.2.1).2.1
        omega
      | succ m ih =>
        intro o ho ho1 hinv
        have nx : (∀ u tu l tl, Pr s u tu l tl → (u = b ∧ l = o ∨ l = b ∧ u = o) → d l * tl + mg s ≤ d u * tu) → zJ kX1_areMetAround (fun r G' => ∃ x, r = some (.int x) ∧ P x G') 24 [(0, .ref 15), (1, .int (nI b)), (2, .ref 22), (3, .int (nI o + 1))] [] G := by
          intro hq
          rw [nI_1]
          refine ih (o + 1) (by omega) (by omega) fun u tu l tl hP z => ?_
          by_cases w : u = b ∧ l = o ∨ l = b ∧ u = o
          · exact hq u tu l tl hP w
          · exact hinv u tu l tl hP (by omega)
        have st50 : (o < b → ∀ tu tl, Pr s o tu b tl → d b * tl + mg s ≤ d o * tu) → zJ kX1_areMetAround (fun r G' => ∃ x, r = some (.int x) ∧ P x G') 50 [(0, .ref 15), (1, .int (nI b)), (2, .ref 22), (3, .int (nI o))] [] G := by
          intro hlow
          refine vX1_areMetAround_50 _ _ _ G ?_
          rw [nI_leI (by omega) (by omega)]
          refine ⟨fun h2 => nx fun u tu l tl hP z => ?_, fun h2 => c1_isMet hC hW hT (by omega) (by omega) hd hd40 (fun hq => ⟨fun _ => nx fun u tu l tl hP z => ?_, fun q => absurd q (by decide)⟩) (fun hq => ⟨fun q => absurd rfl q, fun _ => ⟨_, rfl, hn fun q => hq fun tu tl hP => q.2 _ _ _ _ hP (Or.inl rfl)⟩⟩)⟩
          · have hf := Pr_f hW.c hW.b hP
            rcases z with ⟨rfl, rfl⟩ | ⟨rfl, rfl⟩
            · omega
            · exact hlow (by omega) tu tl hP
          · have hf := Pr_f hW.c hW.b hP
            rcases z with ⟨rfl, rfl⟩ | ⟨rfl, rfl⟩
            · exact hq tu tl hP
            · omega
        refine vX1_areMetAround_24 _ _ _ G ?_
        rw [hC.1.1, nI_leI (by omega) (by omega), nI_leI (by omega) (by omega)]
        refine ⟨fun q => by omega, fun _ => ⟨fun h2 => st50 fun q => by omega, fun h2 => c1_isMet hC hW hT (by omega) (by omega) hd hd40 (fun hq => ⟨fun q => absurd q (by decide), fun _ => st50 fun _ => hq⟩) (fun hq => ⟨fun _ => ⟨_, rfl, hn fun q => hq fun tu tl hP => q.2 _ _ _ _ hP (Or.inr rfl)⟩, fun q => absurd rfl q⟩)⟩⟩
    exact key (kn s - 1) 1 (by omega) (by omega) fun u tu l tl hP q => by
      have hf := Pr_f hW.c hW.b hP
      have h1 := (hW.b.2.1 u hf.2.1).1
      have h2 := (hW.b.2.1 l hf.2.2.1).1
      omega
  · rcases a4 with z | z
    · rw [z]; omega
    · exact q.1 K z
/-- the Order's LINES are there -/
def OI (s : NN) (G : GG) : Prop := G 18 4 = nI (on s) ∧ ∀ j, j < on s → G 20 j = nI (oj s j)
theorem c4_lowest {m : Nat} (hC : CS s G) (hW : WF s) (hT : TD s G) (hO : OI s G) (h10 : on s ≤ 10) (hm : m < 2 ^ on s) (hQ : QQ s (dM s m)) (hd : ∀ x, x < 30 → G 22 x = nI (dM s m x))
    (hno : (∀ j, j < on s → m.testBit j = false → ¬ QQ s (dM s (m ||| 2 ^ j))) → ∀ G', (∀ p, p ≠ 22 → G' p = G p) → P (-1) G')
    (hyes : ∀ j, j < on s → m.testBit j = false → QQ s (dM s (m ||| 2 ^ j)) → (∀ i, i < j → m.testBit i = false → ¬ QQ s (dM s (m ||| 2 ^ i))) → ∀ G', (∀ p, p ≠ 22 → G' p = G p) → (∀ x, x < 30 → G' 22 x = nI (dM s (m ||| 2 ^ j) x)) → P (nI j) G') : CTi kX4_lowestThatCanGo [.ref 18, .int (nI m)] G P := by
  have hkn := hW.n.2.1
  have hm31 : m < 2 ^ 31 := Nat.lt_of_lt_of_le hm (Nat.pow_le_pow_right (by omega) (by omega))
  refine vX4_lowestThatCanGo _ _ G ?_
  have key : ∀ n i : Nat, i + n = on s → ∀ G1 : GG, (∀ p, p ≠ 22 → G1 p = G p) → (∀ x, x < 30 → G1 22 x = nI (dM s m x)) → (∀ j, j < i → m.testBit j = false → ¬ QQ s (dM s (m ||| 2 ^ j))) → zJ kX4_lowestThatCanGo (fun r G' => ∃ x, r = some (.int x) ∧ P x G') 2 [(0, .ref 18), (1, .int (nI m)), (2, .int (nI i))] [] G1 := by
    intro n
    induction n with
    | zero =>
      intro i hi G1 hf h22 hinv
      have : i = on s := by omega
      subst this
      refine vX4_lowestThatCanGo_2 _ _ _ G1 ⟨fun _ => ⟨_, rfl, hno hinv G1 hf⟩, fun q => ?_⟩
      rw [hf 18 (by omega), hO.1] at q
      exact absurd (nI_le (Nat.le_refl _) (by omega)) q
    | succ n ih =>
      intro i hi G1 hf h22 hinv
      have hi' : i < on s := by omega
      refine vX4_lowestThatCanGo_2 _ _ _ G1 ⟨fun q => ?_, fun _ => c7_holdsN (by omega) ?_⟩
      · rw [hf 18 (by omega), hO.1] at q
        exact absurd q (nI_ge hi' (by omega))
      · have hb := oj_m hi'
        have hch := hb.2
        have hb30 := oj_30 hW hi'
        have hb1 := (hW.b.2.1 _ hch.1).1
        have hbin : vp_in (nI (oj s i)) 30 := vp_in_nI hb30 (by omega)
        rw [bt_nI, decide_eq_true (show i < 32 by omega), Bool.true_and, nI_1, nI_c (show i < 2 ^ 31 by omega), hf 20 (by omega), hO.2 i hi', nI_c (show oj s i < 2 ^ 31 by omega), hf 12 (by omega), hC.2.1.2.2.2.2.2 _ hb30]
        refine (bI_b (fun h1 => ?_) (fun h1 => ih (i + 1) (by omega) G1 hf h22 fun j hj hjb => ?_)).symm
        · obtain ⟨G2, eG2⟩ : ∃ G2, G2 = gU G1 22 (oj s i) (gN (go s (oj s i))) := ⟨_, rfl⟩
          rw [← eG2]
          have f2 : ∀ p, p ≠ 22 → G2 p = G p := fun p hp => by rw [eG2, gU_n hp]; exact hf p hp
          have g22 : ∀ x, x < 30 → G2 22 x = nI (dM s (m ||| 2 ^ i) x) := by
            intro x hx
            rw [eG2, gU_at, dM_or hi']
            by_cases q : x = oj s i
            · rw [if_pos ⟨rfl, q⟩]
              show _ = nI (if x = oj s i then go s x else dM s m x)
              rw [if_pos q, q]
              unfold gN
              rw [if_neg hch.2.1]
            · rw [if_neg (fun z => q z.2)]
              show _ = nI (if x = oj s i then go s x else dM s m x)
              rw [if_neg q]
              exact h22 x hx
          have hC2 : CS s G2 := hC.fr fun p hp => f2 p (by omega)
          have hT2 : TD s G2 := by
            unfold TD TR
            rw [f2 16 (by omega), f2 17 (by omega)]
            exact hT
          refine ⟨vp_in_nI (by omega) (by omega), hbin, hbin, c1_around hC2 hW hT2 hb1 hb.1 g22 (dM_40 hW.b) (fun hA => ⟨fun q => absurd q (by decide), fun _ => ⟨_, rfl, hyes i hi' h1 ((Arnd_Q hi' hQ).mp hA) hinv G2 f2 g22⟩⟩) (fun hA => ⟨fun _ => ⟨hbin, hbin, ?_⟩, fun q => absurd rfl q⟩)⟩
          refine ih (i + 1) (by omega) _ (fun p hp => by rw [gU_n hp]; exact f2 p hp) (fun x hx => ?_) (fun j hj hjb => ?_)
          · rw [gU_at, f2 10 (by omega), hC.2.1.2.2.2.1 _ hb30]
            by_cases q : x = oj s i
            · rw [if_pos ⟨rfl, q⟩, q, dM_oj hi', h1]
              rfl
            · rw [if_neg (fun z => q z.2), eG2, gU_k q]
              exact h22 x hx
          · rcases Nat.lt_or_ge j i with z | z
            · exact hinv j z hjb
            · have : j = i := by omega
              subst this
              exact fun q => hA ((Arnd_Q hi' hQ).mpr q)
        · rcases Nat.lt_or_ge j i with z | z
          · exact hinv j z hjb
          · have : j = i := by omega
            subst this
            rw [h1] at hjb
            cases hjb
  exact key (on s) 0 (by omega) G (fun p _ => rfl) hd (fun j hj => by omega)
theorem c4_find (hC : CS s G) (hW : WF s) (hT : TD s G) (hO : OI s G) (h10 : on s ≤ 10) (h0 : rtN s = none)
    (hno : ¬ can s 0 → ∀ G', (∀ p, p ≠ 21 → p ≠ 22 → G' p = G p) → P (-1) G')
    (hyes : ∀ js, can s 0 → gp s 0 js → js.length = on s → ∀ G', (∀ p, p ≠ 18 → p ≠ 19 → p ≠ 21 → p ≠ 22 → G' p = G p) → G' 18 2 = nI (on s) → (∀ i, i < on s → G' 19 i = nI ((js.map (oj s)).getD i 0)) → P (nI (on s)) G') : CTi kX4_find [.ref 18] G P := by
  have hkn := hW.n.2.1
  have hk1 := hW.n.1
  refine vX4_find _ G ?_
  obtain ⟨G1, eG1⟩ : ∃ G1, G1 = gA G 22 (va_cpy (G 10) (G 22) (0 : Int32).toNatClampNeg (0 : Int32).toNatClampNeg (30 : Int32).toNatClampNeg) := ⟨_, rfl⟩
  rw [← eG1]
  have f1 : ∀ p, p ≠ 21 → p ≠ 22 → G1 p = G p := fun p _ hp => by rw [eG1, gA_n hp]
  have g22 : ∀ x, x < 30 → G1 22 x = nI (dM s 0 x) := by
    intro x hx
    rw [eG1, gA_s, show (0 : Int32).toNatClampNeg = 0 from rfl, show (30 : Int32).toNatClampNeg = 30 from rfl, sb_cpy0 hx, dM_0]
    exact hC.2.1.2.2.2.1 x hx
  have key : ∀ n i m : Nat, i + n = on s → cb m (on s) = i → m < 2 ^ on s → QQ s (dM s m) → ∀ (pre : List Nat) (G2 : GG), pre.length = i → (∀ p, p ≠ 21 → p ≠ 22 → G2 p = G p) → (∀ x, x < 30 → G2 22 x = nI (dM s m x)) → (∀ j, j < i → G2 21 j = nI ((pre.map (oj s)).getD j 0)) → (can s m → can s 0) → (¬ can s m → ¬ can s 0) → (can s m → ∀ js, gp s m js → gp s 0 (pre ++ js)) → zJ kX4_find (fun r G' => ∃ x, r = some (.int x) ∧ P x G') 22 [(0, .ref 18), (1, .int (nI m)), (2, .int (nI i))] [] G2 := by
    intro n
    induction n with
    | zero =>
      intro i m hi hcb hm hQ pre G2 hpre hf h22 h21 c1 c2 hgp
      have ei : i = on s := by omega
      have em : m = al s := cb_full (by omega) hm
      have hcan : can s m := ⟨[], em, (RR_iff hk1 h0).mpr hQ⟩
      have hg0 := hgp hcan [] em
      rw [List.append_nil] at hg0
      have fin : zJ kX4_find (fun r G' => ∃ x, r = some (.int x) ∧ P x G') 73 [(0, .ref 18)] [] G2 := by
        refine vX4_find_73 _ G2 ⟨_, rfl, ?_⟩
        rw [gU_s, gA_n (by omega), hf 18 (by omega) (by omega), hO.1]
        refine hyes pre (c1 hcan) hg0 (by omega) _ (fun p a b c e => ?_) (by rw [gU_s]) (fun j hj => ?_)
        · rw [gU_n a, gA_n b]
          exact hf p c e
        · rw [gU_n (by omega), gA_s, show (0 : Int32).toNatClampNeg = 0 from rfl, show (10 : Int32).toNatClampNeg = 10 from rfl, sb_cpy0 (by omega)]
          exact h21 j (by omega)
      refine vX4_find_22 _ _ _ G2 ⟨fun _ => fin, fun q => ?_⟩
      rw [hf 18 (by omega) (by omega), hO.1, ei] at q
      exact absurd (nI_le (Nat.le_refl _) (by omega)) q
    | succ n ih =>
      intro i m hi hcb hm hQ pre G2 hpre hf h22 h21 c1 c2 hgp
      have hm31 : m < 2 ^ 31 := Nat.lt_of_lt_of_le hm (Nat.pow_le_pow_right (by omega) (by omega))
      have hC2 : CS s G2 := hC.fr fun p hp => hf p (by omega) (by omega)
      have hT2 : TD s G2 := by
        unfold TD TR
        rw [hf 16 (by omega) (by omega), hf 17 (by omega) (by omega)]
        exact hT
      have hO2 : OI s G2 := by
        unfold OI
        rw [hf 18 (by omega) (by omega), hf 20 (by omega) (by omega)]
        exact hO
      refine vX4_find_22 _ _ _ G2 ⟨fun q => ?_, fun _ => ⟨fun q => ?_, fun _ => c4_lowest hC2 hW hT2 hO2 h10 hm hQ h22 (fun hall G3 hf3 => ?_) (fun j hj hjb hQj hmin G3 hf3 h223 => ?_)⟩⟩
      · rw [hf 18 (by omega) (by omega), hO.1] at q
        exact absurd q (nI_ge (by omega) (by omega))
      · rw [show (10 : Int32) = nI 10 from rfl] at q
        exact absurd q (nI_ge (by omega) (by omega))
      · refine ⟨fun q => absurd rfl q, fun _ => ⟨_, rfl, hno (c2 fun hc => ?_) G3 (fun p a b => (hf3 p b).trans (hf p a b))⟩⟩
        rcases (can_iff.mp hc).2 with q | ⟨j, j1, j2, j3⟩
        · have h1 : cb (al s) (on s) < on s := by rw [← q]; omega
          have h2 : ∀ n, n ≤ on s → cb (al s) n = n := by
            intro n
            induction n with
            | zero => intro _; rfl
            | succ n ih => intro hn; rw [cb, ih (by omega), al_bit (by omega)]; rfl
          rw [h2 _ (Nat.le_refl _)] at h1
          omega
        · exact hall j j1 j2 ((RR_iff hk1 h0).mp (can_iff.mp j3).1)
      · have ne : ¬ nI j = -1 := fun q => by
          have := nI_pos' (show j < 2 ^ 31 by omega)
          rw [q] at this
          exact absurd this (by decide)
        refine ⟨fun _ => ⟨vp_in_nI (by omega) (by omega), vp_in_nI (by omega) (by omega), ?_⟩, fun q => absurd q ne⟩
        rw [sh_l (by omega), fa_or, nI_1, nI_c (show i < 2 ^ 31 by omega), nI_c (show j < 2 ^ 31 by omega), hf3 20 (by omega), hf 20 (by omega) (by omega), hO.2 j hj]
        have hcm : can s m → can s (m ||| 2 ^ j) := fun hc => can_ex0 hk1 h0 hj hc hQj
        have hmc : can s (m ||| 2 ^ j) → can s m := fun hc => can_iff.mpr ⟨(RR_iff hk1 h0).mpr hQ, Or.inr ⟨j, hj, hjb, hc⟩⟩
        have f4 : ∀ p, p ≠ 21 → p ≠ 22 → gU G3 21 i (nI (oj s j)) p = G p := fun p a b => by rw [gU_n a, hf3 p b]; exact hf p a b
        have g21 : ∀ x, x < i + 1 → gU G3 21 i (nI (oj s j)) 21 x = nI (((pre ++ [j]).map (oj s)).getD x 0) := by
          intro x hx
          rw [gU_at]
          by_cases q : x = i
          · rw [if_pos ⟨rfl, q⟩, q]
            congr 1
            rw [List.map_append, List.getD, List.getElem?_append_right (by rw [List.length_map]; omega), List.length_map, hpre, Nat.sub_self]
            rfl
          · rw [if_neg (fun z => q z.2), hf3 21 (by omega), h21 x (by omega)]
            congr 1
            rw [List.map_append, List.getD, List.getD, List.getElem?_append_left (by rw [List.length_map]; omega)]
        refine ih (i + 1) (m ||| 2 ^ j) (by omega) (by rw [cb_or hjb, if_pos hj]; omega) (or_lt hm hj) hQj (pre ++ [j]) _ (by rw [List.length_append]; simp; omega) f4 (fun x hx => by rw [gU_n (by omega)]; exact h223 x hx) g21 (fun q => c1 (hmc q)) (fun q => c2 fun z => q (hcm z)) (fun hc js hg => ?_)
        rw [List.append_assoc]
        exact hgp (hmc hc) (j :: js) ⟨hj, hjb, hc, fun i' h1 h2 h3 => hmin i' h1 h2 ((RR_iff hk1 h0).mp (can_iff.mp h3).1), hg⟩
  have hQ0 : QQ s (dM s 0) := by rw [dM_0]; exact ((rtN_iff hk1).mp h0).2
  exact key (on s) 0 0 (by omega) (cb_0 _) (Nat.pow_pos (by omega)) hQ0 [] G1 rfl f1 g22 (fun j hj => by omega) id id (fun _ js h => h)
theorem otN_mono {b c : Nat} (h : b ≤ c) : (otN s b).length ≤ (otN s c).length := by
  induction c with
  | zero => have : b = 0 := by omega
            subst this; exact Nat.le_refl _
  | succ c ih =>
    rcases Nat.lt_or_ge b (c + 1) with q | q
    · have := ih (by omega)
      rw [otN, List.length_append]
      omega
    · have : b = c + 1 := by omega
      subst this; exact Nat.le_refl _
theorem otN_30 (hW : WF s) : otN s 30 = ot s := by
  have hkn := hW.n.2.1
  have key : ∀ m, kn s + m ≤ 30 → otN s (kn s + m) = otN s (kn s) := by
    intro m
    induction m with
    | zero => intro _; rfl
    | succ m ih =>
      intro h
      have e : ¬ chg s (kn s + m) := fun q => by have := (hW.b.2.1 _ q.1).2.1; omega
      rw [show kn s + (m + 1) = (kn s + m) + 1 by omega, otN, ih (by omega), if_neg e, List.append_nil]
  have := key (30 - kn s) (by omega)
  rw [show kn s + (30 - kn s) = 30 by omega] at this
  exact this
theorem c4_gather (hC : CS s G) (hW : WF s) (hno : 10 < on s → ∀ G', (∀ p, p ≠ 18 → p ≠ 20 → G' p = G p) → (∀ j, j ≠ 4 → G' 18 j = G 18 j) → P 0 G') (hyes : on s ≤ 10 → ∀ G', (∀ p, p ≠ 18 → p ≠ 20 → G' p = G p) → (∀ j, j ≠ 4 → G' 18 j = G 18 j) → OI s G' → P 1 G') : CTi kX4_gatherLines [.ref 18] G P := by
  have hkn := hW.n.2.1
  refine vX4_gatherLines _ G ?_
  have key : ∀ n b : Nat, b + n = 30 → 1 ≤ b → ∀ G1 : GG, (∀ p, p ≠ 18 → p ≠ 20 → G1 p = G p) → (∀ j, j ≠ 4 → G1 18 j = G 18 j) → (otN s b).length ≤ 10 → G1 18 4 = nI (otN s b).length → (∀ j, j < (otN s b).length → G1 20 j = nI ((otN s b).getD j 0)) → zJ kX4_gatherLines (fun r G' => ∃ x, r = some (.int x) ∧ P x G') 7 [(0, .ref 18), (1, .int (nI b))] [] G1 := by
    intro n
    induction n with
    | zero =>
      intro b hb _ G1 hf h18 hlen h4 h20
      have : b = 30 := by omega
      subst this
      rw [otN_30 hW] at hlen h4 h20
      exact vX4_gatherLines_7 _ _ G1 ⟨fun _ => ⟨_, rfl, hyes hlen G1 hf h18 ⟨h4, h20⟩⟩, fun q => absurd (by decide) q⟩
    | succ n ih =>
      intro b hb hb1 G1 hf h18 hlen h4 h20
      have hin : vp_in (nI b) 30 := vp_in_nI (by omega) (by omega)
      have hgo := (hW.b.1 b).2.2.2.2.2
      have hdl := (hW.b.1 b).2.2.2.1
      have skip : ¬ chg s b → zJ kX4_gatherLines (fun r G' => ∃ x, r = some (.int x) ∧ P x G') 7 [(0, .ref 18), (1, .int (nI b + 1))] [] G1 := by
        intro q
        rw [nI_1]
        have e : otN s (b + 1) = otN s b := by rw [otN, if_neg q, List.append_nil]
        exact ih (b + 1) (by omega) (by omega) G1 hf h18 (by rw [e]; exact hlen) (by rw [e]; exact h4) (by rw [e]; exact h20)
      refine vX4_gatherLines_7 _ _ G1 ⟨fun q => ?_, fun _ => ⟨hin, ?_⟩⟩
      · rw [show (30 : Int32) = nI 30 from rfl] at q
        exact absurd q (nI_ge (by omega) (by omega))
      · rw [nI_c (show b < 2 ^ 31 by omega), hf 12 (by omega) (by omega), hf 10 (by omega) (by omega), hC.2.1.2.2.2.2.2 b (by omega), hC.2.1.2.2.2.1 b (by omega), h4]
        have eg : gN (go s b) = -1 ↔ go s b = 0 := by
          unfold gN
          by_cases q : go s b = 0
          · simp [q]
          · rw [if_neg q]
            refine ⟨fun z => ?_, fun z => absurd z q⟩
            have := nI_pos' (show go s b < 2 ^ 31 by omega)
            rw [z] at this
            exact absurd this (by decide)
        rw [eg]
        refine ⟨fun h1 => skip fun q => q.2.1 h1, fun h1 => ⟨hin, hin, ?_⟩⟩
        have eg2 : gN (go s b) = nI (go s b) := by unfold gN; rw [if_neg h1]
        rw [eg2, nI_eq (by omega) (by omega)]
        refine ⟨fun h2 => skip fun q => q.2.2 h2, fun h2 => ?_⟩
        have hch : chg s b := ⟨hW.b.2.2 b h1, h1, h2⟩
        have e : otN s (b + 1) = otN s b ++ [b] := by rw [otN, if_pos hch]
        rw [show (10 : Int32) = nI 10 from rfl, nI_ltI (by omega) (by omega)]
        refine ⟨fun h3 => ⟨vp_in_nI h3 (by omega), ?_⟩, fun h3 => ⟨_, rfl, hno ?_ G1 hf h18⟩⟩
        · rw [gU_n (show (18 : Nat) ≠ 20 by omega), h4, nI_1, nI_1, nI_c (show (otN s b).length < 2 ^ 31 by omega)]
          refine ih (b + 1) (by omega) (by omega) _ (fun p a c => by rw [gU_n a, gU_n c]; exact hf p a c) (fun j hj => by rw [gU_k hj, gU_n (by omega)]; exact h18 j hj) (by rw [e, List.length_append]; simp; omega) (by rw [gU_s, e, List.length_append]; rfl) (fun j hj => ?_)
          rw [e, List.length_append] at hj
          have hj : j < (otN s b).length + 1 := hj
          rw [gU_n (by omega), gU_at, e]
          by_cases q : j = (otN s b).length
          · rw [if_pos ⟨rfl, q⟩, q, List.getD, List.getElem?_append_right (Nat.le_refl _), Nat.sub_self]
            rfl
          · rw [if_neg (fun z => q z.2), h20 j (by omega), List.getD, List.getD, List.getElem?_append_left (by omega)]
        · have h4 := otN_mono (s := s) (show b + 1 ≤ 30 by omega)
          rw [e, List.length_append, otN_30 hW] at h4
          have h4 : (otN s b).length + 1 ≤ on s := h4
          omega
  have e1 : otN s 1 = [] := by
    have : ¬ chg s 0 := fun q => by have := (hW.b.2.1 _ q.1).1; omega
    rw [otN, if_neg this]
    rfl
  exact key 29 1 (by omega) (by omega) _ (fun p a _ => by rw [gU_n a]) (fun j hj => by rw [gU_k hj]) (by rw [e1]; simp) (by rw [e1, gU_s]; rfl) (fun j hj => by rw [e1] at hj; exact absurd hj (by simp))
theorem c7_change (hR : CR s G) (hW : WF s) (hno : ¬ ChY s → ∀ G', CR s G' → sHi G G' → P (-1) G') (hyes : ∀ js, ChJ s js → ∀ G', CR (nChange s (js.map (oj s))) G' → sHi G G' → P (nI js.length) G') : CTi kX7_change [.ref 0] G P := by
  have hC := hR.s
  have hk1 := hW.n.1
  have hhg := hW.r.2.2.2.2.2.1
  obtain ⟨m1, m2, m3, m4, m5⟩ := hR.2.2.2.2
  have keep : ∀ G', (∀ p, p ≠ 14 → p ≠ 16 → p ≠ 17 → p ≠ 18 → p ≠ 20 → p ≠ 21 → p ≠ 22 → G' p = G p) → G' 18 2 = G 18 2 → CR s G' := by
    intro G' hf h18
    have hC1 := hC.fr (G' := G') fun p hp => hf p (by omega) (by omega) (by omega) (by omega) (by omega) (by omega) (by omega)
    exact ⟨hC1.1, hC1.2.1, hC1.2.2.1, hC1.2.2.2, CMis_fr hR.2.2.2.2 (hf 0 (by omega) (by omega) (by omega) (by omega) (by omega) (by omega) (by omega)) h18 (hf 19 (by omega) (by omega) (by omega) (by omega) (by omega) (by omega) (by omega))⟩
  refine vX7_change _ G ?_
  rw [m1, n0_iff (by omega)]
  refine ⟨fun h1 => ⟨_, rfl, hno (fun q => by have := q.1; omega) G hR sHi.rf⟩, fun h1 => c4_gather hC hW (fun h10 G1 f1 g1 => ⟨fun q => absurd rfl q, fun _ => ⟨_, rfl, hno (fun q => by have := q.2.1; omega) G1 (keep G1 (fun p _ _ _ a b _ _ => f1 p a b) (g1 2 (by omega))) (fun p hp => f1 p (by omega) (by omega))⟩⟩) (fun h10 G1 f1 g1 hO1 => ⟨fun _ => ?_, fun q => absurd q (by decide)⟩)⟩
  have hC1 : CS s G1 := hC.fr fun p hp => f1 p (by omega) (by omega)
  refine c2_look hC1 hW ?_
  obtain ⟨G2, eG2⟩ : ∃ G2, G2 = ntQ G1 (rtN s) := ⟨_, rfl⟩
  rw [← eG2]
  have f2 : ∀ p, p ≠ 14 → G2 p = G1 p := fun p hp => by rw [eG2]; exact nt_p hp
  have e3 : G2 14 3 = q24 (rtN s) := by rw [eG2]; exact nt_3
  have hq0 := rt_q24 (s := s)
  rw [e3, hq0]
  refine ⟨fun hr => ?_, fun hr => ⟨_, rfl, hno (fun q => ?_) G2 (keep G2 (fun p a _ _ b c _ _ => (f2 p a).trans (f1 p b c)) (by rw [f2 18 (by omega)]; exact g1 2 (by omega))) (fun p hp => (f2 p (by omega)).trans (f1 p (by omega) (by omega)))⟩⟩
  · have hC2 : CS s G2 := hC1.fr fun p hp => f2 p (by omega)
    refine c1_gather hC2 hW fun G3 f3 hT3 => ?_
    have hC3 : CS s G3 := hC2.fr f3.c
    have hO3 : OI s G3 := by
      unfold OI
      rw [f3 18 (by omega) (by omega), f3 20 (by omega) (by omega), f2 18 (by omega), f2 20 (by omega)]
      exact hO1
    refine c4_find hC3 hW hT3 hO3 h10 hr (fun hc G4 f4 => ⟨_, rfl, hno (fun q => hc q.2.2) G4 (keep G4 (fun p a b c d e f g => (f4 p f g).trans ((f3 p b c).trans ((f2 p a).trans (f1 p d e)))) ?_) (fun p hp => (f4 p (by omega) (by omega)).trans ((f3 p (by omega) (by omega)).trans ((f2 p (by omega)).trans (f1 p (by omega) (by omega)))))⟩) (fun js hc hg hl G4 f4 h18 h19 => ⟨_, rfl, ?_⟩)
    · rw [f4 18 (by omega) (by omega), f3 18 (by omega) (by omega), f2 18 (by omega)]
      exact g1 2 (by omega)
    · rw [← hl]
      have hfr : ∀ p, p ≠ 14 → p ≠ 16 → p ≠ 17 → p ≠ 18 → p ≠ 19 → p ≠ 20 → p ≠ 21 → p ≠ 22 → G4 p = G p := fun p a b c d e f g h => (f4 p d e g h).trans ((f3 p b c).trans ((f2 p a).trans (f1 p d f)))
      refine hyes js ⟨⟨by omega, h10, hc⟩, hg⟩ G4 ?_ (fun p hp => hfr p (by omega) (by omega) (by omega) (by omega) (by omega) (by omega) (by omega) (by omega))
      have hC4 := hC.fr (G' := G4) fun p hp => hfr p (by omega) (by omega) (by omega) (by omega) (by omega) (by omega) (by omega) (by omega)
      have e49 : ∀ j, j ≠ 23 → nChange s (js.map (oj s)) 49 j = s 49 j := fun j hj => by
        unfold nChange
        rw [if_neg (by omega), if_neg (fun q => hj q.2)]
      have ep : ∀ p, p ≠ 64 → p ≠ 49 → nChange s (js.map (oj s)) p = s p := fun p h1 h2 => by
        funext j
        unfold nChange
        rw [if_neg (fun q => h1 q.1), if_neg (fun q => h2 q.1)]
      refine ⟨CNet_cg hC4.1 (e49 0 (by omega)) (e49 1 (by omega)) (e49 2 (by omega)) (ep 50 (by omega) (by omega)) (ep 51 (by omega) (by omega)) (ep 52 (by omega) (by omega)), CRow_cg hC4.2.1 (ep 56 (by omega) (by omega)) (ep 57 (by omega) (by omega)) (ep 58 (by omega) (by omega)) (ep 59 (by omega) (by omega)) (ep 60 (by omega) (by omega)) (ep 61 (by omega) (by omega)), CCur_cg hC4.2.2.1 (ep 53 (by omega) (by omega)) (ep 54 (by omega) (by omega)) (ep 55 (by omega) (by omega)), CRul_cg hC4.2.2.2 (e49 3 (by omega)) (e49 4 (by omega)) (e49 5 (by omega)), ?_, ?_, ?_, ?_, ?_⟩
      · rw [hfr 0 (by omega) (by omega) (by omega) (by omega) (by omega) (by omega) (by omega) (by omega), m1]
        show _ = nI (nChange s (js.map (oj s)) 49 17)
        rw [e49 17 (by omega)]
      · rw [hfr 0 (by omega) (by omega) (by omega) (by omega) (by omega) (by omega) (by omega) (by omega), m2]
        show _ = nI (nChange s (js.map (oj s)) 49 19)
        rw [e49 19 (by omega)]
      · intro q b
        have q : nChange s (js.map (oj s)) 49 19 = 1 := q
        rw [e49 19 (by omega)] at q
        rw [hfr 0 (by omega) (by omega) (by omega) (by omega) (by omega) (by omega) (by omega) (by omega), m3 q b]
        show _ = decide (b < nChange s (js.map (oj s)) 49 0 ∧ nChange s (js.map (oj s)) 62 b = 1)
        rw [e49 0 (by omega), ep 62 (by omega) (by omega)]
      · rw [h18]
        show _ = nI (nChange s (js.map (oj s)) 49 23)
        unfold nChange
        rw [if_neg (by omega), if_pos ⟨rfl, rfl⟩, List.length_map, hl]
      · have e23 : sn (nChange s (js.map (oj s))) = js.length := by
          show nChange s (js.map (oj s)) 49 23 = _
          unfold nChange
          rw [if_neg (by omega), if_pos ⟨rfl, rfl⟩, List.length_map]
        intro i hi
        rw [e23] at hi
        rw [h19 i (by omega)]
        show _ = nI (nChange s (js.map (oj s)) 64 i)
        unfold nChange
        rw [if_pos ⟨rfl, by rw [List.length_map]; exact hi⟩]
  · have := (can_iff.mp q.2.2).1
    unfold RR at this
    rw [dM_0, dS_id] at this
    exact hr this
end E2
