section C6
variable {s : NN} {G : GG} {P : Int32 → GG → Prop} {PL : Int64 → GG → Prop}
theorem c7_corner {c m t : Int32} (hR : CR s G) (hc : WFc s) (hy : aCorner s c m t → ∀ G', CR (nCorner s c m t) G' → sHi G G' → P (nI (cn s (cl c) + 1)) G') (hn : ¬ aCorner s c m t → P (-1) G) : CTi kX7_corner [.ref 0, .int c, .int m, .int t] G P := by
  refine vX7_corner _ _ _ _ G (c7_in (a := 0) (b := 7) (by decide) (by decide) (bI_rb (fun h1 => ?_) (fun h1 => ⟨_, rfl, hn fun q => h1 q.1⟩)))
  obtain ⟨a, -, a2, rfl⟩ := inR_n (a := 0) (b := 7) h1.1 h1.2
  have ha : a < 2 ^ 31 := by omega
  have ha8 : a < 8 := by omega
  have hin : vp_in (nI a) 8 := vp_in_nI ha8 (by omega)
  have ecl : cl (nI a) = a := nI_c ha
  have hca := hc a ha8
  have hcur := hR.2.2.1 a ha8
  have no : ∀ {G0 : GG}, G0 = G → ¬ aCorner s (nI a) m t → ∃ x, some (Value.int (-1)) = some (.int x) ∧ ((x = -1 → ∃ y, some (Value.int x) = some (.int y) ∧ P y G0) ∧ (¬ x = -1 → ∃ y, some (Value.int x) = some (.int y) ∧ P y (gU G0 0 9 0))) := by
    intro G0 e q
    subst e
    exact ⟨_, rfl, fun _ => ⟨_, rfl, hn q⟩, fun q => absurd rfl q⟩
  refine ⟨hin, vX0_addCorner _ (nI a) hin _ _ G ?_⟩
  rw [zCvN ha8, hcur.1, show (8 : Int32) = nI 8 from rfl, nI_leI (by omega) (by omega)]
  refine ⟨fun h2 => no rfl (fun q => by have := q.2.2.2.1; rw [ecl] at this; omega), fun h2 => c7_in (a := 10) (b := 1000) (by decide) (by decide) (bI_br (fun h3 => no rfl (fun q => h3 q.2.1)) (fun h3 => c7_in (a := 1) (b := 1000) (by decide) (by decide) (bI_rb (fun h4 => ?_) (fun h4 => no rfl (fun q => h4 q.2.2.1)))))⟩
  obtain ⟨b, b1, b2, rfl⟩ := inR_n (a := 10) (b := 1000) h3.1 h3.2
  obtain ⟨d, d1, d2, rfl⟩ := inR_n (a := 1) (b := 1000) h4.1 h4.2
  have eclb : cl (nI b) = b := nI_c (by omega)
  have ecld : cl (nI d) = d := nI_c (by omega)
  have hcn31 : cn s a < 2 ^ 31 := by omega
  have fin : aCorner s (nI a) (nI b) (nI d) → zJ kX0_addCorner (fun r G' => ∃ x, r = some (.int x) ∧ ((x = -1 → ∃ y, some (Value.int x) = some (.int y) ∧ P y G') ∧ (¬ x = -1 → ∃ y, some (Value.int x) = some (.int y) ∧ P y (gU G' 0 9 0)))) 73 [(0, .ref (25 + 3 * a)), (1, .int (nI b)), (2, .int (nI d))] [] G := by
    intro hA
    have hv := vX0_addCorner_73 (fun r G' => ∃ x, r = some (.int x) ∧ ((x = -1 → ∃ y, some (Value.int x) = some (.int y) ∧ P y G') ∧ (¬ x = -1 → ∃ y, some (Value.int x) = some (.int y) ∧ P y (gU G' 0 9 0)))) (nI a) hin (nI b) (nI d) G
    have e0 : ∀ v : Int32, gU G (25 + 3 * a + 1) (cn s a) v (25 + 3 * a) 0 = nI (cn s a) := fun v => by rw [gU_n (by omega)]; exact hcur.1
    have e1 : ∀ v w : Int32, gU (gU G (25 + 3 * a + 1) (cn s a) v) (25 + 3 * a + 2) (cn s a) w (25 + 3 * a) 0 = nI (cn s a) := fun v w => by rw [gU_n (by omega), gU_n (by omega)]; exact hcur.1
    rw [zCvN ha8, hcur.1, nI_c hcn31, e0, nI_c hcn31, e1, nI_1, gU_s] at hv
    refine hv ⟨vp_in_nI (by omega) (by omega), vp_in_nI (by omega) (by omega), _, rfl, fun q => ?_, fun _ => ⟨_, rfl, ?_⟩⟩
    · have := nI_pos' (show cn s a + 1 < 2 ^ 31 by omega)
      rw [q] at this
      exact absurd this (by decide)
    · rw [ecl] at hy
      refine hy hA _ ?_ ((((sHi.rf.u (by omega)).u (by omega)).u (by omega)).u (by omega))
      obtain ⟨cnet, crow, ccur, crul, cmis⟩ := hR
      refine ⟨?_, ?_, ?_, ?_, ?_⟩
      · exact CNet_cg (cnet.fr fun p h1 h2 => by rw [gU_n (by omega), gU_n (by omega), gU_n (by omega), gU_n (by omega)]) (by simp [nCorner, sU]) (by simp [nCorner, sU]) (by simp [nCorner, sU]) (by funext j; simp [nCorner, sU]) (by funext j; simp [nCorner, sU]) (by funext j; simp [nCorner, sU])
      · exact CRow_cg (crow.fr fun p h1 h2 => by rw [gU_n (by omega), gU_n (by omega), gU_n (by omega), gU_n (by omega)]) (by funext j; simp [nCorner, sU]) (by funext j; simp [nCorner, sU]) (by funext j; simp [nCorner, sU]) (by funext j; simp [nCorner, sU]) (by funext j; simp [nCorner, sU]) (by funext j; simp [nCorner, sU])
      · intro c' hc'
        obtain ⟨g1, g2⟩ := ccur c' hc'
        have x53 : cn (nCorner s (nI a) (nI b) (nI d)) c' = if c' = a then cn s a + 1 else cn s c' := by
          show nCorner s (nI a) (nI b) (nI d) 53 c' = _
          simp [nCorner, sU_at, ecl]
        have x54 : ∀ j, j < 8 → mu (nCorner s (nI a) (nI b) (nI d)) c' j = if c' = a ∧ j = cn s a then b else mu s c' j := by
          intro j hj
          show nCorner s (nI a) (nI b) (nI d) 54 (8 * c' + j) = _
          have : (8 * c' + j = 8 * a + cn s a) ↔ (c' = a ∧ j = cn s a) := by omega
          simp [nCorner, sU_at, ecl, eclb, this]
        have x55 : ∀ j, j < 8 → tk (nCorner s (nI a) (nI b) (nI d)) c' j = if c' = a ∧ j = cn s a then d else tk s c' j := by
          intro j hj
          show nCorner s (nI a) (nI b) (nI d) 55 (8 * c' + j) = _
          have : (8 * c' + j = 8 * a + cn s a) ↔ (c' = a ∧ j = cn s a) := by omega
          simp [nCorner, sU_at, ecl, ecld, this]
        refine ⟨?_, fun j hj => ⟨?_, ?_⟩⟩
        · rw [gU_n (by omega), gU_at, x53]
          by_cases q : c' = a
          · rw [if_pos ⟨by omega, rfl⟩, if_pos q]
          · rw [if_neg (by omega), gU_n (by omega), gU_n (by omega), if_neg q]; exact g1
        · rw [gU_n (by omega), gU_n (by omega), gU_n (by omega), gU_at, x54 j hj]
          by_cases q : c' = a ∧ j = cn s a
          · rw [if_pos ⟨by omega, q.2⟩, if_pos q]
          · rw [if_neg (by omega), if_neg q]; exact (g2 j hj).1
        · rw [gU_n (by omega), gU_n (by omega), gU_at, x55 j hj]
          by_cases q : c' = a ∧ j = cn s a
          · rw [if_pos ⟨by omega, q.2⟩, if_pos q]
          · rw [if_neg (by omega), gU_n (by omega), if_neg q]; exact (g2 j hj).2
      · exact CRul_cg (crul.fr (by rw [gU_n (by omega), gU_n (by omega), gU_n (by omega), gU_n (by omega)])) (by simp [nCorner, sU]) (by simp [nCorner, sU]) (by simp [nCorner, sU])
      · refine CMis_no cmis (by simp [nCorner, sU]) (by simp [nCorner, sU]) (by simp [nCorner, sU]) (by funext j; simp [nCorner, sU]) ?_ (by rw [gU_s]) ?_ ?_
        · rw [gU_k (by omega), gU_n (by omega), gU_n (by omega), gU_n (by omega)]
        · rw [gU_n (by omega), gU_n (by omega), gU_n (by omega), gU_n (by omega)]
        · rw [gU_n (by omega), gU_n (by omega), gU_n (by omega), gU_n (by omega)]
  rw [hcur.1, nI_le0 (by omega)]
  refine ⟨fun h5 => fin ⟨h1, h3, h4, by rw [ecl]; omega, fun q => by rw [ecl] at q; exact absurd h5 q⟩, fun h5 => ?_⟩
  have hmu := hca.2.1 (cn s a - 1) (by omega)
  have hin5 : vp_in (nI (cn s a - 1)) 8 := vp_in_nI (by omega) (by omega)
  rw [nI_p1 (by omega), nI_c (show cn s a - 1 < 2 ^ 31 by omega), (hcur.2 (cn s a - 1) (by omega)).1, (hcur.2 (cn s a - 1) (by omega)).2, nI_leI (by omega) (by omega), nI_ltI (by omega) (by omega)]
  refine ⟨hin5, fun h6 => no rfl ?_, fun h6 => ⟨hin5, fun h7 => fin ⟨h1, h3, h4, by rw [ecl]; omega, fun _ => ?_⟩, fun h7 => no rfl ?_⟩⟩
  · intro q
    have := q.2.2.2.2
    rw [ecl, eclb] at this
    have := (this h5).1
    omega
  · rw [ecl, eclb, ecld]
    omega
  · intro q
    have := q.2.2.2.2
    rw [ecl, ecld] at this
    have := (this h5).2
    omega
theorem CS_cg {s s' : NN} (h : sEq s s') (h61 : s' 61 = s 61) (hC : CS s G) : CS s' G := by
  have e : ∀ p, 50 ≤ p → p ≤ 60 → s' p = s p := h.2
  have k : ∀ j, j ≠ 17 → j ≠ 19 → j ≠ 23 → s' 49 j = s 49 j := h.1
  exact ⟨CNet_cg hC.1 (k 0 (by omega) (by omega) (by omega)) (k 1 (by omega) (by omega) (by omega)) (k 2 (by omega) (by omega) (by omega)) (e 50 (by omega) (by omega)) (e 51 (by omega) (by omega)) (e 52 (by omega) (by omega)), CRow_cg hC.2.1 (e 56 (by omega) (by omega)) (e 57 (by omega) (by omega)) (e 58 (by omega) (by omega)) (e 59 (by omega) (by omega)) (e 60 (by omega) (by omega)) h61, CCur_cg hC.2.2.1 (e 53 (by omega) (by omega)) (e 54 (by omega) (by omega)) (e 55 (by omega) (by omega)), CRul_cg hC.2.2.2 (k 3 (by omega) (by omega) (by omega)) (k 4 (by omega) (by omega) (by omega)) (k 5 (by omega) (by omega) (by omega))⟩
theorem c7_run {k p f : Int32} (hR : CR s G) (hW : WF s) (hy : ftP s k p f → ∀ G', CR (nRun s k p f) G' → sHi G G' → P (oI (clN s (cl k) (cl p) (cl f) (kn s))) G') (hn : ¬ ftP s k p f → P (-1) G) : CTi kX7_run [.ref 0, .int k, .int p, .int f] G P := by
  have hC := hR.s
  have hkn := hW.n.2.1
  refine vX7_run _ _ _ _ G (c3_isFault hC hW.n (bI_rb (fun hc => ?_) (fun hc => ⟨_, rfl, hn hc⟩)))
  obtain ⟨a, b, c, a1, a2, b2, c2, rfl, rfl, rfl⟩ := ftP_n hc hkn
  have hy := hy hc
  unfold nRun at hy
  rw [show cl (nI a) = a from nI_c (by omega), show cl (nI b) = b from nI_c (by omega), show cl (nI c) = c from nI_c (by omega)] at hy
  refine c7_clearTick hC hW.w a1 a2 b2 c2 (c7_openersAt hC hW.w a1 a2 b2 c2 (fun t ht => clN_le hW.c hW.b ht) fun y hyb => ⟨_, rfl, hy _ ?_ ((sHi.rf.u (by omega)).u (by omega))⟩)
  have h61 : rnN s a b c (kn s) 61 = s 61 := by
    funext j
    unfold rnN
    rw [if_neg (by omega), if_neg (by omega), if_neg (by omega)]
  have hCS := CS_cg (G := gU (gU G 0 10 y) 0 9 1) (rnN_eq (s := s) (k := a) (p := b) (f := c) (n := kn s)) h61 (hC.fr ((sC.rf.u (by omega)).u (by omega)))
  obtain ⟨m1, m2, m3, m4, m5⟩ := hR.2.2.2.2
  refine ⟨hCS.1, hCS.2.1, hCS.2.2.1, hCS.2.2.2, ?_, ?_, fun _ x => ?_, ?_, ?_⟩
  · rw [gU_k (by omega), gU_k (by omega), m1]
    show _ = nI (rnN s a b c (kn s) 49 17)
    unfold rnN
    rw [if_neg (by omega), if_neg (by omega), if_neg (by omega)]
  · rw [gU_s]
    show _ = nI (rnN s a b c (kn s) 49 19)
    unfold rnN
    rw [if_neg (by omega), if_neg (by omega), if_pos ⟨rfl, rfl⟩]
    rfl
  · rw [gU_k (by omega), gU_s, hyb x]
    have ekn : kn (rnN s a b c (kn s)) = kn s := rnN_eq.1 0 (by omega) (by omega) (by omega)
    rw [ekn]
    apply decide_eq_decide.mpr
    constructor
    · rintro ⟨t, ht, hx⟩
      have hxk : x < kn s := by
        apply Decidable.byContradiction
        intro q
        rw [wv_way (fun z => by have := way_le z; omega)] at hx
        cases hx
      refine ⟨hxk, ?_⟩
      show rnN s a b c (kn s) 62 x = 1
      unfold rnN
      rw [if_pos ⟨rfl, hxk⟩]
      unfold opN
      rw [ht]
      unfold wv at hx
      split at hx
      · cases hx
      · next hfl => exact if_pos ⟨hfl, hx⟩
    · rintro ⟨hxk, hx⟩
      have hx : rnN s a b c (kn s) 62 x = 1 := hx
      unfold rnN at hx
      rw [if_pos ⟨rfl, hxk⟩] at hx
      unfold opN at hx
      cases ht : clN s a b c (kn s) with
      | none => rw [ht] at hx; cases hx
      | some t =>
        rw [ht] at hx
        refine ⟨t, rfl, ?_⟩
        simp only at hx
        split at hx
        · next q =>
          unfold wv
          rw [if_neg q.1]
          exact q.2
        · cases hx
  · rw [gU_n (by omega), gU_n (by omega), m4]
    show _ = nI (rnN s a b c (kn s) 49 23)
    unfold rnN
    rw [if_neg (by omega), if_neg (by omega), if_neg (by omega)]
  · intro i hi
    rw [gU_n (by omega), gU_n (by omega)]
    have e23 : sn (rnN s a b c (kn s)) = sn s := by
      show rnN s a b c (kn s) 49 23 = _
      unfold rnN
      rw [if_neg (by omega), if_neg (by omega), if_neg (by omega)]
    rw [e23] at hi
    rw [m5 i hi]
    show _ = nI (rnN s a b c (kn s) 64 i)
    unfold rnN
    rw [if_neg (by omega), if_neg (by omega), if_neg (by omega)]
theorem ctS_30 (hb : WFb s) (hW : WFn s) : ctS s 30 = ctS s (kn s) := by
  have hkn := hW.2.1
  have key : ∀ m, kn s + m ≤ 30 → ctS s (kn s + m) = ctS s (kn s) := by
    intro m
    induction m with
    | zero => intro _; rfl
    | succ m ih =>
      intro h
      have e : hs s (kn s + m) = 0 := by
        have h1 := (hb.1 (kn s + m)).1
        have : hs s (kn s + m) ≠ 1 := fun q => by have := (hb.2.1 _ q).2.1; omega
        omega
      rw [show kn s + (m + 1) = (kn s + m) + 1 by omega, ctS, ih (by omega), e, Nat.add_zero]
  have := key (30 - kn s) (by omega)
  rw [show kn s + (30 - kn s) = 30 by omega] at this
  exact this
theorem c7_goal (hR : CR s G) (hW : WF s) (h : ∀ G', CR (nGoal s) G' → sHi G G' → P (nI (ctS s 30)) G') : CTi kX7_goal [.ref 0] G P := by
  refine vX7_goal _ G (vX5_keepDialsAsGoal _ _ ?_)
  -- the part that stays
  have key : ∀ n b : Nat, b + n = 30 → ∀ G1 : GG, CS (dS s (dl s)) G1 ∨ True → (∀ p, p ≠ 12 → G1 p = gU G 0 8 1 p) → (∀ j, j < 30 → G1 12 j = if j < b then gN (if hs s j = 1 then dl s j else 0) else G 12 j) → zJ kX5_keepDialsAsGoal (fun r G' => ∃ x, r = some (.int x) ∧ ∃ y, some (Value.int x) = some (.int y) ∧ P y G') 4 [(0, .ref 7), (1, .int (nI (ctS s b))), (2, .int (nI b))] [] G1 := by
    intro n
    induction n with
    | zero =>
      intro b hb G1 _ hf h12
      have hb30 : b = 30 := by omega
      subst hb30
      refine vX5_keepDialsAsGoal_4 _ _ _ G1 ⟨fun _ => ⟨_, rfl, _, rfl, h G1 ?_ ?_⟩, fun q => absurd (by decide) q⟩
      · obtain ⟨cnet, crow, ccur, crul, m1, m2, m3, m4, m5⟩ := hR
        have e49 : ∀ j, j ≠ 17 → nGoal s 49 j = s 49 j := fun j hj => by
          unfold nGoal glN
          rw [if_neg (by omega), if_neg (by omega)]
        have ep : ∀ p, p ≠ 61 → p ≠ 49 → nGoal s p = s p := fun p h1 h2 => by funext j; exact glN_p h1 h2
        refine ⟨?_, ?_, ?_, ?_, ?_, ?_, ?_, ?_, ?_⟩
        · exact CNet_cg (cnet.fr fun p h1 h2 => by rw [hf p (by omega), gU_n (by omega)]) (e49 0 (by omega)) (e49 1 (by omega)) (e49 2 (by omega)) (ep 50 (by omega) (by omega)) (ep 51 (by omega) (by omega)) (ep 52 (by omega) (by omega))
        · obtain ⟨g1, g2, g3, g4, g5, g6⟩ := crow
          unfold CRow hs fl cu dl pk
          rw [ep 56 (by omega) (by omega), ep 57 (by omega) (by omega), ep 58 (by omega) (by omega), ep 59 (by omega) (by omega), ep 60 (by omega) (by omega)]
          rw [hf 7 (by omega), hf 9 (by omega), hf 10 (by omega), hf 11 (by omega), gU_n (by omega), gU_n (by omega), gU_n (by omega), gU_n (by omega)]
          refine ⟨g1, g2, g3, g4, g5, fun j hj => ?_⟩
          rw [h12 j hj, if_pos hj]
          have e : nGoal s 61 j = (if hs s j = 1 then dl s j else 0) := by
            unfold nGoal glN
            rw [if_pos ⟨rfl, hj⟩]
          show _ = gN (nGoal s 61 j)
          rw [e]
        · exact CCur_cg (ccur.fr fun p h1 h2 => by rw [hf p (by omega), gU_n (by omega)]) (ep 53 (by omega) (by omega)) (ep 54 (by omega) (by omega)) (ep 55 (by omega) (by omega))
        · exact CRul_cg (crul.fr (by rw [hf 13 (by omega), gU_n (by omega)])) (e49 3 (by omega)) (e49 4 (by omega)) (e49 5 (by omega))
        · rw [hf 0 (by omega), gU_s]
          show _ = nI (nGoal s 49 17)
          unfold nGoal glN
          rw [if_neg (by omega), if_pos ⟨rfl, rfl⟩]
          rfl
        · rw [hf 0 (by omega), gU_k (by omega), m2]
          show _ = nI (nGoal s 49 19)
          rw [e49 19 (by omega)]
        · intro q b
          have q : nGoal s 49 19 = 1 := q
          rw [e49 19 (by omega)] at q
          rw [hf 0 (by omega), gU_k (by omega), m3 q b]
          show _ = decide (b < nGoal s 49 0 ∧ nGoal s 62 b = 1)
          rw [e49 0 (by omega), ep 62 (by omega) (by omega)]
        · rw [hf 18 (by omega), gU_n (by omega), m4]
          show _ = nI (nGoal s 49 23)
          rw [e49 23 (by omega)]
        · intro i hi
          have hi : i < nGoal s 49 23 := hi
          rw [e49 23 (by omega)] at hi
          rw [hf 19 (by omega), gU_n (by omega), m5 i hi]
          show _ = nI (nGoal s 64 i)
          rw [ep 64 (by omega) (by omega)]
      · intro p hp
        rw [hf p (by omega), gU_n (by omega)]
    | succ n ih =>
      intro b hb G1 _ hf h12
      have hb30 : b < 30 := by omega
      have hin : vp_in (nI b) 30 := vp_in_nI hb30 (by omega)
      have hth : ∀ {G2 : GG} {Q : Int32 → GG → Prop}, (∀ p, p ≠ 12 → G2 p = gU G 0 8 1 p) → Q (bI (decide (hs s b = 1))) G2 → CTi kX5_isThere [.ref 7, .int (nI b)] G2 Q := by
        intro G2 Q hf2 hq
        refine vX5_isThere _ _ G2 (c7_holdsN hb30 ⟨bI_bo _, _, rfl, ?_⟩)
        rw [hf2 7 (by omega), gU_n (by omega), hR.2.1.1 b]
        exact hq
      have s33 : zJ kX5_keepDialsAsGoal (fun r G' => ∃ x, r = some (.int x) ∧ ∃ y, some (Value.int x) = some (.int y) ∧ P y G') 33 [(0, .ref 7), (1, .int (nI (ctS s b))), (2, .int (nI b))] [.int (gN (if hs s b = 1 then dl s b else 0)), .int (nI b), .ref 12] G1 := by
        refine vX5_keepDialsAsGoal_33 _ _ _ _ _ G1 ⟨hin, ?_⟩
        rw [nI_c (by omega)]
        have hf2 : ∀ p, p ≠ 12 → gU G1 12 b (gN (if hs s b = 1 then dl s b else 0)) p = gU G 0 8 1 p := fun p hp => by rw [gU_n hp]; exact hf p hp
        have h122 : ∀ j, j < 30 → gU G1 12 b (gN (if hs s b = 1 then dl s b else 0)) 12 j = if j < b + 1 then gN (if hs s j = 1 then dl s j else 0) else G 12 j := by
          intro j hj
          rw [gU_at]
          by_cases q : j = b
          · rw [if_pos ⟨rfl, q⟩, q, if_pos (Nat.lt_succ_self b)]
          · rw [if_neg (fun z => q z.2), h12 j hj]
            have : (j < b) ↔ (j < b + 1) := by omega
            simp only [this]
        have hih := ih (b + 1) (by omega) _ (Or.inr trivial) hf2 h122
        rw [ctS] at hih
        refine hth hf2 ?_
        rw [nI_1, nI_1, show (0 : Int32) = nI 0 from rfl, nI_add]
        have h01 := (hW.b.1 b).1
        refine bI_br (fun q => ?_) (fun q => ?_)
        · rw [show ctS s b + hs s b = ctS s b + 0 by omega] at hih; exact hih
        · rw [show ctS s b + hs s b = ctS s b + 1 by omega] at hih; exact hih
      refine vX5_keepDialsAsGoal_4 _ _ _ G1 ⟨fun q => ?_, fun _ => hth hf ?_⟩
      · rw [show (30 : Int32) = nI 30 from rfl] at q
        exact absurd q (nI_ge hb30 (by omega))
      · refine bI_br (fun q => ?_) (fun q => ⟨hin, ?_⟩)
        · rw [if_neg q] at s33; exact s33
        · rw [if_pos q] at s33
          have hd := (hW.b.2.1 b q).2.2.1
          have eg : gN (dl s b) = nI (dl s b) := by unfold gN; rw [if_neg (by omega)]
          rw [eg] at s33
          rw [nI_c (by omega), hf 10 (by omega), gU_n (by omega), hR.2.1.2.2.2.1 b hb30]
          exact s33
  refine key 30 0 (by omega) _ (Or.inr trivial) (fun p _ => rfl) (fun j hj => ?_)
  rw [if_neg (by omega), gU_n (by omega)]
end C6
