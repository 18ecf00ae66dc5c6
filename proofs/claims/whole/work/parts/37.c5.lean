theorem way_ext {s s' : NN} : ∀ {k : Nat}, (∀ j, j ≤ k → fr s' j = fr s j) → way s' k = way s k := by
  intro k
  induction k using Nat.strongRecOn with
  | ind k ih =>
    intro h
    cases k with
    | zero => rw [way_0, way_0]
    | succ k =>
      rw [way, way, h (k + 1) (Nat.le_refl _), ih _ (by omega) (fun j hj => h j (by omega))]
theorem wsum_ext {s s' : NN} {k : Nat} (h : ∀ j, j ≤ k → fr s' j = fr s j) (h2 : ∀ j, j ≤ k → bY s' j = bY s j) : ((way s' k).map (bY s')).sum = ((way s k).map (bY s)).sum := by
  rw [way_ext h]
  congr 1
  apply List.map_congr_left
  intro x hx
  exact h2 x (way_le hx).2
theorem wsum_abv {s : NN} {k : Nat} (hW : WFn s) (hk : k < kn s) : ((way s k).map (bY s)).sum = abv s k + bY s k := by
  rcases Nat.eq_zero_or_pos k with rfl | hp
  · unfold abv
    rw [hW.2.2.2.2.2.2.2.2.1, hW.2.2.2.2.2.2.2.2.2, way_0]
    rfl
  · have hf := (hW.2.2.2.2.2.2.1 k hp hk).1
    rw [way_s hf, List.map_cons, List.sum_cons]
    unfold abv
    omega
section C5
variable {s : NN} {G : GG} {P : Int32 → GG → Prop} {PL : Int64 → GG → Prop}
theorem c7_source {f r : Int32} (hR : CR s G) (hy : aSource f r → ∀ G', CR (nSource s f r) G' → sHi G G' → P 1 G') (hn : ¬ aSource f r → P 0 G) : CTi kX7_source [.ref 0, .int f, .int r] G P := by
  refine vX7_source _ _ _ G (c7_in (a := 1) (b := 10000) (by decide) (by decide) (bI_br (fun h1 => ⟨_, rfl, hn fun q => h1 q.1⟩) (fun h1 => c7_in (a := 1) (b := 1000) (by decide) (by decide) (bI_rb (fun h2 => ⟨_, rfl, hy ⟨h1, h2⟩ _ ?_ (((sHi.rf.u (by omega)).u (by omega)).u (by omega))⟩) (fun h2 => ⟨_, rfl, hn fun q => h2 q.2⟩)))))
  have e1 := nI_self (x := f) (by have := h1.1; omega)
  have e2 := nI_self (x := r) (by have := h2.1; omega)
  obtain ⟨cnet, crow, ccur, crul, cmis⟩ := hR
  have h50 : nSource s f r 50 = s 50 := by funext j; simp [nSource, sU]
  have h51 : nSource s f r 51 = s 51 := by funext j; simp [nSource, sU]
  refine ⟨?_, ?_, ?_, ?_, ?_⟩
  · obtain ⟨a1, a2, a3, a4, a5, a6, a7, a8⟩ := cnet
    unfold CNet kn fo rs ld
    simp only [way_cg h50, abv_cg2 h50 h51]
    unfold fr bY
    rw [h50, h51]
    simp only [nSource, gU_at, sU_at]
    simp
    exact ⟨a1, e1, e2, a4, a5, a6, a7, a8⟩
  · exact CRow_cg (crow.fr fun p h1 h2 => by rw [gU_n (by omega), gU_n (by omega), gU_n (by omega)]) (by funext j; simp [nSource, sU]) (by funext j; simp [nSource, sU]) (by funext j; simp [nSource, sU]) (by funext j; simp [nSource, sU]) (by funext j; simp [nSource, sU]) (by funext j; simp [nSource, sU])
  · exact CCur_cg (ccur.fr fun p h1 h2 => by rw [gU_n (by omega), gU_n (by omega), gU_n (by omega)]) (by funext j; simp [nSource, sU]) (by funext j; simp [nSource, sU]) (by funext j; simp [nSource, sU])
  · exact CRul_cg (crul.fr (by rw [gU_n (by omega), gU_n (by omega), gU_n (by omega)])) (by simp [nSource, sU]) (by simp [nSource, sU]) (by simp [nSource, sU])
  · exact CMis_no cmis (by simp [nSource, sU]) (by simp [nSource, sU]) (by simp [nSource, sU]) (by funext j; simp [nSource, sU]) (by simp [gU_at]) (by simp [gU_at]) (by simp [gU_at]) (by funext j; simp [gU_at])
theorem c7_told {m l f : Int32} (hR : CR s G) (hy : aTold m l f → ∀ G', CR (nTold s m l f) G' → sHi G G' → P 1 G') (hn : ¬ aTold m l f → P 0 G) : CTi kX7_told [.ref 0, .int m, .int l, .int f] G P := by
  refine vX7_told _ _ _ _ G (c7_in (a := 1) (b := 10000) (by decide) (by decide) (bI_br (fun h1 => ⟨_, rfl, hn fun q => h1 q.1⟩) (fun h1 => c7_in (a := 1) (b := 100000) (by decide) (by decide) (bI_br (fun h2 => ⟨_, rfl, hn fun q => h2 q.2.1⟩) (fun h2 => c7_in (a := 0) (b := 1000) (by decide) (by decide) (bI_rb (fun h3 => ⟨_, rfl, hy ⟨h1, h2, h3⟩ _ ?_ ((((sHi.rf.u (by omega)).u (by omega)).u (by omega)).u (by omega))⟩) (fun h3 => ⟨_, rfl, hn fun q => h3 q.2.2⟩)))))))
  have e1 := nI_self (x := m) (by have := h1.1; omega)
  have e2 := nI_self (x := l) (by have := h2.1; omega)
  have e3 := nI_self (x := f) (by have := h3.1; omega)
  obtain ⟨cnet, crow, ccur, crul, cmis⟩ := hR
  refine ⟨?_, ?_, ?_, ?_, ?_⟩
  · exact CNet_cg (cnet.fr fun p h1 h2 => by rw [gU_n (by omega), gU_n (by omega), gU_n (by omega), gU_n (by omega)]) (by simp [nTold, sU]) (by simp [nTold, sU]) (by simp [nTold, sU]) (by funext j; simp [nTold, sU]) (by funext j; simp [nTold, sU]) (by funext j; simp [nTold, sU])
  · exact CRow_cg (crow.fr fun p h1 h2 => by rw [gU_n (by omega), gU_n (by omega), gU_n (by omega), gU_n (by omega)]) (by funext j; simp [nTold, sU]) (by funext j; simp [nTold, sU]) (by funext j; simp [nTold, sU]) (by funext j; simp [nTold, sU]) (by funext j; simp [nTold, sU]) (by funext j; simp [nTold, sU])
  · exact CCur_cg (ccur.fr fun p h1 h2 => by rw [gU_n (by omega), gU_n (by omega), gU_n (by omega), gU_n (by omega)]) (by funext j; simp [nTold, sU]) (by funext j; simp [nTold, sU]) (by funext j; simp [nTold, sU])
  · unfold CRul mg lm la
    simp only [nTold, gU_at, sU_at]
    simp
    exact ⟨e1, e2, e3⟩
  · exact CMis_no cmis (by simp [nTold, sU]) (by simp [nTold, sU]) (by simp [nTold, sU]) (by funext j; simp [nTold, sU]) (by simp [gU_at]) (by simp [gU_at]) (by simp [gU_at]) (by funext j; simp [gU_at])
theorem c7_load {k c : Int32} (hR : CR s G) (hW : WFn s) (hy : aLoad s k c → ∀ G', CR (nLoad s k c) G' → sHi G G' → P 1 G') (hn : ¬ aLoad s k c → P 0 G) : CTi kX7_load [.ref 0, .int k, .int c] G P := by
  have hkn := hW.2.1
  refine vX7_load _ _ _ G (c3_isKnot hR.s hW (bI_br (fun h1 => ⟨_, rfl, hn fun q => h1 q.1⟩) (fun h1 => c7_in (a := 0) (b := 1000) (by decide) (by decide) (bI_rb (fun h2 => ⟨?_, _, rfl, hy ⟨h1, h2⟩ _ ?_ ((sHi.rf.u (by omega)).u (by omega))⟩) (fun h2 => ⟨_, rfl, hn fun q => h2 q.2⟩)))))
  · obtain ⟨a, a1, rfl⟩ := ktP_n h1 hkn
    exact vp_in_nI (by omega) (by omega)
  · have e2 := nI_self (x := c) (by have := h2.1; omega)
    obtain ⟨cnet, crow, ccur, crul, cmis⟩ := hR
    have h50 : nLoad s k c 50 = s 50 := by funext j; simp [nLoad, sU]
    have h51 : nLoad s k c 51 = s 51 := by funext j; simp [nLoad, sU]
    refine ⟨?_, ?_, ?_, ?_, ?_⟩
    · obtain ⟨a1, a2, a3, a4, a5, a6, a7, a8⟩ := cnet
      unfold CNet kn fo rs ld
      simp only [way_cg h50, abv_cg2 h50 h51]
      unfold fr bY
      rw [h50, h51]
      simp only [nLoad, gU_at, sU_at]
      simp
      refine ⟨a1, a2, a3, a4, a5, a6, a7, fun j hj => ?_⟩
      by_cases q : j = k.toNatClampNeg
      · subst q
        rw [if_pos rfl, if_pos rfl]
        exact e2
      · rw [if_neg q, if_neg q]
        exact a8 j hj
    · exact CRow_cg (crow.fr fun p h1 h2 => by rw [gU_n (by omega), gU_n (by omega)]) (by funext j; simp [nLoad, sU]) (by funext j; simp [nLoad, sU]) (by funext j; simp [nLoad, sU]) (by funext j; simp [nLoad, sU]) (by funext j; simp [nLoad, sU]) (by funext j; simp [nLoad, sU])
    · exact CCur_cg (ccur.fr fun p h1 h2 => by rw [gU_n (by omega), gU_n (by omega)]) (by funext j; simp [nLoad, sU]) (by funext j; simp [nLoad, sU]) (by funext j; simp [nLoad, sU])
    · exact CRul_cg (crul.fr (by rw [gU_n (by omega), gU_n (by omega)])) (by simp [nLoad, sU]) (by simp [nLoad, sU]) (by simp [nLoad, sU])
    · exact CMis_no cmis (by simp [nLoad, sU]) (by simp [nLoad, sU]) (by simp [nLoad, sU]) (by funext j; simp [nLoad, sU]) (by simp [gU_at]) (by simp [gU_at]) (by simp [gU_at]) (by funext j; simp [gU_at])
theorem c7_dial {k d : Int32} (hR : CR s G) (hW : WFn s) (hb : WFb s) (hy : aDial s k d → ∀ G', CR (nDial s k d) G' → sHi G G' → P 1 G') (hn : ¬ aDial s k d → P 0 G) : CTi kX7_dial [.ref 0, .int k, .int d] G P := by
  have hkn := hW.2.1
  refine vX7_dial _ _ _ G (c5_isThere hR.s hW hb (bI_br (fun h1 => ⟨_, rfl, hn fun q => h1 q.1⟩) (fun h1 => c7_in (a := 1) (b := 40) (by decide) (by decide) (bI_rb (fun h2 => ⟨isB_in hb hW h1, _, rfl, hy ⟨h1, h2⟩ _ ?_ ((sHi.rf.u (by omega)).u (by omega))⟩) (fun h2 => ⟨_, rfl, hn fun q => h2 q.2⟩)))))
  have e2 := nI_self (x := d) (by have := h2.1; omega)
  obtain ⟨cnet, crow, ccur, crul, cmis⟩ := hR
  refine ⟨?_, ?_, ?_, ?_, ?_⟩
  · exact CNet_cg (cnet.fr fun p h1 h2 => by rw [gU_n (by omega), gU_n (by omega)]) (by simp [nDial, sU]) (by simp [nDial, sU]) (by simp [nDial, sU]) (by funext j; simp [nDial, sU]) (by funext j; simp [nDial, sU]) (by funext j; simp [nDial, sU])
  · obtain ⟨a1, a2, a3, a4, a5, a6⟩ := crow
    unfold CRow hs fl cu dl pk go
    simp only [nDial, gU_at, sU_at]
    simp
    refine ⟨a1, fun b => by rw [a2 b, Bool.decide_and], a3, fun j hj => ?_, a5, a6⟩
    by_cases q : j = k.toNatClampNeg
    · subst q
      rw [if_pos rfl, if_pos rfl]
      exact e2
    · rw [if_neg q, if_neg q]
      exact a4 j hj
  · exact CCur_cg (ccur.fr fun p h1 h2 => by rw [gU_n (by omega), gU_n (by omega)]) (by funext j; simp [nDial, sU]) (by funext j; simp [nDial, sU]) (by funext j; simp [nDial, sU])
  · exact CRul_cg (crul.fr (by rw [gU_n (by omega), gU_n (by omega)])) (by simp [nDial, sU]) (by simp [nDial, sU]) (by simp [nDial, sU])
  · exact CMis_no cmis (by simp [nDial, sU]) (by simp [nDial, sU]) (by simp [nDial, sU]) (by funext j; simp [nDial, sU]) (by simp [gU_at]) (by simp [gU_at]) (by simp [gU_at]) (by funext j; simp [gU_at])
theorem b_clr {x : Int32} {n b : Nat} (hn : n < 31) : bt (x &&& ((1 : Int32) <<< (nI n &&& 31) ^^^ (-1 : Int32))) b = (bt x b && !decide (b = n)) := by
  rcases Nat.lt_or_ge b 32 with hb | hb
  · rw [b_and, b_not hb, b_one hn]
  · rw [b_big hb, b_big hb]; rfl
theorem b_clr2 {x : Int32} {n b : Nat} (hn : n < 31) : bt (x &&& ~~~((1 : Int32) <<< (nI n &&& 31))) b = (bt x b && !decide (b = n)) := by
  have e : ~~~((1 : Int32) <<< (nI n &&& 31)) = (1 : Int32) <<< (nI n &&& 31) ^^^ (-1 : Int32) := by simp
  rw [e]
  exact b_clr hn
theorem b_set {x : Int32} {n b : Nat} (hn : n < 31) : bt (x ||| (1 : Int32) <<< (nI n &&& 31)) b = (bt x b || decide (b = n)) := by
  rw [b_or, b_one hn]
theorem c7_remove {k : Int32} (hR : CR s G) (hW : WFn s) (hb : WFb s) (hy : isB s k → ∀ G', CR (nRemove s k) G' → sHi G G' → P 1 G') (hn : ¬ isB s k → P 0 G) : CTi kX7_remove [.ref 0, .int k] G P := by
  have hkn := hW.2.1
  refine vX7_remove _ _ G (c5_isThere hR.s hW hb (bI_rb (fun h1 => vX5_takeAway _ _ G ⟨isB_in hb hW h1, rfl, _, rfl, hy h1 _ ?_ ((((sHi.rf.u (by omega)).u (by omega)).u (by omega)).u (by omega))⟩) (fun h1 => ⟨_, rfl, hn h1⟩)))
  have hk := (hb.2.1 _ h1.2).2.1
  have ek := nI_self h1.1
  obtain ⟨n, hnn⟩ : ∃ n, n = k.toNatClampNeg := ⟨_, rfl⟩
  have hn31 : n < 31 := by unfold cl at hk; omega
  have ecl : cl k = n := hnn.symm
  rw [← hnn] at ek
  rw [ek, nI_c (by omega)]
  obtain ⟨cnet, crow, ccur, crul, cmis⟩ := hR
  refine ⟨?_, ?_, ?_, ?_, ?_⟩
  · exact CNet_cg (cnet.fr fun p h1 h2 => by rw [gU_n (by omega), gU_n (by omega), gU_n (by omega), gU_n (by omega)]) (by simp [nRemove, sU]) (by simp [nRemove, sU]) (by simp [nRemove, sU]) (by funext j; simp [nRemove, sU]) (by funext j; simp [nRemove, sU]) (by funext j; simp [nRemove, sU])
  · obtain ⟨a1, a2, a3, a4, a5, a6⟩ := crow
    unfold CRow hs fl cu dl pk go
    simp only [nRemove, gU_at, sU_at, show cl (nI n) = n from nI_c (by omega)]
    simp
    refine ⟨fun b => ?_, fun b => ?_, a3, a4, a5, fun j hj => ?_⟩
    · rw [b_clr2 hn31, a1 b]
      by_cases q : b = n <;> simp [q]
    · rw [b_clr2 hn31, a2 b]
      by_cases q : b = n <;> simp [q]
    · by_cases q : j = n
      · rw [if_pos q, if_pos q]; rfl
      · rw [if_neg q, if_neg q]; exact a6 j hj
  · exact CCur_cg (ccur.fr fun p h1 h2 => by rw [gU_n (by omega), gU_n (by omega), gU_n (by omega), gU_n (by omega)]) (by funext j; simp [nRemove, sU]) (by funext j; simp [nRemove, sU]) (by funext j; simp [nRemove, sU])
  · exact CRul_cg (crul.fr (by rw [gU_n (by omega), gU_n (by omega), gU_n (by omega), gU_n (by omega)])) (by simp [nRemove, sU]) (by simp [nRemove, sU]) (by simp [nRemove, sU])
  · exact CMis_no cmis (by simp [nRemove, sU]) (by simp [nRemove, sU]) (by simp [nRemove, sU]) (by funext j; simp [nRemove, sU]) (by simp [gU_at]) (by simp [gU_at]) (by simp [gU_at]) (by funext j; simp [gU_at])
theorem c7_fails {k it : Int32} (hR : CR s G) (hW : WFn s) (hb : WFb s) (hit : zBo it) (hy : isB s k → ∀ G', CR (nFails s k it) G' → sHi G G' → P 1 G') (hn : ¬ isB s k → P 0 G) : CTi kX7_fails [.ref 0, .int k, .int it] G P := by
  have hkn := hW.2.1
  have fin : isB s k → ∀ y : Int32, (∀ b, bt y b = decide (hs s b = 1 ∧ (if b = cl k then cl it else fl s b) = 1)) → P 1 (gU (gU G 7 2 y) 0 9 0) := by
    intro h1 y hyb
    refine hy h1 _ ?_ ((sHi.rf.u (by omega)).u (by omega))
    obtain ⟨cnet, crow, ccur, crul, cmis⟩ := hR
    refine ⟨?_, ?_, ?_, ?_, ?_⟩
    · exact CNet_cg (cnet.fr fun p h1 h2 => by rw [gU_n (by omega), gU_n (by omega)]) (by simp [nFails, sU]) (by simp [nFails, sU]) (by simp [nFails, sU]) (by funext j; simp [nFails, sU]) (by funext j; simp [nFails, sU]) (by funext j; simp [nFails, sU])
    · obtain ⟨a1, a2, a3, a4, a5, a6⟩ := crow
      unfold CRow hs fl cu dl pk go
      simp only [nFails, gU_at, sU_at]
      simp
      refine ⟨a1, fun b => ?_, a3, a4, a5, a6⟩
      rw [hyb b, Bool.decide_and]
    · exact CCur_cg (ccur.fr fun p h1 h2 => by rw [gU_n (by omega), gU_n (by omega)]) (by funext j; simp [nFails, sU]) (by funext j; simp [nFails, sU]) (by funext j; simp [nFails, sU])
    · exact CRul_cg (crul.fr (by rw [gU_n (by omega), gU_n (by omega)])) (by simp [nFails, sU]) (by simp [nFails, sU]) (by simp [nFails, sU])
    · exact CMis_no cmis (by simp [nFails, sU]) (by simp [nFails, sU]) (by simp [nFails, sU]) (by funext j; simp [nFails, sU]) (by simp [gU_at]) (by simp [gU_at]) (by simp [gU_at]) (by funext j; simp [gU_at])
  refine vX7_fails _ _ _ G (c5_isThere hR.s hW hb (bI_rb (fun h1 => vX5_setFailing _ _ _ G ?_) (fun h1 => ⟨_, rfl, hn h1⟩)))
  have hk := (hb.2.1 _ h1.2).2.1
  have ek := nI_self h1.1
  have hn31 : cl k < 31 := by omega
  have hcr := hR.2.1
  have hs1 := h1.2
  have e5 : (1 : Int32) <<< (k &&& 31) = (1 : Int32) <<< (nI (cl k) &&& 31) := congrArg (fun z => (1 : Int32) <<< (z &&& 31)) ek
  rw [e5]
  refine ⟨fun h2 => ⟨rfl, _, rfl, fin h1 _ fun b => ?_⟩, fun h2 => ⟨rfl, _, rfl, fin h1 _ fun b => ?_⟩⟩
  · rw [b_clr hn31, hcr.2.1 b, h2]
    by_cases q : b = cl k
    · rw [if_pos q]; simp [q, show cl (0 : Int32) = 0 by decide]
    · rw [if_neg q]; simp [q]
  · have h3 : it = 1 := by rcases hit with q | q <;> first | exact absurd q h2 | exact q
    rw [b_set hn31, hcr.2.1 b, h3]
    by_cases q : b = cl k
    · rw [if_pos q]
      subst q
      have : cl (1 : Int32) = 1 := by decide
      simp [hs1, this]
    · rw [if_neg q]; simp [q]
theorem c7_breaker {k c d p : Int32} (hR : CR s G) (hW : WFn s) (hy : aBreaker s k c d p → ∀ G', CR (nBreaker s k c d p) G' → sHi G G' → P 1 G') (hn : ¬ aBreaker s k c d p → P 0 G) : CTi kX7_breaker [.ref 0, .int k, .int c, .int d, .int p] G P := by
  have hkn := hW.2.1
  refine vX7_breaker _ _ _ _ _ G (c3_isLine hR.s hW (bI_br (fun h1 => ⟨_, rfl, hn fun q => h1 q.1⟩) (fun h1 => c7_in (a := 0) (b := 7) (by decide) (by decide) (bI_br (fun h2 => ⟨_, rfl, hn fun q => h2 q.2.1⟩) (fun h2 => c7_in (a := 1) (b := 40) (by decide) (by decide) (bI_br (fun h3 => ⟨_, rfl, hn fun q => h3 q.2.2.1⟩) (fun h3 => c7_in (a := 1) (b := 10000) (by decide) (by decide) (bI_rb (fun h4 => ?_) (fun h4 => ⟨_, rfl, hn fun q => h4 q.2.2.2⟩)))))))))
  have hA : aBreaker s k c d p := ⟨h1, h2, h3, h4⟩
  obtain ⟨a, a1, a2, rfl⟩ := lnP_n h1 hkn
  have hin : vp_in (nI a) 30 := vp_in_nI (by omega) (by omega)
  have ha31 : a < 31 := by omega
  have ecl : cl (nI a) = a := nI_c (by omega)
  have e2 := nI_self (x := c) (by have := h2.1; omega)
  have e3 := nI_self (x := d) (by have := h3.1; omega)
  have e4 := nI_self (x := p) (by have := h4.1; omega)
  refine vX5_place _ _ _ _ _ G ⟨hin, hin, hin, hin, rfl, _, rfl, hy hA _ ?_ (((((((sHi.rf.u (by omega)).u (by omega)).u (by omega)).u (by omega)).u (by omega)).u (by omega)).u (by omega))⟩
  rw [nI_c (by omega)]
  obtain ⟨cnet, crow, ccur, crul, cmis⟩ := hR
  refine ⟨?_, ?_, ?_, ?_, ?_⟩
  · exact CNet_cg (cnet.fr fun p h1 h2 => by rw [gU_n (by omega), gU_n (by omega), gU_n (by omega), gU_n (by omega), gU_n (by omega), gU_n (by omega), gU_n (by omega)]) (by simp [nBreaker, sU]) (by simp [nBreaker, sU]) (by simp [nBreaker, sU]) (by funext j; simp [nBreaker, sU]) (by funext j; simp [nBreaker, sU]) (by funext j; simp [nBreaker, sU])
  · obtain ⟨g1, g2, g3, g4, g5, g6⟩ := crow
    unfold CRow hs fl cu dl pk go
    simp only [nBreaker, gU_at, sU_at, ecl]
    simp
    refine ⟨fun b => ?_, fun b => ?_, fun j hj => ?_, fun j hj => ?_, fun j hj => ?_, fun j hj => ?_⟩
    · rw [b_set ha31, g1 b]
      by_cases q : b = a <;> simp [q]
    · rw [b_clr2 ha31, g2 b]
      by_cases q : b = a <;> simp [q]
    · by_cases q : j = a
      · rw [if_pos q, if_pos q]; exact e2
      · rw [if_neg q, if_neg q]; exact g3 j hj
    · by_cases q : j = a
      · rw [if_pos q, if_pos q]; exact e3
      · rw [if_neg q, if_neg q]; exact g4 j hj
    · by_cases q : j = a
      · rw [if_pos q, if_pos q]; exact e4
      · rw [if_neg q, if_neg q]; exact g5 j hj
    · by_cases q : j = a
      · rw [if_pos q, if_pos q]; rfl
      · rw [if_neg q, if_neg q]; exact g6 j hj
  · exact CCur_cg (ccur.fr fun p h1 h2 => by rw [gU_n (by omega), gU_n (by omega), gU_n (by omega), gU_n (by omega), gU_n (by omega), gU_n (by omega), gU_n (by omega)]) (by funext j; simp [nBreaker, sU]) (by funext j; simp [nBreaker, sU]) (by funext j; simp [nBreaker, sU])
  · exact CRul_cg (crul.fr (by rw [gU_n (by omega), gU_n (by omega), gU_n (by omega), gU_n (by omega), gU_n (by omega), gU_n (by omega), gU_n (by omega)])) (by simp [nBreaker, sU]) (by simp [nBreaker, sU]) (by simp [nBreaker, sU])
  · exact CMis_no cmis (by simp [nBreaker, sU]) (by simp [nBreaker, sU]) (by simp [nBreaker, sU]) (by funext j; simp [nBreaker, sU]) (by simp [gU_at]) (by simp [gU_at]) (by simp [gU_at]) (by funext j; simp [gU_at])
theorem c7_line {f r : Int32} (hR : CR s G) (hW : WFn s) (hy : aLine s f r → ∀ G', CR (nLine s f r) G' → sHi G G' → P (nI (kn s)) G') (hn : ¬ aLine s f r → P (-1) G) : CTi kX7_line [.ref 0, .int f, .int r] G P := by
  have hkn := hW.2.1
  refine vX7_line _ _ _ G (c3_isKnot hR.s hW (bI_br (fun h1 => ⟨_, rfl, hn fun q => h1 q.1⟩) (fun h1 => c7_in (a := 1) (b := 1000) (by decide) (by decide) (bI_br (fun h2 => ⟨_, rfl, hn fun q => h2 q.2.1⟩) (fun h2 => ?_)))))
  have ekn := hR.1.1
  rw [ekn, show (30 : Int32) = nI 30 from rfl, nI_ltI (by omega) (by omega)]
  refine ⟨fun h3 => ?_, fun h3 => ⟨_, rfl, hn fun q => q.2.2 (by omega)⟩⟩
  have hA : aLine s f r := ⟨h1, h2, by omega⟩
  obtain ⟨a, a1, rfl⟩ := ktP_n h1 hkn
  have hin : vp_in (nI a) 30 := vp_in_nI (by omega) (by omega)
  have hin2 : vp_in (nI (kn s)) 30 := vp_in_nI (by omega) (by omega)
  have ecl : cl (nI a) = a := nI_c (by omega)
  have e2 := nI_self (x := r) (by have := h2.1; omega)
  have ekn9 : gU G 0 9 0 1 0 = nI (kn s) := by rw [gU_n (by omega)]; exact ekn
  refine vX3_hang _ _ _ _ ?_
  rw [ekn9, nI_c (by omega), nI_c (by omega), nI_1]
  refine ⟨hin2, hin2, hin, hin, hin2, hin, hin2, _, rfl, _, rfl, hy hA _ ?_ ((((((sHi.rf.u (by omega)).u (by omega)).u (by omega)).u (by omega)).u (by omega)).u (by omega))⟩
  obtain ⟨cnet, crow, ccur, crul, cmis⟩ := hR
  obtain ⟨g1, g2, g3, g4, g5, g6, g7, g8⟩ := cnet
  have hane : a ≠ kn s := by omega
  have hfr : ∀ j, j < kn s → fr (nLine s (nI a) r) j = fr s j := fun j hj => by
    show nLine s (nI a) r 50 j = s 50 j
    simp only [nLine, sU_at]
    rw [if_neg (by omega), if_neg (by omega), if_neg (by omega), if_neg (by omega)]
  have hby : ∀ j, j < kn s → bY (nLine s (nI a) r) j = bY s j := fun j hj => by
    show nLine s (nI a) r 51 j = s 51 j
    simp only [nLine, sU_at]
    rw [if_neg (by omega), if_neg (by omega), if_neg (by omega), if_neg (by omega)]
  have hfk : fr (nLine s (nI a) r) (kn s) = a := by
    show nLine s (nI a) r 50 (kn s) = a
    simp [nLine, sU_at, ecl]
  refine ⟨?_, ?_, ?_, ?_, ?_⟩
  · have k' : kn (nLine s (nI a) r) = kn s + 1 := by
      show nLine s (nI a) r 49 0 = _
      simp [nLine, sU_at]
    have e4a : gU (gU (gU G 0 9 0) 2 (kn s) (nI a)) 3 (kn s) r 4 a = nI (abv s a) := by
      rw [gU_n (by omega), gU_n (by omega), gU_n (by omega)]
      exact g6 a a1
    have e3a : gU (gU (gU G 0 9 0) 2 (kn s) (nI a)) 3 (kn s) r 3 a = nI (bY s a) := by
      rw [gU_k hane, gU_n (by omega), gU_n (by omega)]
      exact g5 a (by omega)
    rw [e4a, e3a, nI_add]
    have e5a : gU (gU (gU (gU G 0 9 0) 2 (kn s) (nI a)) 3 (kn s) r) 4 (kn s) (nI (abv s a + bY s a)) 5 a = G 5 a := by
      rw [gU_n (by omega), gU_n (by omega), gU_n (by omega), gU_n (by omega)]
    rw [e5a]
    have abva : ∀ j, j < kn s → abv (nLine s (nI a) r) j = abv s j := by
      intro j hj
      have hfj : fr s j ≤ j := by
        rcases Nat.eq_zero_or_pos j with q | q
        · subst q; rw [hW.2.2.2.2.2.2.2.2.1]; omega
        · have := (hW.2.2.2.2.2.2.1 j q hj).1; omega
      unfold abv
      rw [hfr j hj]
      exact wsum_ext (fun i hi => hfr i (by omega)) (fun i hi => hby i (by omega))
    have waya : ∀ j, j < kn s → way (nLine s (nI a) r) j = way s j := fun j hj => way_ext (fun i hi => hfr i (by omega))
    have wayk : way (nLine s (nI a) r) (kn s) = kn s :: way s a := by
      rw [way_s (by rw [hfk]; exact a1), hfk, waya a a1]
    have abvk : abv (nLine s (nI a) r) (kn s) = abv s a + bY s a := by
      unfold abv
      rw [hfk]
      rw [wsum_ext (fun i hi => hfr i (by omega)) (fun i hi => hby i (by omega))]
      exact wsum_abv hW a1
    refine ⟨?_, ?_, ?_, ?_, ?_, ?_, ?_, ?_⟩
    · rw [k', gU_s]
    · rw [gU_k (by omega), gU_n (by omega), gU_n (by omega), gU_n (by omega), gU_n (by omega), gU_n (by omega), g2]
      show _ = nI (nLine s (nI a) r 49 1)
      simp [nLine, sU_at]
    · rw [gU_k (by omega), gU_n (by omega), gU_n (by omega), gU_n (by omega), gU_n (by omega), gU_n (by omega), g3]
      show _ = nI (nLine s (nI a) r 49 2)
      simp [nLine, sU_at]
    · intro j hj
      rw [gU_n (by omega), gU_n (by omega), gU_n (by omega), gU_n (by omega), gU_at]
      show _ = nI (nLine s (nI a) r 50 j)
      by_cases q : j = kn s
      · subst q
        rw [if_pos ⟨rfl, rfl⟩]
        have : nLine s (nI a) r 50 (kn s) = a := hfk
        rw [this]
      · rw [if_neg (fun z => q z.2), gU_n (by omega), g4 j hj]
        simp [nLine, sU_at, q]
    · intro j hj
      rw [gU_n (by omega), gU_n (by omega), gU_n (by omega), gU_at]
      show _ = nI (nLine s (nI a) r 51 j)
      by_cases q : j = kn s
      · subst q
        rw [if_pos ⟨rfl, rfl⟩]
        have : nLine s (nI a) r 51 (kn s) = cl r := by simp [nLine, sU_at]
        rw [this]
        exact e2
      · rw [if_neg (fun z => q z.2), gU_n (by omega), gU_n (by omega), g5 j hj]
        simp [nLine, sU_at, q]
    · intro j hj
      rw [k'] at hj
      rw [gU_n (by omega), gU_n (by omega), gU_at]
      by_cases q : j = kn s
      · subst q
        rw [if_pos ⟨rfl, rfl⟩, abvk]
      · rw [if_neg (fun z => q z.2), gU_n (by omega), gU_n (by omega), gU_n (by omega), g6 j (by omega), abva j (by omega)]
    · intro j hj b
      rw [k'] at hj
      rw [gU_n (by omega), gU_at]
      by_cases q : j = kn s
      · subst q
        rw [if_pos ⟨rfl, rfl⟩, b_set (by omega), g7 a a1 b, wayk]
        by_cases z : b = kn s
        · simp [z]
        · simp [z]
      · rw [if_neg (fun z => q z.2), gU_n (by omega), gU_n (by omega), gU_n (by omega), gU_n (by omega), g7 j (by omega) b, waya j (by omega)]
    · intro j hj
      rw [gU_n (by omega), gU_n (by omega), gU_n (by omega), gU_n (by omega), gU_n (by omega), gU_n (by omega), g8 j hj]
      show _ = nI (nLine s (nI a) r 52 j)
      simp [nLine, sU_at]
  · exact CRow_cg (crow.fr fun p h1 h2 => by rw [gU_n (by omega), gU_n (by omega), gU_n (by omega), gU_n (by omega), gU_n (by omega), gU_n (by omega)]) (by funext j; simp [nLine, sU]) (by funext j; simp [nLine, sU]) (by funext j; simp [nLine, sU]) (by funext j; simp [nLine, sU]) (by funext j; simp [nLine, sU]) (by funext j; simp [nLine, sU])
  · exact CCur_cg (ccur.fr fun p h1 h2 => by rw [gU_n (by omega), gU_n (by omega), gU_n (by omega), gU_n (by omega), gU_n (by omega), gU_n (by omega)]) (by funext j; simp [nLine, sU]) (by funext j; simp [nLine, sU]) (by funext j; simp [nLine, sU])
  · exact CRul_cg (crul.fr (by rw [gU_n (by omega), gU_n (by omega), gU_n (by omega), gU_n (by omega), gU_n (by omega), gU_n (by omega)])) (by simp [nLine, sU]) (by simp [nLine, sU]) (by simp [nLine, sU])
  · exact CMis_no cmis (by simp [nLine, sU]) (by simp [nLine, sU]) (by simp [nLine, sU]) (by funext j; simp [nLine, sU]) (by simp [gU_at]) (by simp [gU_at]) (by simp [gU_at]) (by funext j; simp [gU_at])
end C5
