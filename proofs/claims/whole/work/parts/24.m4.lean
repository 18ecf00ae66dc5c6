def sLo (G G' : GG) : Prop := ∀ p, p < 49 → G' p = G p
def sHi (G G' : GG) : Prop := ∀ p, 49 ≤ p → G' p = G p
theorem sLo.rf {G : GG} : sLo G G := fun _ _ => rfl
theorem sHi.rf {G : GG} : sHi G G := fun _ _ => rfl
theorem sLo.u {G G' : GG} {p k : Nat} {v : Int32} (h : sLo G G') (hp : 49 ≤ p) : sLo G (gU G' p k v) := fun q hq => (gU_n (by omega)).trans (h q hq)
theorem sHi.u {G G' : GG} {p k : Nat} {v : Int32} (h : sHi G G') (hp : p < 49) : sHi G (gU G' p k v) := fun q hq => (gU_n (by omega)).trans (h q hq)
theorem sHi.a {G G' : GG} {p : Nat} {f : Nat → Int32} (h : sHi G G') (hp : p < 49) : sHi G (gA G' p f) := fun q hq => (gA_n (by omega)).trans (h q hq)
theorem sLo.t {G G' G2 : GG} (h : sLo G G') (h2 : sLo G' G2) : sLo G G2 := fun q hq => (h2 q hq).trans (h q hq)
theorem sHi.t {G G' G2 : GG} (h : sHi G G') (h2 : sHi G' G2) : sHi G G2 := fun q hq => (h2 q hq).trans (h q hq)
theorem gU_at {G : GG} {p k q j : Nat} {v : Int32} : gU G p k v q j = if q = p ∧ j = k then v else G q j := by
  by_cases hq : q = p
  · subst hq
    by_cases hj : j = k
    · subst hj; simp [gU_s]
    · simp [gU_k hj, hj]
  · simp [gU_n hq, hq]
theorem sU_at {s : NN} {p k q j n : Nat} : sU s p k n q j = if q = p ∧ j = k then n else s q j := by
  unfold sU
  by_cases hq : q = p <;> by_cases hj : j = k <;> simp [hq, hj]
theorem MR.congr {s : NN} {G G' : GG} (h : MR s G) (h9 : ∀ k, k ∈ [0, 1, 2, 3, 4, 5, 17, 19, 23] → G' 49 k = G 49 k) (hp : ∀ p, 50 ≤ p → p ≤ 64 → G' p = G p) : MR s G' := by
  obtain ⟨h0, h1, h2, h3, h4, h5, h17, h19, h23, ha, hg⟩ := h
  refine ⟨(h9 0 (by simp)).trans h0, (h9 1 (by simp)).trans h1, (h9 2 (by simp)).trans h2, (h9 3 (by simp)).trans h3, (h9 4 (by simp)).trans h4, (h9 5 (by simp)).trans h5, (h9 17 (by simp)).trans h17, (h9 19 (by simp)).trans h19, (h9 23 (by simp)).trans h23, fun p p1 p2 p3 k => ?_, fun k => ?_⟩
  · rw [hp p p1 p2]; exact ha p p1 p2 p3 k
  · rw [hp 61 (by omega) (by omega)]; exact hg k
theorem MR.lo {s : NN} {G G' : GG} (h : MR s G) (hs : sHi G G') : MR s G' := h.congr (fun k _ => by rw [hs 49 (by omega)]) (fun p h1 _ => hs p (by omega))
theorem MR.set {s : NN} {G : GG} {p : Nat} (h : MR s G) (k n : Nat) (h1 : 50 ≤ p) (h2 : p ≤ 64) (h3 : p ≠ 61) : MR (sU s p k n) (gU G p k (nI n)) := by
  obtain ⟨g0, g1, g2, g3, g4, g5, g17, g19, g23, ga, gg⟩ := h
  have e : gU G p k (nI n) 49 = G 49 := gU_n (by omega)
  have e2 : sU s p k n 49 = s 49 := sU_n (by omega)
  refine ⟨by rw [e, kn, e2]; exact g0, by rw [e, fo, e2]; exact g1, by rw [e, rs, e2]; exact g2, by rw [e, mg, e2]; exact g3, by rw [e, lm, e2]; exact g4, by rw [e, la, e2]; exact g5, by rw [e, hg, e2]; exact g17, by rw [e, hr, e2]; exact g19, by rw [e, sn, e2]; exact g23, fun q q1 q2 q3 j => ?_, fun j => ?_⟩
  · rw [gU_at, sU_at]
    split
    · rfl
    · exact ga q q1 q2 q3 j
  · rw [gU_n (by omega), sU_n (by omega)]
    exact gg j
theorem MR.set9 {s : NN} {G : GG} (h : MR s G) (k n : Nat) : MR (sU s 49 k n) (gU G 49 k (nI n)) := by
  obtain ⟨g0, g1, g2, g3, g4, g5, g17, g19, g23, ga, gg⟩ := h
  have e : ∀ j, G 49 j = nI (s 49 j) → gU G 49 k (nI n) 49 j = nI (sU s 49 k n 49 j) := by
    intro j hj
    rw [gU_at, sU_at]
    split
    · rfl
    · exact hj
  refine ⟨e _ g0, e _ g1, e _ g2, e _ g3, e _ g4, e _ g5, e _ g17, e _ g19, e _ g23, fun q q1 q2 q3 j => ?_, fun j => ?_⟩
  · rw [gU_n (by omega), sU_n (by omega)]
    exact ga q q1 q2 q3 j
  · rw [gU_n (by omega), sU_n (by omega)]
    exact gg j
theorem MR.set61 {s : NN} {G : GG} (h : MR s G) (k n : Nat) : MR (sU s 61 k n) (gU G 61 k (gN n)) := by
  obtain ⟨g0, g1, g2, g3, g4, g5, g17, g19, g23, ga, gg⟩ := h
  have e : gU G 61 k (gN n) 49 = G 49 := gU_n (by omega)
  have e2 : sU s 61 k n 49 = s 49 := sU_n (by omega)
  refine ⟨by rw [e, kn, e2]; exact g0, by rw [e, fo, e2]; exact g1, by rw [e, rs, e2]; exact g2, by rw [e, mg, e2]; exact g3, by rw [e, lm, e2]; exact g4, by rw [e, la, e2]; exact g5, by rw [e, hg, e2]; exact g17, by rw [e, hr, e2]; exact g19, by rw [e, sn, e2]; exact g23, fun q q1 q2 q3 j => ?_, fun j => ?_⟩
  · rw [gU_n (by omega), sU_n (by omega)]
    exact ga q q1 q2 q3 j
  · rw [gU_at, sU_at]
    split
    · rfl
    · exact gg j
abbrev inR (v : Int32) (a b : Int) : Prop := a ≤ v.toInt ∧ v.toInt ≤ b
theorem inR_i {v : Int32} {x y : Int32} {a b : Int} (hx : x.toInt = a) (hy : y.toInt = b) : (x ≤ v ∧ v ≤ y) ↔ inR v a b := by
  rw [Ile, Ile, hx, hy]
theorem c8_in {v x y : Int32} {a b : Int} {G : GG} {P : Int32 → GG → Prop} (hx : x.toInt = a) (hy : y.toInt = b) (h : P (bI (decide (inR v a b))) G) : CTi kX8_isIn [.int v, .int x, .int y] G P := by
  refine c8_isIn ?_
  rw [bI_c (inR_i hx hy)]
  exact h
/-! what changes the state -/
def aSource (f r : Int32) : Prop := inR f 1 10000 ∧ inR r 1 1000
def nSource (s : NN) (f r : Int32) : NN := sU (sU (sU s 49 1 (cl f)) 49 2 (cl r)) 49 19 0
def aLine (s : NN) (f r : Int32) : Prop := ktP s f ∧ inR r 1 1000 ∧ kn s ≠ 30
def nLine (s : NN) (f r : Int32) : NN := sU (sU (sU (sU s 50 (kn s) (cl f)) 51 (kn s) (cl r)) 49 0 (kn s + 1)) 49 19 0
def aLoad (s : NN) (k c : Int32) : Prop := ktP s k ∧ inR c 0 1000
def nLoad (s : NN) (k c : Int32) : NN := sU (sU s 52 (cl k) (cl c)) 49 19 0
def aCorner (s : NN) (c m t : Int32) : Prop := inR c 0 7 ∧ inR m 10 1000 ∧ inR t 1 1000 ∧ cn s (cl c) ≠ 8 ∧ (cn s (cl c) ≠ 0 → mu s (cl c) (cn s (cl c) - 1) < cl m ∧ cl t < tk s (cl c) (cn s (cl c) - 1))
def nCorner (s : NN) (c m t : Int32) : NN := sU (sU (sU (sU s 54 (8 * cl c + cn s (cl c)) (cl m)) 55 (8 * cl c + cn s (cl c)) (cl t)) 53 (cl c) (cn s (cl c) + 1)) 49 19 0
def aBreaker (s : NN) (k c d p : Int32) : Prop := lnP s k ∧ inR c 0 7 ∧ inR d 1 40 ∧ inR p 1 10000
def nBreaker (s : NN) (k c d p : Int32) : NN := sU (sU (sU (sU (sU (sU (sU s 56 (cl k) 1) 57 (cl k) (cl c)) 58 (cl k) (cl d)) 59 (cl k) (cl p)) 60 (cl k) 0) 61 (cl k) 0) 49 19 0
def isB (s : NN) (k : Int32) : Prop := 0 ≤ k.toInt ∧ hs s (cl k) = 1
def nRemove (s : NN) (k : Int32) : NN := sU (sU (sU s 56 (cl k) 0) 61 (cl k) 0) 49 19 0
def aDial (s : NN) (k d : Int32) : Prop := isB s k ∧ inR d 1 40
def nDial (s : NN) (k d : Int32) : NN := sU (sU s 58 (cl k) (cl d)) 49 19 0
def nFails (s : NN) (k it : Int32) : NN := sU (sU s 60 (cl k) (cl it)) 49 19 0
def aTold (m l f : Int32) : Prop := inR m 1 10000 ∧ inR l 1 100000 ∧ inR f 0 1000
def nTold (s : NN) (m l f : Int32) : NN := sU (sU (sU (sU s 49 3 (cl m)) 49 4 (cl l)) 49 5 (cl f)) 49 19 0
section M4
variable {s : NN} {G : GG} {P : Int32 → GG → Prop} {PL : Int64 → GG → Prop}
theorem c8_source {f r : Int32} (hM : MR s G) (hy : aSource f r → ∀ G', MR (nSource s f r) G' → sLo G G' → P 1 G') (hn : ¬ aSource f r → P 0 G) : CTi kX8_source [.ref 49, .int f, .int r] G P := by
  refine vX8_source _ _ _ G (c8_in (a := 1) (b := 10000) (by decide) (by decide) (bI_br (fun h1 => ⟨_, rfl, hn fun q => h1 q.1⟩) (fun h1 => c8_in (a := 1) (b := 1000) (by decide) (by decide) (bI_rb (fun h2 => ⟨_, rfl, hy ⟨h1, h2⟩ _ ?_ (((sLo.rf.u (by omega)).u (by omega)).u (by omega))⟩) (fun h2 => ⟨_, rfl, hn fun q => h2 q.2⟩)))))
  have e1 := nI_self (x := f) (by have := h1.1; omega)
  have e2 := nI_self (x := r) (by have := h2.1; omega)
  have := ((hM.set9 1 (cl f)).set9 2 (cl r)).set9 19 0
  rw [← e1, ← e2] at this
  exact this
theorem k1_int (hM : MR s G) (hW : WFn s) : (G 49 0 - 1).toInt = (kn s : Int) - 1 := by
  have := hW.1; have := hW.2.1
  rw [hM.1, nI_p1 hW.1, nI_toInt (by omega)]
  omega
theorem c8_kt {v : Int32} (hM : MR s G) (hW : WFn s) (h : P (bI (decide (ktP s v))) G) : CTi kX8_isIn [.int v, .int (0 : Int32), .int (G 49 0 - 1)] G P := by
  refine c8_in (a := 0) (b := (kn s : Int) - 1) (by decide) (k1_int hM hW) ?_
  rw [bI_c (d := ktP s v)]
  · exact h
  · unfold inR ktP; omega
theorem c8_line {f r : Int32} (hM : MR s G) (hW : WFn s) (hy : aLine s f r → ∀ G', MR (nLine s f r) G' → sLo G G' → P (nI (kn s)) G') (hn : ¬ aLine s f r → P (-1) G) : CTi kX8_line [.ref 49, .int f, .int r] G P := by
  have hkn := hW.2.1
  refine vX8_line _ _ _ G (c8_kt hM hW (bI_br (fun h1 => ⟨_, rfl, hn fun q => h1 q.1⟩) (fun h1 => c8_in (a := 1) (b := 1000) (by decide) (by decide) (bI_br (fun h2 => ⟨_, rfl, hn fun q => h2 q.2.1⟩) (fun h2 => ?_)))))
  have e1 := nI_self (x := f) (by have := h1.1; omega)
  have e2 := nI_self (x := r) (by have := h2.1; omega)
  have ek : G 49 0 = 30 ↔ kn s = 30 := by
    rw [hM.1, show (30 : Int32) = nI 30 from rfl, nI_eq (by omega) (by omega)]
  rw [ek]
  refine ⟨fun h3 => ?_, fun h3 => ⟨_, rfl, hn fun q => q.2.2 h3⟩⟩
  have hk31 : kn s < 2 ^ 31 := by omega
  have hin : vp_in (nI (kn s)) 30 := vp_in_nI (by omega) (by omega)
  simp only [gU_at, hM.1, nI_c hk31, show ((49 : Nat) = 50) = False by simp, show ((49 : Nat) = 51) = False by simp, false_and, if_false, show ((0 : Nat) = 19) = False by simp, and_false, and_true, true_and, if_true, nI_1]
  refine ⟨hin, hin, _, rfl, ?_⟩
  rw [nI_pred]
  refine hy ⟨h1, h2, h3⟩ _ ?_ ((((sLo.rf.u (by omega)).u (by omega)).u (by omega)).u (by omega))
  have := (((hM.set (p := 50) (kn s) (cl f) (by omega) (by omega) (by omega)).set (p := 51) (kn s) (cl r) (by omega) (by omega) (by omega)).set9 0 (kn s + 1)).set9 19 0
  rw [← e1, ← e2] at this
  exact this
theorem c8_load {k c : Int32} (hM : MR s G) (hW : WFn s) (hy : aLoad s k c → ∀ G', MR (nLoad s k c) G' → sLo G G' → P 1 G') (hn : ¬ aLoad s k c → P 0 G) : CTi kX8_load [.ref 49, .int k, .int c] G P := by
  have hkn := hW.2.1
  refine vX8_load _ _ _ G (c8_kt hM hW (bI_br (fun h1 => ⟨_, rfl, hn fun q => h1 q.1⟩) (fun h1 => c8_in (a := 0) (b := 1000) (by decide) (by decide) (bI_rb (fun h2 => ⟨?_, _, rfl, hy ⟨h1, h2⟩ _ ?_ ((sLo.rf.u (by omega)).u (by omega))⟩) (fun h2 => ⟨_, rfl, hn fun q => h2 q.2⟩)))))
  · obtain ⟨a, a1, rfl⟩ := ktP_n h1 hkn
    exact vp_in_nI (by omega) (by omega)
  · have e2 := nI_self (x := c) (by have := h2.1; omega)
    have := (hM.set (p := 52) (cl k) (cl c) (by omega) (by omega) (by omega)).set9 19 0
    rw [← e2] at this
    exact this
theorem c8_breaker {k c d p : Int32} (hM : MR s G) (hW : WFn s) (hy : aBreaker s k c d p → ∀ G', MR (nBreaker s k c d p) G' → sLo G G' → P 1 G') (hn : ¬ aBreaker s k c d p → P 0 G) : CTi kX8_breaker [.ref 49, .int k, .int c, .int d, .int p] G P := by
  have hkn := hW.2.1
  refine vX8_breaker _ _ _ _ _ G (c8_isLine hM hW (bI_br (fun h1 => ⟨_, rfl, hn fun q => h1 q.1⟩) (fun h1 => c8_in (a := 0) (b := 7) (by decide) (by decide) (bI_br (fun h2 => ⟨_, rfl, hn fun q => h2 q.2.1⟩) (fun h2 => c8_in (a := 1) (b := 40) (by decide) (by decide) (bI_br (fun h3 => ⟨_, rfl, hn fun q => h3 q.2.2.1⟩) (fun h3 => c8_in (a := 1) (b := 10000) (by decide) (by decide) (bI_rb (fun h4 => ?_) (fun h4 => ⟨_, rfl, hn fun q => h4 q.2.2.2⟩)))))))))
  have hin : vp_in k 30 := by
    obtain ⟨a, a1, a2, rfl⟩ := lnP_n h1 hkn
    exact vp_in_nI (by omega) (by omega)
  refine ⟨hin, hin, hin, hin, hin, hin, _, rfl, hy ⟨h1, h2, h3, h4⟩ _ ?_ (((((((sLo.rf.u (by omega)).u (by omega)).u (by omega)).u (by omega)).u (by omega)).u (by omega)).u (by omega))⟩
  have e2 := nI_self (x := c) (by have := h2.1; omega)
  have e3 := nI_self (x := d) (by have := h3.1; omega)
  have e4 := nI_self (x := p) (by have := h4.1; omega)
  have := ((((((hM.set (p := 56) (cl k) 1 (by omega) (by omega) (by omega)).set (p := 57) (cl k) (cl c) (by omega) (by omega) (by omega)).set (p := 58) (cl k) (cl d) (by omega) (by omega) (by omega)).set (p := 59) (cl k) (cl p) (by omega) (by omega) (by omega)).set (p := 60) (cl k) 0 (by omega) (by omega) (by omega)).set61 (cl k) 0).set9 19 0
  rw [← e2, ← e3, ← e4] at this
  exact this
theorem isB_in (hb : WFb s) (hW : WFn s) {k : Int32} (h : isB s k) : vp_in k 30 := by
  have h1 := hb.2.1 _ h.2
  have := hW.2.1
  rw [nI_self h.1]
  exact vp_in_nI (by unfold cl at h1; omega) (by omega)
theorem c8_remove {k : Int32} (hM : MR s G) (hW : WFn s) (hb : WFb s) (hy : isB s k → ∀ G', MR (nRemove s k) G' → sLo G G' → P 1 G') (hn : ¬ isB s k → P 0 G) : CTi kX8_remove [.ref 49, .int k] G P := by
  refine vX8_remove _ _ G (c8_isBreaker hM hW hb (bI_rb (fun h1 => ⟨isB_in hb hW h1, isB_in hb hW h1, _, rfl, hy h1 _ ?_ (((sLo.rf.u (by omega)).u (by omega)).u (by omega))⟩) (fun h1 => ⟨_, rfl, hn h1⟩)))
  exact ((hM.set (p := 56) (cl k) 0 (by omega) (by omega) (by omega)).set61 (cl k) 0).set9 19 0
theorem c8_dial {k d : Int32} (hM : MR s G) (hW : WFn s) (hb : WFb s) (hy : aDial s k d → ∀ G', MR (nDial s k d) G' → sLo G G' → P 1 G') (hn : ¬ aDial s k d → P 0 G) : CTi kX8_dial [.ref 49, .int k, .int d] G P := by
  refine vX8_dial _ _ _ G (c8_isBreaker hM hW hb (bI_br (fun h1 => ⟨_, rfl, hn fun q => h1 q.1⟩) (fun h1 => c8_in (a := 1) (b := 40) (by decide) (by decide) (bI_rb (fun h2 => ⟨isB_in hb hW h1, _, rfl, hy ⟨h1, h2⟩ _ ?_ ((sLo.rf.u (by omega)).u (by omega))⟩) (fun h2 => ⟨_, rfl, hn fun q => h2 q.2⟩)))))
  have e2 := nI_self (x := d) (by have := h2.1; omega)
  have := (hM.set (p := 58) (cl k) (cl d) (by omega) (by omega) (by omega)).set9 19 0
  rw [← e2] at this
  exact this
theorem c8_fails {k it : Int32} (hM : MR s G) (hW : WFn s) (hb : WFb s) (hit : zBo it) (hy : isB s k → ∀ G', MR (nFails s k it) G' → sLo G G' → P 1 G') (hn : ¬ isB s k → P 0 G) : CTi kX8_fails [.ref 49, .int k, .int it] G P := by
  refine vX8_fails _ _ _ G (c8_isBreaker hM hW hb (bI_rb (fun h1 => ⟨isB_in hb hW h1, zBo_s hit, _, rfl, hy h1 _ ?_ ((sLo.rf.u (by omega)).u (by omega))⟩) (fun h1 => ⟨_, rfl, hn h1⟩)))
  have e2 := nI_self (x := it) (by rcases hit with rfl | rfl <;> decide)
  have := (hM.set (p := 60) (cl k) (cl it) (by omega) (by omega) (by omega)).set9 19 0
  rw [← e2] at this
  exact this
theorem c8_told {m l f : Int32} (hM : MR s G) (hy : aTold m l f → ∀ G', MR (nTold s m l f) G' → sLo G G' → P 1 G') (hn : ¬ aTold m l f → P 0 G) : CTi kX8_told [.ref 49, .int m, .int l, .int f] G P := by
  refine vX8_told _ _ _ _ G (c8_in (a := 1) (b := 10000) (by decide) (by decide) (bI_br (fun h1 => ⟨_, rfl, hn fun q => h1 q.1⟩) (fun h1 => c8_in (a := 1) (b := 100000) (by decide) (by decide) (bI_br (fun h2 => ⟨_, rfl, hn fun q => h2 q.2.1⟩) (fun h2 => c8_in (a := 0) (b := 1000) (by decide) (by decide) (bI_rb (fun h3 => ⟨_, rfl, hy ⟨h1, h2, h3⟩ _ ?_ ((((sLo.rf.u (by omega)).u (by omega)).u (by omega)).u (by omega))⟩) (fun h3 => ⟨_, rfl, hn fun q => h3 q.2.2⟩)))))))
  have e1 := nI_self (x := m) (by have := h1.1; omega)
  have e2 := nI_self (x := l) (by have := h2.1; omega)
  have e3 := nI_self (x := f) (by have := h3.1; omega)
  have := (((hM.set9 3 (cl m)).set9 4 (cl l)).set9 5 (cl f)).set9 19 0
  rw [← e1, ← e2, ← e3] at this
  exact this
theorem c8_corner {c m t : Int32} (hM : MR s G) (hc : WFc s) (hy : aCorner s c m t → ∀ G', MR (nCorner s c m t) G' → sLo G G' → P (nI (cn s (cl c) + 1)) G') (hn : ¬ aCorner s c m t → P (-1) G) : CTi kX8_corner [.ref 49, .int c, .int m, .int t] G P := by
  refine vX8_corner _ _ _ _ G (c8_in (a := 0) (b := 7) (by decide) (by decide) (bI_br (fun h1 => ⟨_, rfl, hn fun q => h1 q.1⟩) (fun h1 => c8_in (a := 10) (b := 1000) (by decide) (by decide) (bI_br (fun h2 => ⟨_, rfl, hn fun q => h2 q.2.1⟩) (fun h2 => c8_in (a := 1) (b := 1000) (by decide) (by decide) (bI_br (fun h3 => ⟨_, rfl, hn fun q => h3 q.2.2.1⟩) (fun h3 => ?_)))))))
  obtain ⟨a, -, a2, rfl⟩ := inR_n (a := 0) (b := 7) h1.1 h1.2
  obtain ⟨b, b1, b2, rfl⟩ := inR_n (a := 10) (b := 1000) h2.1 h2.2
  obtain ⟨d, d1, d2, rfl⟩ := inR_n (a := 1) (b := 1000) h3.1 h3.2
  have ha : a < 2 ^ 31 := by omega
  have hin : vp_in (nI a) 8 := vp_in_nI (by omega) (by omega)
  have hca := hc a (by omega)
  have ecl : cl (nI a) = a := nI_c ha
  have eclb : cl (nI b) = b := nI_c (by omega)
  have ecld : cl (nI d) = d := nI_c (by omega)
  rw [nI_c ha, hM.q53]
  have e8 : (8 : Int32) * nI a + nI (cn s a) = nI (8 * a + cn s a) := by rw [show (8 : Int32) = nI 8 from rfl, pk_mul, nI_add]
  have fin : aCorner s (nI a) (nI b) (nI d) → cn s a < 8 → zJ kX8_corner (fun r G' => ∃ x, r = some (.int x) ∧ P x G') 96 [(0, .ref 49), (1, .int (nI a)), (2, .int (nI b)), (3, .int (nI d)), (4, .int (nI (8 * a + cn s a)))] [] G := by
    intro hA h8
    have hin4 : vp_in (nI (8 * a + cn s a)) 64 := vp_in_nI (by omega) (by omega)
    refine vX8_corner_96 _ _ _ _ _ G ⟨hin4, hin4, hin, hin, hin, _, rfl, ?_⟩
    rw [nI_c ha, nI_c (show 8 * a + cn s a < 2 ^ 31 by omega)]
    have e53 : gU (gU G 54 (8 * a + cn s a) (nI b)) 55 (8 * a + cn s a) (nI d) 53 a = nI (cn s a) := by
      rw [gU_n (by omega), gU_n (by omega), hM.q53]
    rw [e53, nI_1, gU_n (q := 53) (by omega), gU_s]
    rw [ecl] at hy
    refine hy hA _ ?_ ((((sLo.rf.u (by omega)).u (by omega)).u (by omega)).u (by omega))
    have := (((hM.set (p := 54) (8 * a + cn s a) b (by omega) (by omega) (by omega)).set (p := 55) (8 * a + cn s a) d (by omega) (by omega) (by omega)).set (p := 53) a (cn s a + 1) (by omega) (by omega) (by omega)).set9 19 0
    unfold nCorner
    rw [ecl, eclb, ecld]
    exact this
  refine ⟨hin, fun h4 => ⟨hin, hin, fun h5 => ?_, fun h5 => ?_⟩, fun h4 => ⟨_, rfl, hn ?_⟩⟩
  · rw [nI_le0 (by omega)] at h5
    rw [e8]
    rw [show (8 : Int32) = nI 8 from rfl, nI_eq (by omega) (by omega)] at h4
    refine fin ⟨h1, h2, h3, ?_, ?_⟩ (by omega)
    · rw [ecl]; exact h4
    · rw [ecl]; intro q; exact absurd h5 q
  · rw [nI_le0 (by omega)] at h5
    rw [show (8 : Int32) = nI 8 from rfl, nI_eq (by omega) (by omega)] at h4
    rw [e8, nI_p1 (by omega), nI_c (show 8 * a + cn s a - 1 < 2 ^ 31 by omega)]
    have ej : 8 * a + cn s a - 1 = 8 * a + (cn s a - 1) := by omega
    have hmu := hca.2.1 (cn s a - 1) (by omega)
    have hin5 : vp_in (nI (8 * a + (cn s a - 1))) 64 := vp_in_nI (by omega) (by omega)
    rw [ej, hM.q54, hM.q55, nI_leI (by omega) (by omega), nI_ltI (by omega) (by omega)]
    refine ⟨hin5, fun h6 => ⟨_, rfl, hn ?_⟩, fun h6 => ⟨hin5, fun h7 => fin ⟨h1, h2, h3, ?_, ?_⟩ (by omega), fun h7 => ⟨_, rfl, hn ?_⟩⟩⟩
    · intro q
      have := q.2.2.2.2
      rw [ecl, eclb] at this
      have := (this h5).1
      omega
    · rw [ecl]; exact h4
    · rw [ecl, eclb, ecld]
      intro _
      omega
    · intro q
      have := q.2.2.2.2
      rw [ecl, ecld] at this
      have := (this h5).2
      omega
  · intro q
    rw [show (8 : Int32) = nI 8 from rfl, nI_eq (by omega) (by omega)] at h4
    have := q.2.2.2.1
    rw [ecl] at this
    exact this h4
end M4
