/-! counting bits -/
def w4 (a b c d : Nat) : Nat := a + 256 * (b + 256 * (c + 256 * d))
def u1 (a : Nat) : Nat := a / 2 &&& 85
def t1 (a : Nat) : Nat := a - u1 a
def t2 (a : Nat) : Nat := (t1 a &&& 51) + (t1 a / 4 &&& 51)
def t3 (a : Nat) : Nat := (t2 a + t2 a / 16) &&& 15
theorem f1 : ∀ a, a < 256 → ∀ e, e < 2 → (a / 2 + 128 * e) &&& 85 = u1 a ∧ u1 a ≤ a := by decide +kernel
theorem f2 : ∀ t, t < 256 → ∀ e, e < 4 → (t / 4 + 64 * e) &&& 51 = (t / 4 &&& 51) := by decide +kernel
theorem f2b : ∀ a, a < 256 → t1 a < 256 ∧ t2 a ≤ 68 ∧ t2 a % 16 ≤ 4 := by decide +kernel
theorem f3 : ∀ a, a < 256 → ∀ e, e < 5 → (t2 a + (t2 a / 16 + 16 * e)) &&& 15 = t3 a := by decide +kernel
theorem f3b : ∀ a, a < 256 → t3 a = a % 2 + a / 2 % 2 + a / 4 % 2 + a / 8 % 2 + a / 16 % 2 + a / 32 % 2 + a / 64 % 2 + a / 128 % 2 := by decide +kernel
theorem f4 : ∀ a, a < 64 → a &&& 63 = a := by decide +kernel
theorem land8 {a c A C : Nat} (ha : a < 256) (hc : c < 256) : (a + 256 * A) &&& (c + 256 * C) = (a &&& c) + 256 * (A &&& C) := by
  apply Nat.eq_of_testBit_eq
  intro i
  have hac : a &&& c < 2 ^ 8 := Nat.and_lt_two_pow _ hc
  rw [Nat.testBit_and, Nat.add_comm a, Nat.add_comm c, Nat.add_comm (a &&& c), show 256 = 2 ^ 8 from rfl, Nat.testBit_two_pow_mul_add _ ha, Nat.testBit_two_pow_mul_add _ hc, Nat.testBit_two_pow_mul_add _ hac]
  split
  · rw [Nat.testBit_and]
  · rw [Nat.testBit_and]
theorem land4 {a b c d m n o p : Nat} (ha : a < 256) (hb : b < 256) (hc : c < 256) (hm : m < 256) (hn : n < 256) (ho : o < 256) : w4 a b c d &&& w4 m n o p = w4 (a &&& m) (b &&& n) (c &&& o) (d &&& p) := by
  unfold w4
  rw [land8 ha hm, land8 hb hn, land8 hc ho]
theorem fa_and (a b : Nat) : nI a &&& nI b = nI (a &&& b) := by
  apply Int32.toBitVec_inj.1
  show BitVec.ofNat 32 a &&& BitVec.ofNat 32 b = BitVec.ofNat 32 (a &&& b)
  apply BitVec.eq_of_getLsbD_eq
  intro i hi
  simp [hi]
theorem us {n j : Nat} (hn : n < 2 ^ 32) (hj : j < 32) : ((nI n).toUInt32 >>> ((nI j).toUInt32 &&& Int32.toUInt32 31)).toInt32 = nI (n / 2 ^ j) := pk_ushrN hn _ j (s_u j hj)
theorem c6_bc {a b c d : Nat} {G : GG} {P : Int32 → GG → Prop} (ha : a < 256) (hb : b < 256) (hc : c < 256) (hd : d < 64) (h : P (nI (t3 a + t3 b + t3 c + t3 d)) G) : CTi kJ6_bitCount_0f7a4 [.int (nI (w4 a b c d))] G P := by
  have hn : w4 a b c d < 2 ^ 30 := by unfold w4; omega
  have a1 := f1 a ha
  have b1 := f1 b hb
  have c1 := f1 c hc
  have d1 := f1 d (by omega)
  have a2 := f2b a ha
  have b2 := f2b b hb
  have c2 := f2b c hc
  have d2 := f2b d (by omega)
  have a3 : t3 a ≤ 8 := by rw [f3b a ha]; omega
  have b3 : t3 b ≤ 8 := by rw [f3b b hb]; omega
  have c3 : t3 c ≤ 8 := by rw [f3b c hc]; omega
  have d3 : t3 d ≤ 8 := by rw [f3b d (by omega)]; omega
  have e1 : ((nI (w4 a b c d)).toUInt32 >>> ((1 : Int32).toUInt32 &&& Int32.toUInt32 31)).toInt32 &&& (1431655765 : Int32) = nI (w4 (u1 a) (u1 b) (u1 c) (u1 d)) := by
    rw [show (1 : Int32) = nI 1 from rfl, us (by omega) (by omega), show (1431655765 : Int32) = nI (w4 85 85 85 85) from rfl, fa_and]
    have : w4 a b c d / 2 ^ 1 = w4 (a / 2 + 128 * (b % 2)) (b / 2 + 128 * (c % 2)) (c / 2 + 128 * (d % 2)) (d / 2 + 128 * 0) := by unfold w4; omega
    rw [this, land4 (by omega) (by omega) (by omega) (by omega) (by omega) (by omega), (a1 (b % 2) (by omega)).1, (b1 (c % 2) (by omega)).1, (c1 (d % 2) (by omega)).1, (d1 0 (by omega)).1]
  have e2 : nI (w4 a b c d) - nI (w4 (u1 a) (u1 b) (u1 c) (u1 d)) = nI (w4 (t1 a) (t1 b) (t1 c) (t1 d)) := by
    have ha := (a1 0 (by omega)).2
    have hb := (b1 0 (by omega)).2
    have hc := (c1 0 (by omega)).2
    have hd := (d1 0 (by omega)).2
    have : w4 (u1 a) (u1 b) (u1 c) (u1 d) ≤ w4 a b c d := by unfold w4; omega
    rw [pk_sub this]
    congr 1
    unfold w4 t1
    omega
  have hT : w4 (t1 a) (t1 b) (t1 c) (t1 d) < 2 ^ 32 := by unfold w4; omega
  have e3 : nI (w4 (t1 a) (t1 b) (t1 c) (t1 d)) &&& (858993459 : Int32) = nI (w4 (t1 a &&& 51) (t1 b &&& 51) (t1 c &&& 51) (t1 d &&& 51)) := by
    rw [show (858993459 : Int32) = nI (w4 51 51 51 51) from rfl, fa_and, land4 (by omega) (by omega) (by omega) (by omega) (by omega) (by omega)]
  have e4 : ((nI (w4 (t1 a) (t1 b) (t1 c) (t1 d))).toUInt32 >>> ((2 : Int32).toUInt32 &&& Int32.toUInt32 31)).toInt32 &&& (858993459 : Int32) = nI (w4 (t1 a / 4 &&& 51) (t1 b / 4 &&& 51) (t1 c / 4 &&& 51) (t1 d / 4 &&& 51)) := by
    rw [show (2 : Int32) = nI 2 from rfl, us hT (by omega), show (858993459 : Int32) = nI (w4 51 51 51 51) from rfl, fa_and]
    have : w4 (t1 a) (t1 b) (t1 c) (t1 d) / 2 ^ 2 = w4 (t1 a / 4 + 64 * (t1 b % 4)) (t1 b / 4 + 64 * (t1 c % 4)) (t1 c / 4 + 64 * (t1 d % 4)) (t1 d / 4 + 64 * 0) := by unfold w4; omega
    rw [this, land4 (by omega) (by omega) (by omega) (by omega) (by omega) (by omega), f2 _ a2.1 _ (by omega), f2 _ b2.1 _ (by omega), f2 _ c2.1 _ (by omega), f2 _ d2.1 _ (by omega)]
  have e5 : nI (w4 (t1 a &&& 51) (t1 b &&& 51) (t1 c &&& 51) (t1 d &&& 51)) + nI (w4 (t1 a / 4 &&& 51) (t1 b / 4 &&& 51) (t1 c / 4 &&& 51) (t1 d / 4 &&& 51)) = nI (w4 (t2 a) (t2 b) (t2 c) (t2 d)) := by
    rw [nI_add]
    congr 1
    unfold w4 t2
    omega
  have e6 : (nI (w4 (t2 a) (t2 b) (t2 c) (t2 d)) + ((nI (w4 (t2 a) (t2 b) (t2 c) (t2 d))).toUInt32 >>> ((4 : Int32).toUInt32 &&& Int32.toUInt32 31)).toInt32) &&& (252645135 : Int32) = nI (w4 (t3 a) (t3 b) (t3 c) (t3 d)) := by
    have hT2 : w4 (t2 a) (t2 b) (t2 c) (t2 d) < 2 ^ 32 := by unfold w4; omega
    rw [show (4 : Int32) = nI 4 from rfl, us hT2 (by omega), nI_add, show (252645135 : Int32) = nI (w4 15 15 15 15) from rfl, fa_and]
    have : w4 (t2 a) (t2 b) (t2 c) (t2 d) + w4 (t2 a) (t2 b) (t2 c) (t2 d) / 2 ^ 4 = w4 (t2 a + (t2 a / 16 + 16 * (t2 b % 16))) (t2 b + (t2 b / 16 + 16 * (t2 c % 16))) (t2 c + (t2 c / 16 + 16 * (t2 d % 16))) (t2 d + (t2 d / 16 + 16 * 0)) := by unfold w4; omega
    rw [this, land4 (by omega) (by omega) (by omega) (by omega) (by omega) (by omega), f3 a ha _ (by omega), f3 b hb _ (by omega), f3 c hc _ (by omega), f3 d (by omega) _ (by omega)]
  have e7 : nI (w4 (t3 a) (t3 b) (t3 c) (t3 d)) + ((nI (w4 (t3 a) (t3 b) (t3 c) (t3 d))).toUInt32 >>> ((8 : Int32).toUInt32 &&& Int32.toUInt32 31)).toInt32 = nI (w4 (t3 a + t3 b) (t3 b + t3 c) (t3 c + t3 d) (t3 d)) := by
    have hT2 : w4 (t3 a) (t3 b) (t3 c) (t3 d) < 2 ^ 32 := by unfold w4; omega
    rw [show (8 : Int32) = nI 8 from rfl, us hT2 (by omega), nI_add]
    congr 1
    unfold w4
    omega
  have e8 : (nI (w4 (t3 a + t3 b) (t3 b + t3 c) (t3 c + t3 d) (t3 d)) + ((nI (w4 (t3 a + t3 b) (t3 b + t3 c) (t3 c + t3 d) (t3 d))).toUInt32 >>> ((16 : Int32).toUInt32 &&& Int32.toUInt32 31)).toInt32) &&& (63 : Int32) = nI (t3 a + t3 b + t3 c + t3 d) := by
    have hT2 : w4 (t3 a + t3 b) (t3 b + t3 c) (t3 c + t3 d) (t3 d) < 2 ^ 32 := by unfold w4; omega
    rw [show (16 : Int32) = nI 16 from rfl, us hT2 (by omega), nI_add, show (63 : Int32) = nI (w4 63 0 0 0) from rfl, fa_and]
    have : w4 (t3 a + t3 b) (t3 b + t3 c) (t3 c + t3 d) (t3 d) + w4 (t3 a + t3 b) (t3 b + t3 c) (t3 c + t3 d) (t3 d) / 2 ^ 16 = w4 (t3 a + t3 b + t3 c + t3 d) (t3 b + t3 c + t3 d) (t3 c + t3 d) (t3 d) := by unfold w4; omega
    rw [this, land4 (by omega) (by omega) (by omega) (by omega) (by omega) (by omega), f4 _ (by omega), Nat.and_zero, Nat.and_zero, Nat.and_zero]
    congr 1
  refine vJ6_bitCount_0f7a4 _ _ G ?_
  rw [e1, e2, e3, e4, e5, e6, e7, e8]
  exact ⟨_, rfl, h⟩
def bs (h : Nat → Nat) : Nat → Nat → Nat
  | 0, _ => 0
  | m + 1, o => h o + 2 * bs h m (o + 1)
theorem bs_t {h : Nat → Nat} (hh : ∀ i, h i ≤ 1) : ∀ {m i o : Nat}, i < m → (bs h m o).testBit i = decide (h (o + i) = 1)
  | 0, _, _, hi => by omega
  | m + 1, 0, o, _ => by
    have := hh o
    have key : ∀ x r : Nat, x ≤ 1 → ((x + 2 * r) % 2 = 1 ↔ x = 1) := fun x r hx => by omega
    rw [bs, Nat.testBit_zero]
    exact decide_eq_decide.mpr (key _ _ this)
  | m + 1, i + 1, o, hi => by
    have := hh o
    rw [bs, Nat.testBit_succ, show (h o + 2 * bs h m (o + 1)) / 2 = bs h m (o + 1) by omega, bs_t (m := m) (i := i) (o := o + 1) hh (by omega), show o + 1 + i = o + (i + 1) by omega]
section C8
variable {s : NN} {G : GG} {P : Int32 → GG → Prop}
def by8 (h : Nat → Nat) (o : Nat) : Nat := bs h 8 o
theorem by8_lt {h : Nat → Nat} (hh : ∀ i, h i ≤ 1) (o : Nat) : by8 h o < 256 ∧ t3 (by8 h o) = h o + h (o + 1) + h (o + 2) + h (o + 3) + h (o + 4) + h (o + 5) + h (o + 6) + h (o + 7) := by
  have h0 := hh o
  have h1 := hh (o + 1)
  have h2 := hh (o + 2)
  have h3 := hh (o + 3)
  have h4 := hh (o + 4)
  have h5 := hh (o + 5)
  have h6 := hh (o + 6)
  have h7 := hh (o + 7)
  have e : by8 h o = h o + 2 * (h (o + 1) + 2 * (h (o + 2) + 2 * (h (o + 3) + 2 * (h (o + 4) + 2 * (h (o + 5) + 2 * (h (o + 6) + 2 * (h (o + 7)))))))) := by
    simp only [by8, bs, Nat.mul_zero, Nat.add_zero, Nat.add_assoc]
  have hlt : by8 h o < 256 := by omega
  refine ⟨hlt, ?_⟩
  rw [f3b _ hlt]
  omega
theorem c6_count (hC : CS s G) (hW : WF s) (h : P (nI (ctS s (kn s))) G) : CTi kJ6_bitCount_0f7a4 [.int (G 7 1)] G P := by
  have hh : ∀ i, hs s i ≤ 1 := fun i => (hW.b.1 i).1
  have hbig : ∀ i, 30 ≤ i → hs s i = 0 := fun i hi => by
    have h1 := hh i
    have : hs s i ≠ 1 := fun q => by have := (hW.b.2.1 _ q).2.1; have := hW.n.2.1; omega
    omega
  have e : G 7 1 = nI (w4 (by8 (hs s) 0) (by8 (hs s) 8) (by8 (hs s) 16) (by8 (hs s) 24)) := by
    have e2 : w4 (by8 (hs s) 0) (by8 (hs s) 8) (by8 (hs s) 16) (by8 (hs s) 24) = bs (hs s) 32 0 := by
      simp only [w4, by8, bs, Nat.mul_zero, Nat.add_zero, Nat.zero_add, Nat.reduceAdd]
      omega
    rw [e2]
    apply b_ext
    intro i hi
    rw [hC.2.1.1 i, bt_nI, bs_t hh hi, Nat.zero_add, decide_eq_true hi, Bool.true_and]
  have a0 := by8_lt hh 0
  have a1 := by8_lt hh 8
  have a2 := by8_lt hh 16
  have a3 := by8_lt hh 24
  have h30 := hbig 30 (by omega)
  have h31 := hbig 31 (by omega)
  have a4 : by8 (hs s) 24 < 64 := by
    have h0 := hh 24
    have h1 := hh 25
    have h2 := hh 26
    have h3 := hh 27
    have h4 := hh 28
    have h5 := hh 29
    simp only [by8, bs, Nat.mul_zero, Nat.add_zero, Nat.reduceAdd]
    omega
  rw [e]
  refine c6_bc a0.1 a1.1 a2.1 a4 ?_
  rw [a0.2, a1.2, a2.2, a3.2]
  rw [← ctS_30 hW.b hW.n] at h
  simp only [ctS, Nat.zero_add] at h
  simp only [Nat.reduceAdd, h30, h31, Nat.add_zero, Nat.zero_add]
  simp only [Nat.add_assoc] at h ⊢
  exact h
theorem c7_about {w : Int32} (hR : CR s G) (hW : WF s) (h : P (aAbout s w) G) : CTi kX7_about [.ref 0, .int w] G P := by
  unfold aAbout at h
  have hC := hR.s
  obtain ⟨m1, m2, m3, m4, m5⟩ := hR.2.2.2.2
  have hhg := hW.2.2.2.2.2.2.2.2.1
  refine vX7_about _ _ G ⟨fun q => ⟨_, rfl, ?_⟩, fun q => ⟨_, rfl, ?_⟩, fun q => c6_count hC hW ⟨_, rfl, ?_⟩, fun q => ⟨_, rfl, ?_⟩, fun q => ⟨_, rfl, ?_⟩, fun q => ⟨_, rfl, ?_⟩, fun q => ⟨_, rfl, ?_⟩, fun q => ⟨_, rfl, ?_⟩, fun q => ⟨fun z => ⟨_, rfl, ?_⟩, fun z => ⟨_, rfl, ?_⟩⟩, fun q => ⟨_, rfl, ?_⟩⟩
  · have ne : ∀ i : Int32, 0 ≤ i.toInt → i.toInt ≤ 8 → ¬ w = i := fun i h1 h2 e => by subst e; omega
    rw [if_neg (ne 0 (by decide) (by decide)), if_neg (ne 1 (by decide) (by decide)), if_neg (ne 2 (by decide) (by decide)), if_neg (ne 3 (by decide) (by decide)), if_neg (ne 4 (by decide) (by decide)), if_neg (ne 5 (by decide) (by decide)), if_neg (ne 6 (by decide) (by decide)), if_neg (ne 7 (by decide) (by decide)), if_neg (ne 8 (by decide) (by decide))] at h
    exact h
  · subst q; rw [hC.1.1]; exact h
  · subst q; exact h
  · subst q; rw [hC.1.2.1]; exact h
  · subst q; rw [hC.1.2.2.1]; exact h
  · subst q; rw [hC.2.2.2.1]; exact h
  · subst q; rw [hC.2.2.2.2.1]; exact h
  · subst q; rw [hC.2.2.2.2.2]; exact h
  · subst q
    rw [m1, n0_iff (by omega)] at z
    have h : P (nI (hg s)) G := h
    rw [z] at h
    exact h
  · subst q
    rw [m1, n0_iff (by omega)] at z
    have h : P (nI (hg s)) G := h
    rw [show hg s = 1 by omega] at h
    exact h
  · subst q; rw [m4]; exact h
theorem c7_right {w : Int32} (hR : CR s G) (hW : WF s) (h : ∀ G', CR s G' → sHi G G' → P (aRight s w) G') : CTi kX7_right [.ref 0, .int w] G P := by
  have keep : ∀ o, CR s (ntQ G o) ∧ sHi G (ntQ G o) := by
    intro o
    have hC := hR.s.fr (nt_C (G := G) (a := q24 o) (b := q25 o) (c := q26 o) (d := q27 o))
    refine ⟨⟨hC.1, hC.2.1, hC.2.2.1, hC.2.2.2, ?_⟩, fun p hp => nt_p (by omega)⟩
    unfold CMis ntQ
    rw [nt_p (by omega), nt_p (by omega), nt_p (by omega)]
    exact hR.2.2.2.2
  have h3 : (3 : Int32).toInt = 3 := by decide
  unfold aRight at h
  refine vX7_right _ _ G (c7_in (a := 0) (b := 3) (by decide) (by decide) (bI_rb (fun hc => c2_look hR.s hW ?_) (fun hc => ⟨_, rfl, ?_⟩)))
  · obtain ⟨k1, k2⟩ := keep (rtN s)
    have h := h _ k1 k2
    refine ⟨fun q => ⟨_, rfl, ?_⟩, fun q => ⟨_, rfl, ?_⟩, fun q => ⟨_, rfl, ?_⟩, fun q => ⟨_, rfl, ?_⟩⟩
    · have : w = 3 := Int32.toInt_inj.mp (by rw [h3]; have := hc.1; have := hc.2; omega)
      subst this
      rw [show ntQ G (rtN s) 14 6 = q27 (rtN s) from nt_6]
      exact h
    · subst q
      rw [show ntQ G (rtN s) 14 3 = q24 (rtN s) from nt_3]
      exact h
    · subst q
      rw [show ntQ G (rtN s) 14 4 = q25 (rtN s) from nt_4]
      exact h
    · subst q
      rw [show ntQ G (rtN s) 14 5 = q26 (rtN s) from nt_5]
      exact h
  · have h := h G hR sHi.rf
    have ne : ∀ i : Int32, 0 ≤ i.toInt → i.toInt ≤ 3 → ¬ w = i := fun i h1 h2 e => by subst e; exact hc ⟨h1, h2⟩
    rw [if_neg (ne 0 (by decide) (by decide)), if_neg (ne 1 (by decide) (by decide)), if_neg (ne 2 (by decide) (by decide)), if_neg (ne 3 (by decide) (by decide))] at h
    exact h
end C8
