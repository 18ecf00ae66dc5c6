def oL (o : Option Nat) : Int64 := match o with
  | none => -1
  | some n => lN n
def aRan (s : NN) (b w : Int32) : Int32 := if hr s = 1 ∧ ktP s b ∧ (w = 0 ∨ w = 1) ∧ (w = 0 → hs s (cl b) = 1) then nI (if w = 0 then op s (cl b) else dk s (cl b)) else -1
def arcN (s : NN) (k p f : Nat) : Option Nat := (clN s k p f (kn s)).map fun t => 256 * fo s * fo s * t / (smN s k p f * smN s k p f)
def aArc (s : NN) (k p f : Int32) : Int64 := if ftP s k p f then oL (arcN s (cl k) (cl p) (cl f)) else -1
def fltV (s : NN) (k p f : Nat) : Prop := 1 ≤ k ∧ k < kn s ∧ p ≤ 16 ∧ (f = 0 ∨ f = la s)
def WorstIs (s : NN) (r : Int64) : Prop := (r = -1 ∧ ∃ k p f, fltV s k p f ∧ arcN s k p f = none) ∨ (∃ M, r = lN M ∧ M < 2 ^ 62 ∧ (∀ k p f, fltV s k p f → ∃ a, arcN s k p f = some a ∧ a ≤ M) ∧ (M = 0 ∨ ∃ k p f, fltV s k p f ∧ arcN s k p f = some M))
theorem Worst_u {s : NN} {r r' : Int64} (h : WorstIs s r) (h' : WorstIs s r') : r = r' := by
  rcases h with ⟨rfl, k, p, f, hv, hn⟩ | ⟨M, rfl, hM, hall, hat⟩ <;> rcases h' with ⟨rfl, k', p', f', hv', hn'⟩ | ⟨M', rfl, hM', hall', hat'⟩
  · rfl
  · obtain ⟨a, ha, -⟩ := hall' k p f hv
    rw [hn] at ha; cases ha
  · obtain ⟨a, ha, -⟩ := hall k' p' f' hv'
    rw [hn'] at ha; cases ha
  · have h1 : M ≤ M' := by
      rcases hat with rfl | ⟨k, p, f, hv, ha⟩
      · omega
      · obtain ⟨a, ha', hle⟩ := hall' k p f hv
        rw [ha] at ha'; cases ha'; exact hle
    have h2 : M' ≤ M := by
      rcases hat' with rfl | ⟨k, p, f, hv, ha⟩
      · omega
      · obtain ⟨a, ha', hle⟩ := hall k p f hv
        rw [ha] at ha'; cases ha'; exact hle
    rw [show M = M' by omega]
theorem arcN_le {s : NN} {k p f a : Nat} (hW : WF3 s) (h : arcN s k p f = some a) : a ≤ 256 * 10000 * 10000 * 40000 := by
  unfold arcN at h
  obtain ⟨t, ht, rfl⟩ := Option.map_eq_some_iff.mp h
  have h1 := clN_le hW.2.1 hW.2.2 ht
  have h2 := hW.1.2.2.2.1
  refine Nat.le_trans (Nat.div_le_self _ _) ?_
  exact Nat.mul_le_mul (Nat.mul_le_mul (Nat.mul_le_mul (Nat.le_refl _) h2) h2) h1
def gw (s : NN) (b : Nat) : Nat := if hs s b = 1 ∧ cn s (cu s b) ≠ 0 ∧ ldS s b (kn s) ≠ 0 then (10 * (pk s b * mu s (cu s b) 0) - 1) / ldS s b (kn s) else 100000
def gwS (s : NN) : Nat → Nat
  | 0 => 100000
  | n + 1 => min (gwS s n) (gw s n)
theorem gwS_le {s : NN} : ∀ n, gwS s n ≤ 100000
  | 0 => Nat.le_refl _
  | n + 1 => Nat.le_trans (Nat.min_le_left _ _) (gwS_le n)
def ctS (s : NN) : Nat → Nat
  | 0 => 0
  | n + 1 => ctS s n + hs s n
theorem ctS_le {s : NN} (hb : WFb s) : ∀ n, ctS s n ≤ n
  | 0 => Nat.le_refl 0
  | n + 1 => by
    have := ctS_le hb n
    have := (hb.1 n).1
    unfold ctS
    omega
def aAbout (s : NN) (w : Int32) : Int32 := if w = 0 then nI (kn s) else if w = 1 then nI (ctS s (kn s)) else if w = 2 then nI (fo s) else if w = 3 then nI (rs s) else if w = 4 then nI (mg s) else if w = 5 then nI (lm s) else if w = 6 then nI (la s) else if w = 7 then nI (hg s) else if w = 8 then nI (sn s) else -1
def aStep (s : NN) (i : Int32) : Int32 := if 0 ≤ i.toInt ∧ i.toInt < (sn s : Int) then nI (st s (cl i)) else -1
def glN (s : NN) (n : Nat) : NN := fun q j => if q = 61 ∧ j < n then (if hs s j = 1 then dl s j else 0) else if q = 49 ∧ j = 17 then 1 else s q j
def nGoal (s : NN) : NN := glN s 30
theorem glN_s {s : NN} {n : Nat} : sU (glN s n) 61 n (if hs s n = 1 then dl s n else 0) = glN s (n + 1) := by
  funext q j
  rw [sU_at]
  by_cases h1 : q = 61 ∧ j = n
  · rw [if_pos h1]
    obtain ⟨rfl, rfl⟩ := h1
    unfold glN
    rw [if_pos (show 61 = 61 ∧ j < j + 1 by omega)]
  · rw [if_neg h1]
    unfold glN
    have e1 : (q = 61 ∧ j < n) ↔ (q = 61 ∧ j < n + 1) := by omega
    simp only [e1]
theorem n0_iff {n : Nat} (h : n < 2 ^ 31) : nI n = 0 ↔ n = 0 := by rw [show (0 : Int32) = nI 0 from rfl, nI_eq h (by omega)]
section M6
variable {s : NN} {G : GG} {P : Int32 → GG → Prop} {PL : Int64 → GG → Prop}
theorem c8_ran {b w : Int32} (hM : MR s G) (hW : WF s) (h : P (aRan s b w) G) : CTi kX8_ran [.ref 49, .int b, .int w] G P := by
  have hWn := hW.n
  have hkn := hWn.2.1
  have hhr := hW.r.2.2.2.2.2.2.1
  unfold aRan at h
  have h00 : hs s 0 ≠ 1 := fun q => by have := (hW.b.2.1 0 q).1; omega
  have i01 : inR w 0 1 ↔ (w = 0 ∨ w = 1) := by
    constructor
    · intro q
      obtain ⟨a, -, a2, rfl⟩ := inR_n (a := 0) (b := 1) q.1 q.2
      have : a = 0 ∨ a = 1 := by omega
      rcases this with rfl | rfl
      · exact Or.inl rfl
      · exact Or.inr rfl
    · rintro (rfl | rfl) <;> exact ⟨by decide, by decide⟩
  refine vX8_ran _ _ _ G ?_
  rw [hM.2.2.2.2.2.2.2.1, n0_iff (by omega)]
  refine ⟨fun h0 => ⟨_, rfl, ?_⟩, fun h0 => c8_kt hM hWn (bI_br (fun h1 => ⟨_, rfl, ?_⟩) (fun h1 => c8_in (a := 0) (b := 1) (by decide) (by decide) (bI_br (fun h2 => ⟨_, rfl, ?_⟩) (fun h2 => ?_))))⟩
  · rw [if_neg (by rintro ⟨q, -⟩; omega)] at h; exact h
  · rw [if_neg (by rintro ⟨-, q, -⟩; exact h1 q)] at h; exact h
  · rw [if_neg (by rintro ⟨-, -, q, -⟩; exact h2 (i01.mpr q))] at h; exact h
  · rw [i01] at h2
    obtain ⟨a, a1, rfl⟩ := ktP_n h1 hkn
    have ha : a < 2 ^ 31 := by omega
    have hin : vp_in (nI a) 30 := vp_in_nI (by omega) (by omega)
    simp only [cl, nI_c ha] at h
    rw [nI_c ha, hM.q56, hs_ne hW.b, n0_iff ha]
    have hop := (hW.r.2.2.2.2.2.2.2.2.1 a).1
    have hdk := (hW.r.2.2.2.2.2.2.2.2.1 a).2.1
    have fin : (w = 0 → hs s a = 1) → zJ kX8_ran (fun r G' => ∃ x, r = some (.int x) ∧ P x G') 49 [(0, .ref 49), (1, .int (nI a)), (2, .int w)] [] G := by
      intro hq
      rw [if_pos ⟨by omega, h1, h2, hq⟩] at h
      refine vX8_ran_49 _ _ _ G ?_
      rw [nI_c ha, hM.q62, hM.q63, n0_iff (by omega), n0_iff (by omega)]
      refine ⟨fun h3 => ⟨hin, fun h4 => ⟨_, rfl, ?_⟩, fun h4 => ⟨_, rfl, ?_⟩⟩, fun h3 => ⟨hin, fun h4 => ⟨_, rfl, ?_⟩, fun h4 => ⟨_, rfl, ?_⟩⟩⟩
      · rw [if_neg h3, h4] at h; exact h
      · rw [if_neg h3, show dk s a = 1 by omega] at h; exact h
      · rw [if_pos h3, h4] at h; exact h
      · rw [if_pos h3, show op s a = 1 by omega] at h; exact h
    refine ⟨fun h3 => fin (fun q => absurd q h3), fun h3 => ⟨fun h4 => ⟨_, rfl, ?_⟩, fun h4 => ⟨hin, fun h5 => fin (fun _ => Decidable.not_not.mp h5), fun h5 => ⟨_, rfl, ?_⟩⟩⟩⟩
    · subst h4
      rw [if_neg (by rintro ⟨-, -, -, q⟩; exact h00 (q h3))] at h; exact h
    · rw [if_neg (by rintro ⟨-, -, -, q⟩; exact h5 (q h3))] at h; exact h
theorem c8_arcN {k p f : Nat} (hM : MR s G) (hW : WF s) (hk1 : 1 ≤ k) (hk : k < kn s) (hp : p ≤ 16) (hf : f ≤ 1000) (h : PL (oL (arcN s k p f)) G) : CTl kX8_arc [.ref 49, .int (nI k), .int (nI p), .int (nI f)] G PL := by
  have hWn := hW.n
  have hkn := hWn.2.1
  have hft : ftP s (nI k) (nI p) (nI f) := ⟨⟨by rw [nI_toInt (by omega)]; omega, by rw [nI_toInt (by omega)]; omega⟩, ⟨by rw [nI_toInt (by omega)]; omega, by rw [nI_toInt (by omega)]; omega⟩, ⟨by rw [nI_toInt (by omega)]; omega, by rw [nI_toInt (by omega)]; omega⟩⟩
  have hsm := smN_le hWn hk1 hk hp hf
  have hfo := hWn.2.2.2.1
  refine vX8_arc _ _ _ _ G (c8_isFault hM hWn ?_)
  rw [bI_y hft]
  refine ⟨fun q => absurd q (by decide), fun _ => c8_cleared hM hW.w hk1 hk hp hf ?_⟩
  have hcl : ∀ t, clN s k p f (kn s) = some t → t < 2 ^ 31 := fun t ht => by have := clN_le hW.c hW.b ht; omega
  refine vX8_arc_21 _ _ _ _ _ G ?_
  rw [oI_le hcl]
  refine ⟨fun ⟨t, ht⟩ => ?_, fun hno => ⟨_, rfl, ?_⟩⟩
  · rw [ht]
    have ht4 := clN_le hW.c hW.b ht
    have hss : smN s k p f * smN s k p f ≤ 528000 * 528000 := Nat.mul_le_mul hsm.2 hsm.2
    have hss1 : 0 < smN s k p f * smN s k p f := Nat.mul_pos (by omega) (by omega)
    have hnum : 256 * fo s * fo s * t ≤ 256 * 10000 * 10000 * 40000 := Nat.mul_le_mul (Nat.mul_le_mul (Nat.mul_le_mul (Nat.le_refl _) hfo) hfo) ht4
    refine c8_sum hM hWn hk1 hk hp hf (c8_sum hM hWn hk1 hk hp hf ?_)
    rw [lN_mul, show (0 : Int64) = lN 0 from rfl, lN_eq0 (by omega) (by omega)]
    refine ⟨by omega, _, rfl, ?_⟩
    rw [hM.2.1, nI_lN (by omega), show oI (some t) = nI t from rfl, nI_lN (by omega), show (256 : Int64) = lN 256 from rfl, lN_mul, lN_mul, lN_mul, pk_lDiv (by omega) hss1 (by omega)]
    have : arcN s k p f = some (256 * fo s * fo s * t / (smN s k p f * smN s k p f)) := by unfold arcN; rw [ht]; rfl
    rw [this] at h
    exact h
  · have : arcN s k p f = none := by
      unfold arcN
      cases hc : clN s k p f (kn s) with
      | none => rfl
      | some t => exact absurd ⟨t, hc⟩ hno
    rw [this] at h
    exact h
theorem c8_arc {k p f : Int32} (hM : MR s G) (hW : WF s) (h : PL (aArc s k p f) G) : CTl kX8_arc [.ref 49, .int k, .int p, .int f] G PL := by
  have hWn := hW.n
  have hkn := hWn.2.1
  unfold aArc at h
  by_cases hc : ftP s k p f
  · rw [if_pos hc] at h
    obtain ⟨a, b, c, a1, a2, b2, c2, rfl, rfl, rfl⟩ := ftP_n hc hkn
    rw [show cl (nI a) = a from nI_c (by omega), show cl (nI b) = b from nI_c (by omega), show cl (nI c) = c from nI_c (by omega)] at h
    exact c8_arcN hM hW a1 a2 b2 c2 h
  · rw [if_neg hc] at h
    refine vX8_arc _ _ _ _ G (c8_isFault hM hWn ?_)
    rw [bI_n hc]
    refine ⟨fun _ => vX8_arc_21 _ _ _ _ _ G ⟨fun q => absurd q (by decide), fun _ => ⟨_, rfl, h⟩⟩, fun q => absurd rfl q⟩
theorem half34 {n : Nat} (h : n < 34) : n / 2 ≤ 16 ∧ (n % 2 * la s = 0 ∨ n % 2 * la s = la s) := by
  refine ⟨by omega, ?_⟩
  rcases Nat.mod_two_eq_zero_or_one n with q | q
  · left; rw [q]; omega
  · right; rw [q]; omega
theorem nf_eq {n : Nat} (hn : n < 34) (hM : MR s G) : (nI n / 2 = nI (n / 2)) ∧ ((nI n - nI n / 2 * 2) * G 49 5 = nI (n % 2 * la s)) := by
  have h1 : nI n / 2 = nI (n / 2) := pk_div (a := n) (d := 2) (by omega) (by omega) (by omega)
  refine ⟨h1, ?_⟩
  rw [show nI n - nI n / 2 * 2 = nI (n % 2) from pk_rem (a := n) (d := 2) (by omega) (by omega) (by omega), hM.2.2.2.2.2.1, pk_mul]
theorem c8_worst (hM : MR s G) (hW : WF s) (h : ∀ r, WorstIs s r → PL r G) : CTl kX8_worst [.ref 49] G PL := by
  have hWn := hW.n
  have hkn := hWn.2.1
  have hla := hW.r.2.2.2.2.1
  refine vX8_worst _ G ?_
  -- what is behind us: all of the LINES under k, of LINE k the FAULTS under n
  let bef : Nat → Nat → Nat → Nat → Nat → Prop := fun k n k' p f => 1 ≤ k' ∧ ((k' < k ∧ p ≤ 16 ∧ (f = 0 ∨ f = la s)) ∨ (k' = k ∧ ∃ i, i < n ∧ p = i / 2 ∧ f = i % 2 * la s))
  have key : ∀ m k n M : Nat, (30 - k) * 40 + (34 - n) ≤ m → 1 ≤ k → k < kn s → n ≤ 34 → M < 2 ^ 62 → (∀ k' p f, bef k n k' p f → ∃ a, arcN s k' p f = some a ∧ a ≤ M) → (M = 0 ∨ ∃ k' p f, fltV s k' p f ∧ arcN s k' p f = some M) → zJ kX8_worst (fun r G' => ∃ x, r = some (.long x) ∧ PL x G') 15 [(0, .ref 49), (1, .long (lN M)), (3, .int (nI k)), (4, .int (nI n))] [] G := by
    intro m
    induction m with
    | zero => intro k n M hm; omega
    | succ m ih =>
      intro k n M hm hk1 hk hn hMb hall hat
      refine vX8_worst_15 _ _ _ _ G ⟨fun h1 => ?_, fun h1 => ?_⟩
      · rw [show (34 : Int32) = nI 34 from rfl, nI_leI (by omega) (by omega)] at h1
        have hn34 : n = 34 := by omega
        subst hn34
        have hall' : ∀ k' p f, 1 ≤ k' → k' < k + 1 → p ≤ 16 → (f = 0 ∨ f = la s) → ∃ a, arcN s k' p f = some a ∧ a ≤ M := by
          intro k' p f q1 q2 q3 q4
          rcases Nat.lt_or_ge k' k with q | q
          · exact hall k' p f ⟨q1, Or.inl ⟨q, q3, q4⟩⟩
          · refine hall k' p f ⟨q1, Or.inr ⟨by omega, ?_⟩⟩
            rcases q4 with rfl | rfl
            · exact ⟨2 * p, by omega, by omega, by rw [show 2 * p % 2 = 0 by omega, Nat.zero_mul]⟩
            · exact ⟨2 * p + 1, by omega, by omega, by rw [show (2 * p + 1) % 2 = 1 by omega, Nat.one_mul]⟩
        rw [nI_1]
        refine vX8_worst_4 _ _ _ G ?_
        rw [hM.1, nI_leI (by omega) (by omega)]
        refine ⟨fun h2 => ⟨_, rfl, h _ (Or.inr ⟨M, rfl, hMb, fun k' p f ⟨q1, q2, q3, q4⟩ => hall' k' p f q1 (by omega) q3 q4, hat⟩)⟩, fun h2 => ?_⟩
        refine ih (k + 1) 0 M (by omega) (by omega) (by omega) (by omega) hMb ?_ hat
        rintro k' p f ⟨q1, ⟨q2, q3, q4⟩ | ⟨q2, i, q3, -⟩⟩
        · exact hall' k' p f q1 q2 q3 q4
        · omega
      · rw [show (34 : Int32) = nI 34 from rfl, nI_leI (by omega) (by omega)] at h1
        have hn34 : n < 34 := by omega
        have hh := half34 (s := s) hn34
        have e := nf_eq hn34 hM
        rw [e.2, e.1]
        have hf1000 : n % 2 * la s ≤ 1000 := by rcases hh.2 with q | q <;> omega
        refine c8_arcN hM hW hk1 hk hh.1 hf1000 ?_
        cases ha : arcN s k (n / 2) (n % 2 * la s) with
        | none => exact ⟨fun q => absurd q (by decide), fun _ => ⟨_, rfl, h _ (Or.inl ⟨rfl, _, _, _, ⟨hk1, hk, hh⟩, ha⟩)⟩⟩
        | some a =>
          have hale := arcN_le hW.w ha
          show ((0 : Int64) ≤ lN a → _) ∧ (¬ (0 : Int64) ≤ lN a → _)
          rw [show (0 : Int64) = lN 0 from rfl, pk_lLE (by omega) (by omega), nI_1]
          refine ⟨fun _ => ?_, fun q => absurd (Nat.zero_le a) q⟩
          show (lN a ≤ lN M → _) ∧ (¬ lN a ≤ lN M → _)
          rw [pk_lLE (by omega) (by omega)]
          refine ⟨fun h2 => ih k (n + 1) M (by omega) hk1 hk (by omega) hMb ?_ hat, fun h2 => ih k (n + 1) a (by omega) hk1 hk (by omega) (by omega) ?_ (Or.inr ⟨_, _, _, ⟨hk1, hk, hh⟩, ha⟩)⟩
          · rintro k' p f ⟨q1, q2 | ⟨q2, i, q3, q4, q5⟩⟩
            · exact hall k' p f ⟨q1, Or.inl q2⟩
            · rcases Nat.lt_or_ge i n with q | q
              · exact hall k' p f ⟨q1, Or.inr ⟨q2, i, q, q4, q5⟩⟩
              · have : i = n := by omega
                subst this
                subst q2 q4 q5
                exact ⟨a, ha, h2⟩
          · rintro k' p f ⟨q1, q2 | ⟨q2, i, q3, q4, q5⟩⟩
            · obtain ⟨x, hx, hx2⟩ := hall k' p f ⟨q1, Or.inl q2⟩
              exact ⟨x, hx, by omega⟩
            · rcases Nat.lt_or_ge i n with q | q
              · obtain ⟨x, hx, hx2⟩ := hall k' p f ⟨q1, Or.inr ⟨q2, i, q, q4, q5⟩⟩
                exact ⟨x, hx, by omega⟩
              · have : i = n := by omega
                subst this
                subst q2 q4 q5
                exact ⟨a, ha, Nat.le_refl _⟩
  refine vX8_worst_4 _ _ _ G ?_
  rw [hM.1, show (1 : Int32) = nI 1 from rfl, nI_leI (by omega) (by omega)]
  refine ⟨fun h2 => ⟨_, rfl, h _ (Or.inr ⟨0, rfl, by omega, fun k' p f ⟨q1, q2, q3, q4⟩ => absurd q2 (by omega), Or.inl rfl⟩)⟩, fun h2 => key 2000 1 0 0 (by omega) (by omega) (by omega) (by omega) (by omega) ?_ (Or.inl rfl)⟩
  rintro k' p f ⟨q1, ⟨q2, q3, q4⟩ | ⟨q2, i, q3, -⟩⟩ <;> omega
theorem gw_eq {q i : Nat} (hq : 1 ≤ q) (hi : 1 ≤ i) : (100 * q + 10 * i - 1) / (10 * i) - 1 = (10 * q - 1) / i := by
  have h1 : 100 * q + 10 * i - 1 = (100 * q - 1) + 10 * i * 1 := by omega
  rw [h1, Nat.add_mul_div_left _ _ (by omega), Nat.add_sub_cancel, ← Nat.div_div_eq_div_mul, show (100 * q - 1) / 10 = 10 * q - 1 by omega]
theorem lN_sub1 {n : Nat} (h : 1 ≤ n) : lN n - 1 = lN (n - 1) := by
  rw [show (1 : Int64) = lN 1 from rfl, lN_sub h]
theorem c8_growth (hM : MR s G) (hW : WF s) (h : P (nI (gwS s (kn s))) G) : CTi kX8_growth [.ref 49] G P := by
  have hWn := hW.n
  have hkn := hWn.2.1
  have hk1 := hWn.1
  refine vX8_growth _ G ?_
  have key : ∀ n b : Nat, b + n = kn s → 1 ≤ b → zJ kX8_growth (fun r G' => ∃ x, r = some (.int x) ∧ P x G') 5 [(0, .ref 49), (1, .int (nI (gwS s b))), (2, .int (nI b))] [] G := by
    intro n
    induction n with
    | zero =>
      intro b hb hb1
      refine vX8_growth_5 _ _ _ G ⟨fun _ => ⟨_, rfl, ?_⟩, fun h1 => ?_⟩
      · rw [Nat.add_zero] at hb
        rw [hb]; exact h
      · rw [hM.1] at h1
        exact absurd (nI_le (by omega) (by omega)) h1
    | succ n ih =>
      intro b hb hb1
      have hb31 : b < 2 ^ 31 := by omega
      have hin : vp_in (nI b) 30 := vp_in_nI (by omega) (by omega)
      have hih := ih (b + 1) (by omega) (by omega)
      have hg := gwS_le (s := s) b
      rw [gwS] at hih
      refine vX8_growth_5 _ _ _ G ⟨fun h1 => ?_, fun _ => c8_loadOf hM hWn hb1 (by omega) ?_⟩
      · rw [hM.1] at h1
        exact absurd h1 (nI_ge (by omega) (by omega))
      · have hb' := hW.b.1 b
        have hcc := hW.c (cu s b) hb'.2.2.1
        have hld := ldS_le hWn (k := b) (kn s)
        have hld2 : ldS s b (kn s) ≤ 30000 := by omega
        have skip : ¬ (hs s b = 1 ∧ cn s (cu s b) ≠ 0 ∧ ldS s b (kn s) ≠ 0) → zJ kX8_growth (fun r G' => ∃ x, r = some (.int x) ∧ P x G') 5 [(0, .ref 49), (1, .int (nI (gwS s b))), (2, .int (nI b + 1))] [] G := by
          intro hno
          rw [gw, if_neg hno, Nat.min_eq_left hg] at hih
          rw [nI_1]
          exact hih
        have e8 : (8 : Int32) * nI (cu s b) = nI (8 * cu s b + 0) := by rw [show (8 : Int32) = nI 8 from rfl, pk_mul]; rfl
        rw [nI_c hb31, hM.q56, hM.q57, hM.q59, nI_c (show cu s b < 2 ^ 31 by omega), hM.q53, e8, nI_c (show 8 * cu s b + 0 < 2 ^ 31 by omega), hM.q54, hs_ne hW.b, n0_iff (by omega), nI_lN (show ldS s b (kn s) < 2 ^ 31 by omega), show (0 : Int64) = lN 0 from rfl, lN_eq0 (by omega) (by omega)]
        refine ⟨hin, fun h1 => skip (fun q => h1 q.1), fun h1 => ⟨hin, vp_in_nI hb'.2.2.1 (by omega), fun h2 => skip (fun q => q.2.1 h2), fun h2 => ⟨fun h3 => ⟨hin, hin, vp_in_nI (by omega) (by omega), ?_⟩, fun h3 => skip (fun q => q.2.2 h3)⟩⟩⟩
        have h1 : hs s b = 1 := Decidable.not_not.mp h1
        have hmu := hcc.2.1 0 (by omega)
        have hpk := (hW.b.2.1 b h1).2.2.2
        have hq1 : pk s b * mu s (cu s b) 0 ≤ 10000 * 1000 := Nat.mul_le_mul hb'.2.2.2.2.1 hmu.2.1
        have hq0 : 1 ≤ pk s b * mu s (cu s b) 0 := Nat.mul_pos (by omega) (by omega)
        have hqq : 100 * pk s b * mu s (cu s b) 0 = 100 * (pk s b * mu s (cu s b) 0) := Nat.mul_assoc _ _ _
        rw [nI_lN (show pk s b < 2 ^ 31 by omega), nI_lN (show mu s (cu s b) 0 < 2 ^ 31 by omega), show (100 : Int64) = lN 100 from rfl, show (10 : Int64) = lN 10 from rfl, lN_mul, lN_mul, lN_mul, hqq, lN_add, lN_sub1 (by omega), pk_lDiv (by omega) (by omega) (by omega), lN_eq0 (by omega) (by omega), nI_lN (show gwS s b < 2 ^ 31 by omega)]
        have hge1 : 1 ≤ (100 * (pk s b * mu s (cu s b) 0) + 10 * ldS s b (kn s) - 1) / (10 * ldS s b (kn s)) := by
          rw [Nat.le_div_iff_mul_le (by omega)]
          omega
        rw [lN_sub1 hge1, gw_eq hq0 (by omega)]
        have hgle : (10 * (pk s b * mu s (cu s b) 0) - 1) / ldS s b (kn s) ≤ 100000000 := by
          refine Nat.le_trans (Nat.div_le_self _ _) ?_
          omega
        have ew : gw s b = (10 * (pk s b * mu s (cu s b) 0) - 1) / ldS s b (kn s) := by
          rw [gw, if_pos ⟨h1, h2, h3⟩]
        rw [← ew] at hgle ⊢
        rw [pk_lLE (by omega) (by omega), lN_i, nI_1]
        refine ⟨by omega, fun h4 => ?_, fun h4 => ?_⟩
        · rw [Nat.min_eq_left h4] at hih; exact hih
        · rw [Nat.min_eq_right (by omega)] at hih; exact hih
  have e1 : gwS s 1 = 100000 := by
    rw [gwS, gwS, gw, if_neg (fun q => by have := (hW.b.2.1 0 q.1).1; omega)]
    rfl
  have := key (kn s - 1) 1 (by omega) (by omega)
  rw [e1] at this
  exact this
theorem c8_step {i : Int32} (hM : MR s G) (hW : WF s) (h : P (aStep s i) G) : CTi kX8_step [.ref 49, .int i] G P := by
  have hsn := hW.r.2.2.2.2.2.2.2.1
  have e23 := hM.2.2.2.2.2.2.2.2.1
  unfold aStep at h
  have hcond : inR i 0 ((sn s : Int) - 1) ↔ (0 ≤ i.toInt ∧ i.toInt < (sn s : Int)) := by unfold inR; omega
  have e1 : (nI (sn s) - 1).toInt = (sn s : Int) - 1 := by
    rcases Nat.eq_zero_or_pos (sn s) with q | q
    · rw [q]; decide
    · rw [nI_p1 q, nI_toInt (by omega)]; omega
  refine vX8_step _ _ G ?_
  rw [e23]
  refine c8_in (a := 0) (b := (sn s : Int) - 1) (by decide) e1 (bI_br (fun h1 => ⟨_, rfl, ?_⟩) (fun h1 => ?_))
  · rw [hcond] at h1
    rw [if_neg h1] at h; exact h
  · rw [hcond] at h1
    rw [if_pos h1] at h
    have e := nI_self h1.1
    have e2 := toInt_c h1.1
    refine ⟨?_, _, rfl, ?_⟩
    · rw [e]; exact vp_in_nI (by omega) (by omega)
    · rw [hM.q64]; exact h
theorem c8_about {w : Int32} (hM : MR s G) (hW : WF s) (h : P (aAbout s w) G) : CTi kX8_about [.ref 49, .int w] G P := by
  have hWn := hW.n
  have hkn := hWn.2.1
  have hk1 := hWn.1
  refine vX8_about _ _ G ?_
  have key : ∀ n b : Nat, b + n = kn s → zJ kX8_about (fun r G' => ∃ x, r = some (.int x) ∧ P x G') 4 [(0, .ref 49), (1, .int w), (2, .int (nI (ctS s b))), (3, .int (nI b))] [] G := by
    intro n
    induction n with
    | zero =>
      intro b hb
      rw [Nat.add_zero] at hb
      subst hb
      refine vX8_about_4 _ _ _ _ G ⟨fun _ => ?_, fun h1 => ?_⟩
      · unfold aAbout at h
        obtain ⟨h0, h1, h2, h3, h4, h5, h17, h19, h23, -, -⟩ := hM
        rw [h0, h1, h2, h3, h4, h5, h17, h23]
        have hhg := hW.r.2.2.2.2.2.1
        rw [n0_iff (by omega)]
        refine ⟨fun ho => ⟨_, rfl, ?_⟩, fun e => ⟨_, rfl, ?_⟩, fun e => ⟨_, rfl, ?_⟩, fun e => ⟨_, rfl, ?_⟩, fun e => ⟨_, rfl, ?_⟩, fun e => ⟨_, rfl, ?_⟩, fun e => ⟨_, rfl, ?_⟩, fun e => ⟨_, rfl, ?_⟩, fun e => ⟨fun q => ⟨_, rfl, ?_⟩, fun q => ⟨_, rfl, ?_⟩⟩, fun e => ⟨_, rfl, ?_⟩⟩
        · have n0 : ∀ n : Nat, n < 9 → ¬ w = nI n := fun n hn e => by
            rw [e, nI_toInt (by omega)] at ho
            omega
          rw [if_neg (show ¬ w = 0 from n0 0 (by omega)), if_neg (show ¬ w = 1 from n0 1 (by omega)), if_neg (show ¬ w = 2 from n0 2 (by omega)), if_neg (show ¬ w = 3 from n0 3 (by omega)), if_neg (show ¬ w = 4 from n0 4 (by omega)), if_neg (show ¬ w = 5 from n0 5 (by omega)), if_neg (show ¬ w = 6 from n0 6 (by omega)), if_neg (show ¬ w = 7 from n0 7 (by omega)), if_neg (show ¬ w = 8 from n0 8 (by omega))] at h
          exact h
        all_goals subst e
        all_goals try exact h
        · rw [q] at h; exact h
        · rw [show hg s = 1 by omega] at h; exact h
      · rw [hM.1] at h1
        exact absurd (nI_le (by omega) (by omega)) h1
    | succ n ih =>
      intro b hb
      have hih := ih (b + 1) (by omega)
      rw [ctS] at hih
      have h01 := (hW.b.1 b).1
      refine vX8_about_4 _ _ _ _ G ⟨fun h1 => ?_, fun _ => ?_⟩
      · rw [hM.1] at h1
        exact absurd h1 (nI_ge (by omega) (by omega))
      · rw [nI_c (show b < 2 ^ 31 by omega), hM.q56, n0_iff (by omega), show (0 : Int32) = nI 0 from rfl, nI_add, nI_1, nI_1]
        refine ⟨vp_in_nI (by omega) (by omega), fun q => ?_, fun q => ?_⟩
        · rw [q] at hih; exact hih
        · rw [show hs s b = 1 by omega] at hih; exact hih
  have e1 : ctS s 1 = 0 := by
    rw [ctS, ctS]
    have h01 := (hW.b.1 0).1
    have : hs s 0 ≠ 1 := fun q => by have := (hW.b.2.1 0 q).1; omega
    omega
  have := key (kn s - 1) 1 (by omega)
  rw [e1] at this
  exact this
theorem gN_ge {n : Nat} (h : n ≤ 40) : 0 ≤ gN n ↔ n ≠ 0 := by
  unfold gN
  split
  · next q => subst q; simp
  · next q => exact ⟨fun _ => q, fun _ => nI_pos' (by omega)⟩
theorem glN_49 {n : Nat} : kn (glN s n) = kn s := by
  show glN s n 49 0 = _
  unfold glN
  rw [if_neg (by omega), if_neg (by omega)]
theorem glN_p {n p j : Nat} (h1 : p ≠ 61) (h2 : p ≠ 49) : glN s n p j = s p j := by
  unfold glN
  rw [if_neg (by omega), if_neg (by omega)]
theorem c8_goal (hM : MR s G) (hW : WF s) (h : ∀ G', MR (nGoal s) G' → sLo G G' → P (nI (ctS s 30)) G') : CTi kX8_goal [.ref 49] G P := by
  have hWn := hW.n
  have hkn := hWn.2.1
  refine vX8_goal _ G ?_
  have key : ∀ n b : Nat, b + n = 30 → ∀ G1, MR (glN s b) G1 → sLo G G1 → zJ kX8_goal (fun r G' => ∃ x, r = some (.int x) ∧ P x G') 9 [(0, .ref 49), (1, .int (nI (ctS s b))), (2, .int (nI b))] [] G1 := by
    intro n
    induction n with
    | zero =>
      intro b hb G1 hM1 hL
      rw [Nat.add_zero] at hb
      subst hb
      exact vX8_goal_9 _ _ _ G1 ⟨fun _ => ⟨_, rfl, h G1 hM1 hL⟩, fun h1 => absurd (by decide) h1⟩
    | succ n ih =>
      intro b hb G1 hM1 hL
      have hb31 : b < 2 ^ 31 := by omega
      have hin : vp_in (nI b) 30 := vp_in_nI (by omega) (by omega)
      have h01 := hW.b.1 b
      have s51 : zJ kX8_goal (fun r G' => ∃ x, r = some (.int x) ∧ P x G') 51 [(0, .ref 49), (1, .int (nI (ctS s b))), (2, .int (nI b))] [.int (gN (if hs s b = 1 then dl s b else 0)), .int (nI b), .ref 61] G1 := by
        have hM2 := hM1.set61 b (if hs s b = 1 then dl s b else 0)
        rw [glN_s] at hM2
        have hih := ih (b + 1) (by omega) _ hM2 (hL.u (by omega))
        rw [ctS] at hih
        refine vX8_goal_51 _ _ _ _ _ G1 ?_
        rw [nI_c hb31, gU_s, gN_ge (by split <;> omega), nI_1, nI_1, show (0 : Int32) = nI 0 from rfl, nI_add]
        refine ⟨hin, hin, fun q => ?_, fun q => ?_⟩
        · have h1 : hs s b = 1 := by
            by_cases hq : hs s b = 1
            · exact hq
            · rw [if_neg hq] at q; exact absurd rfl q
          rw [show ctS s b + hs s b = ctS s b + 1 by rw [h1]] at hih
          exact hih
        · have h1 : hs s b = 0 := by
            by_cases hq : hs s b = 1
            · rw [if_pos hq] at q
              have := (hW.b.2.1 b hq).2.2.1
              omega
            · omega
          rw [show ctS s b + hs s b = ctS s b + 0 by rw [h1]] at hih
          exact hih
      have s50 : ¬ hs s b = 1 → zJ kX8_goal (fun r G' => ∃ x, r = some (.int x) ∧ P x G') 50 [(0, .ref 49), (1, .int (nI (ctS s b))), (2, .int (nI b))] [.int (nI b), .ref 61] G1 := by
        intro hno
        rw [if_neg hno] at s51
        exact vX8_goal_50 _ _ _ _ G1 s51
      refine vX8_goal_9 _ _ _ G1 ?_
      have e56 : hs (glN s b) b = hs s b := glN_p (by omega) (by omega)
      have e58 : dl (glN s b) b = dl s b := glN_p (by omega) (by omega)
      have hbb : WFb s := hW.b
      rw [hM1.1, glN_49, nI_c hb31, hM1.q56, hM1.q58, e56, e58, nI_le0 hb31, nI_leI (by omega) (by omega), hs_ne hbb]
      refine ⟨fun h1 => ?_, fun _ => ⟨fun h1 => s50 ?_, fun h1 => ⟨fun h2 => s50 ?_, fun h2 => ⟨hin, fun h3 => s50 h3, fun h3 => ⟨hin, ?_⟩⟩⟩⟩⟩
      · rw [show (30 : Int32) = nI 30 from rfl] at h1
        exact absurd h1 (nI_ge (by omega) (by omega))
      · intro q
        have := (hbb.2.1 b q).1
        omega
      · intro q
        have := (hbb.2.1 b q).2.1
        omega
      · have h3 := Decidable.not_not.mp h3
        rw [if_pos h3] at s51
        have hd := (hbb.2.1 b h3).2.2.1
        have eg : gN (dl s b) = nI (dl s b) := by unfold gN; rw [if_neg (by omega)]
        rw [eg] at s51
        exact s51
  refine key 30 0 (by omega) _ ?_ (sLo.rf.u (by omega))
  have := hM.set9 17 1
  have e : sU s 49 17 1 = glN s 0 := by
    funext q i
    rw [sU_at]
    unfold glN
    rw [if_neg (show ¬ (q = 61 ∧ i < 0) by omega)]
  rw [e] at this
  exact this
end M6
