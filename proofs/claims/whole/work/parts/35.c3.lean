theorem kp_max {s : NN} (hW : WFn s) : ∀ {k : Nat}, k < kn s → ∀ {x : Nat}, kpN s k = some x → ∀ b ∈ way s k, hs s b = 1 → b ≤ x := by
  intro k
  induction k using Nat.strongRecOn with
  | ind k ih =>
    intro hk x hx b hb hh
    rcases Nat.eq_zero_or_pos k with rfl | hp
    · rw [way_0] at hb; cases hb
    · have hf := (hW.2.2.2.2.2.2.1 k hp hk).1
      rw [kpN_s hf] at hx
      split at hx
      · cases hx; exact (way_le hb).2
      · next hn =>
        rw [way_s hf] at hb
        rcases List.mem_cons.mp hb with rfl | hb
        · exact absurd hh hn
        · exact ih _ hf (by omega) hx b hb hh
theorem kp_none {s : NN} {k : Nat} (h : kpN s k = none) : ∀ b ∈ way s k, ¬ hs s b = 1 := by
  intro b hb hh
  have := List.find?_eq_none.mp h b hb
  simp [hh] at this
theorem top_kp {s : NN} {x : Int32} {k L : Nat} (hW : WFn s) (hk : k < kn s) (hx : ∀ b, bt x b = decide (b ∈ way s k)) (h : isTop s x L) : kpN s k = if L = 0 then none else some L := by
  rcases h with ⟨rfl, h⟩ | ⟨h1, h2, h3⟩
  · rw [if_pos rfl]
    cases hc : kpN s k with
    | none => rfl
    | some y =>
      have hm := kpN_m hc
      exact absurd hm.2 (h y (by rw [hx]; exact decide_eq_true hm.1))
  · rw [hx, decide_eq_true_iff] at h1
    have hL := way_le h1
    rw [if_neg (by omega)]
    cases hc : kpN s k with
    | none => exact absurd h2 (kp_none hc L h1)
    | some y =>
      have hm := kpN_m hc
      have h4 := kp_max hW hk hc L h1 h2
      rcases Nat.lt_or_ge L y with q | q
      · exact absurd hm.2 (h3 y q (by rw [hx]; exact decide_eq_true hm.1))
      · rw [show y = L by omega]
theorem top_30 {s : NN} {x : Int32} {L : Nat} (hb : WFb s) (hW : WFn s) (h : isTop s x L) : L < 30 := by
  have := hW.2.1
  rcases h with ⟨rfl, -⟩ | ⟨-, h2, -⟩
  · omega
  · have := (hb.2.1 L h2).2.1; omega
theorem b_not {x : Int32} {b : Nat} (hb : b < 32) : bt (x ^^^ (-1 : Int32)) b = !bt x b := by
  rw [b_xor, b_m1 b hb]
  cases bt x b <;> rfl
theorem b_one {n b : Nat} (hn : n < 31) : bt ((1 : Int32) <<< (nI n &&& 31)) b = decide (b = n) := by
  rw [sh_l hn, bt_nI, Nat.testBit_two_pow]
  by_cases h : b = n
  · subst h; simp; omega
  · simp [h, Ne.symm h]
section C3
variable {s : NN} {G : GG} {P : Int32 → GG → Prop} {PL : Int64 → GG → Prop}
theorem c7_lon {L : Nat} (hL : L < 30) (h : P (oI (if L = 0 then none else some L)) G) : CTi kX7_lineOrNone [.int (nI L)] G P := by
  refine vX7_lineOrNone _ _ G ?_
  rw [nI_le0 (by omega)]
  refine ⟨fun q => ⟨_, rfl, ?_⟩, fun q => ⟨_, rfl, ?_⟩⟩
  · rw [if_pos q] at h; exact h
  · rw [if_neg q] at h; exact h
theorem c7_nextOf {k : Nat} (hC : CS s G) (hW : WF s) (hk1 : 1 ≤ k) (hk : k < kn s) (h : ∀ L, L < 30 → oI (if L = 0 then none else some L) = oI (nxN s k) → P (nI L) G) : CTi kX7_nextOf [.ref 0, .int (nI k)] G P := by
  have hkn := hW.n.2.1
  refine vX7_nextOf _ _ G ⟨vp_in_nI (by omega) (by omega), ?_⟩
  rw [nI_c (by omega)]
  refine c5_lastOf hC hW.n hW.b fun L hL => ?_
  have hL30 := top_30 hW.b hW.n hL
  have hkp := top_kp hW.n hk (hC.1.2.2.2.2.2.2.1 k hk) hL
  refine ⟨vp_in_nI hL30 (by omega), ?_⟩
  rw [nI_c (show L < 2 ^ 31 by omega)]
  refine c5_lastOf hC hW.n hW.b fun M hM => ⟨_, rfl, h M (top_30 hW.b hW.n hM) ?_⟩
  unfold nxN
  rw [hkp]
  by_cases h0 : L = 0
  · subst h0
    rw [if_pos rfl]
    have e : ∀ b, bt (G 5 0 &&& ((1 : Int32) <<< (nI 0 &&& 31) ^^^ (-1 : Int32))) b = decide (b ∈ way s 0) := by
      intro b
      rw [b_and, hC.1.2.2.2.2.2.2.1 0 (by omega) b, way_0]
      simp
    have := top_kp hW.n (k := 0) (by omega) e hM
    rw [← this, kpN_0]
  · have hLm := kpN_m (show kpN s k = some L by rw [hkp, if_neg h0])
    have hLw := way_le hLm.1
    have hf := (hW.n.2.2.2.2.2.2.1 L (by omega) (by omega)).1
    have e : ∀ b, bt (G 5 L &&& ((1 : Int32) <<< (nI L &&& 31) ^^^ (-1 : Int32))) b = decide (b ∈ way s (fr s L)) := by
      intro b
      rcases Nat.lt_or_ge b 32 with hb | hb
      · rw [b_and, hC.1.2.2.2.2.2.2.1 L (by omega) b, b_not hb, b_one (by omega), way_s hf]
        by_cases hbL : b = L
        · subst hbL
          have : ¬ b ∈ way s (fr s b) := fun q => by have := way_le q; omega
          simp [this]
        · simp [hbL]
      · rw [b_big hb, decide_eq_false]
        intro q
        have := way_le q
        omega
    have := top_kp hW.n (k := fr s L) (by omega) e hM
    rw [if_neg h0, ← this]
theorem c7_breakerOf {k w : Int32} (hC : CS s G) (hW : WF s) (hk : lnP s k) (h : P (if hs s (cl k) = 1 then (if w = 5 then nI (cu s (cl k)) else if w = 6 then nI (dl s (cl k)) else if w = 7 then nI (pk s (cl k)) else if w = 8 then nI (fl s (cl k)) else if w = 9 then gN (go s (cl k)) else -1) else -1) G) : CTi kX7_breakerOf [.ref 0, .int k, .int w] G P := by
  have hkn := hW.n.2.1
  obtain ⟨a, a1, a2, rfl⟩ := lnP_n hk hkn
  have ha : a < 2 ^ 31 := by omega
  have ha30 : a < 30 := by omega
  have hin : vp_in (nI a) 30 := vp_in_nI ha30 (by omega)
  simp only [cl, nI_c ha] at h
  refine vX7_breakerOf _ _ _ G (c5_isThereN hC ha30 (bI_rb (fun h1 => ?_) (fun h1 => ⟨_, rfl, ?_⟩)))
  · rw [if_pos h1] at h
    rw [nI_c ha, hC.2.1.2.2.1 a ha30, hC.2.1.2.2.2.1 a ha30, hC.2.1.2.2.2.2.1 a ha30, hC.2.1.2.2.2.2.2 a ha30]
    refine ⟨fun ho => ⟨_, rfl, ?_⟩, fun e => ⟨hin, _, rfl, ?_⟩, fun e => ⟨hin, _, rfl, ?_⟩, fun e => ⟨hin, _, rfl, ?_⟩, fun e => c7_holdsN ha30 ?_, fun e => ⟨hin, _, rfl, ?_⟩⟩
    · have n0 : ∀ n : Nat, 5 ≤ n → n < 10 → ¬ w = nI n := fun n hn hn2 e => by
        rw [e, nI_toInt (by omega)] at ho
        omega
      rw [if_neg (show ¬ w = 5 from n0 5 (by omega) (by omega)), if_neg (show ¬ w = 6 from n0 6 (by omega) (by omega)), if_neg (show ¬ w = 7 from n0 7 (by omega) (by omega)), if_neg (show ¬ w = 8 from n0 8 (by omega) (by omega)), if_neg (show ¬ w = 9 from n0 9 (by omega) (by omega))] at h
      exact h
    all_goals subst e
    · exact h
    · exact h
    · exact h
    · rw [hC.2.1.2.1 a]
      have hfl := (hW.b.1 a).2.1
      have h : P (nI (fl s a)) G := h
      refine bI_br (fun h2 => ⟨_, rfl, ?_⟩) (fun h2 => ⟨_, rfl, ?_⟩)
      · rw [show fl s a = 0 by
          have : fl s a ≠ 1 := fun q => h2 ⟨h1, q⟩
          omega] at h
        exact h
      · rw [h2.2] at h; exact h
    · exact h
  · rw [if_neg h1] at h; exact h
theorem c7_lineOf {k w : Int32} (hC : CS s G) (hW : WF s) (h : P (aLineOf s k w) G) : CTi kX7_lineOf [.ref 0, .int k, .int w] G P := by
  have hkn := hW.n.2.1
  unfold aLineOf at h
  refine vX7_lineOf _ _ _ G (c3_isLine hC hW.n (bI_rb (fun hc => ?_) (fun hc => ⟨_, rfl, ?_⟩)))
  · rw [if_pos hc] at h
    have hc' := hc
    obtain ⟨a, a1, a2, rfl⟩ := lnP_n hc hkn
    have ha : a < 2 ^ 31 := by omega
    have ha30 : a < 30 := by omega
    have hin : vp_in (nI a) 30 := vp_in_nI ha30 (by omega)
    rw [nI_c ha, hC.1.2.2.2.1 a ha30]
    refine ⟨fun ho => c7_breakerOf hC hW hc' ⟨_, rfl, ?_⟩, fun e => ⟨hin, _, rfl, ?_⟩, fun e => ⟨hin, c5_lastOf hC hW.n hW.b fun L hL => c7_lon (top_30 hW.b hW.n hL) ⟨_, rfl, ?_⟩⟩, fun e => c7_nextOf hC hW a1 a2 fun L hL30 hL => c7_lon hL30 ⟨_, rfl, ?_⟩, fun e => c3_cbl hC hW.n a1 a2 ⟨_, rfl, ?_⟩, fun e => c5_isThereN hC ha30 ?_⟩
    · have n0 : ∀ n : Nat, n < 5 → ¬ w = nI n := fun n hn e => by
        rw [e, nI_toInt (by omega)] at ho
        omega
      rw [if_neg (show ¬ w = 0 from n0 0 (by omega)), if_neg (show ¬ w = 1 from n0 1 (by omega)), if_neg (show ¬ w = 2 from n0 2 (by omega)), if_neg (show ¬ w = 3 from n0 3 (by omega)), if_neg (show ¬ w = 4 from n0 4 (by omega))] at h
      exact h
    all_goals subst e
    · have h : P (nI (fr s (cl (nI a)))) G := h
      rw [show cl (nI a) = a from nI_c ha] at h
      exact h
    · have h : P (oI (kpN s (cl (nI a)))) G := h
      rw [show cl (nI a) = a from nI_c ha] at h
      rw [← top_kp hW.n a2 (hC.1.2.2.2.2.2.2.1 a a2) hL]
      exact h
    · have h : P (oI (nxN s (cl (nI a)))) G := h
      rw [show cl (nI a) = a from nI_c ha] at h
      rw [hL]
      exact h
    · have h : P (nI (ldS s (cl (nI a)) (kn s))) G := h
      rw [show cl (nI a) = a from nI_c ha] at h
      exact h
    · have h : P (nI (hs s (cl (nI a)))) G := h
      rw [show cl (nI a) = a from nI_c ha] at h
      have hh := (hW.b.1 a).1
      refine bI_br (fun h2 => ⟨_, rfl, ?_⟩) (fun h2 => ⟨_, rfl, ?_⟩)
      · rw [show hs s a = 0 by omega] at h; exact h
      · rw [h2] at h; exact h
  · rw [if_neg hc] at h; exact h
theorem c7_fault {k p f w : Int32} (hC : CS s G) (hW : WF s) (h : PL (aFault s k p f w) G) : CTl kX7_fault [.ref 0, .int k, .int p, .int f, .int w] G PL := by
  have hWn := hW.n
  unfold aFault at h
  refine vX7_fault _ _ _ _ _ G (c3_isFault hC hWn (bI_rb (fun hc => ?_) (fun hc => ⟨_, rfl, ?_⟩)))
  · rw [if_pos hc] at h
    obtain ⟨a, b, c, a1, a2, b2, c2, rfl, rfl, rfl⟩ := ftP_n hc hWn.2.1
    have hkn := hWn.2.1
    have hsm := smN_le hWn a1 a2 b2 c2
    have hfo := hWn.2.2.2.1
    simp only [cl, nI_c (show a < 2 ^ 31 by omega), nI_c (show b < 2 ^ 31 by omega), nI_c (show c < 2 ^ 31 by omega)] at h
    refine c3_sumOf hC hWn a1 a2 b2 c2 ⟨fun h0 => ⟨fun h1 => ⟨_, rfl, ?_⟩, fun h1 => ⟨fun h2 => ?_, fun h2 => c3_six hC hWn ⟨?_, _, rfl, ?_⟩⟩⟩, fun h0 => ⟨_, rfl, ?_⟩⟩
    · rw [if_neg h0, if_neg h1] at h; exact h
    · rw [show (0 : Int64) = lN 0 from rfl, pk_lLE (by omega) (by omega)] at h2
      omega
    · rw [show (0 : Int64) = lN 0 from rfl, lN_eq0 (by omega) (by omega)]
      omega
    · rw [if_neg h0, if_pos h1] at h
      rw [show (100 : Int64) = lN 100 from rfl, lN_mul, pk_lDiv (by omega) (by omega) (by omega), show 100 * (16 * fo s) = 1600 * fo s by omega]
      exact h
    · rw [if_pos h0] at h; exact h
  · rw [if_neg hc] at h; exact h
theorem c7_waits {b k p f : Int32} (hC : CS s G) (hW : WF s) (h : P (aWaits s b k p f) G) : CTi kX7_waits [.ref 0, .int b, .int k, .int p, .int f] G P := by
  have hWn := hW.n
  have hkn := hWn.2.1
  unfold aWaits at h
  refine vX7_waits _ _ _ _ _ G (c3_isFault hC hWn (bI_br (fun hc => ⟨_, rfl, ?_⟩) (fun hc => c3_isOnWay hC hWn (bI_rb (fun hc2 => ?_) (fun hc2 => ⟨_, rfl, ?_⟩)))))
  · rw [if_neg (fun q => hc q.1)] at h; exact h
  · rw [if_pos ⟨hc, hc2.1⟩] at h
    obtain ⟨d, d1, d2, rfl⟩ := lnP_n hc2.1 hkn
    obtain ⟨a, b, c, a1, a2, b2, c2, rfl, rfl, rfl⟩ := ftP_n hc hkn
    have hon := hc2.2.2
    simp only [cl, nI_c (show a < 2 ^ 31 by omega), nI_c (show b < 2 ^ 31 by omega), nI_c (show c < 2 ^ 31 by omega), nI_c (show d < 2 ^ 31 by omega)] at h hon
    have hsm := smN_le hWn a1 a2 b2 c2
    have hfo := hWn.2.2.2.1
    refine c3_six hC hWn (c3_sumOf hC hWn a1 a2 b2 c2 (c5_wait hC hW.w (by omega) (by omega) (by omega) ⟨_, rfl, ?_⟩))
    have e : wtA s d a b c = (if hs s d = 1 then wtB s d (16 * fo s) (smN s a b c) else none) := by
      unfold wtA
      by_cases hd : hs s d = 1
      · rw [if_pos ⟨hd, hon⟩, if_pos hd]
      · rw [if_neg (fun q => hd q.1), if_neg hd]
    rw [e] at h
    exact h
  · by_cases hb : lnP s b
    · rw [if_pos ⟨hc, hb⟩] at h
      have e : wtA s (cl b) (cl k) (cl p) (cl f) = none := by
        unfold wtA
        rw [if_neg (fun q => hc2 ⟨hb, hc.1, q.2⟩)]
      rw [e] at h
      exact h
    · rw [if_neg (fun q => hb q.2)] at h; exact h
/-- what a BREAKER that doesn't FAIL waits -/
def wv (s : NN) (k p f b : Nat) : Option Nat := if fl s b = 1 then none else wtA s b k p f
theorem clN_is {k p f : Nat} : ∀ n, (clN s k p f n = none ∧ ∀ b, b < n → wv s k p f b = none) ∨ (∃ t, clN s k p f n = some t ∧ (∃ b, b < n ∧ wv s k p f b = some t) ∧ ∀ b w, b < n → wv s k p f b = some w → t ≤ w)
  | 0 => Or.inl ⟨rfl, fun b hb => by omega⟩
  | n + 1 => by
    have ih := clN_is (k := k) (p := p) (f := f) n
    have e : clN s k p f (n + 1) = (match wv s k p f n with
      | none => clN s k p f n
      | some w => match clN s k p f n with
        | none => some w
        | some t => some (if w < t then w else t)) := rfl
    cases hw : wv s k p f n with
    | none =>
      rw [hw] at e
      rcases ih with ⟨h1, h2⟩ | ⟨t, h1, ⟨b, h2, h3⟩, h4⟩
      · refine Or.inl ⟨e.trans h1, fun b hb => ?_⟩
        rcases Nat.lt_or_ge b n with q | q
        · exact h2 b q
        · rw [show b = n by omega]; exact hw
      · refine Or.inr ⟨t, e.trans h1, ⟨b, by omega, h3⟩, fun b w hb hbw => ?_⟩
        rcases Nat.lt_or_ge b n with q | q
        · exact h4 b w q hbw
        · rw [show b = n by omega, hw] at hbw; cases hbw
    | some w =>
      rw [hw] at e
      rcases ih with ⟨h1, h2⟩ | ⟨t, h1, ⟨b, h2, h3⟩, h4⟩
      · rw [h1] at e
        refine Or.inr ⟨w, e, ⟨n, by omega, hw⟩, fun b u hb hbw => ?_⟩
        rcases Nat.lt_or_ge b n with q | q
        · rw [h2 b q] at hbw; cases hbw
        · rw [show b = n by omega, hw] at hbw; cases hbw; exact Nat.le_refl _
      · rw [h1] at e
        by_cases hlt : w < t
        · simp only [if_pos hlt] at e
          refine Or.inr ⟨w, e, ⟨n, by omega, hw⟩, fun b u hb hbw => ?_⟩
          rcases Nat.lt_or_ge b n with q | q
          · have := h4 b u q hbw; omega
          · rw [show b = n by omega, hw] at hbw; cases hbw; exact Nat.le_refl _
        · simp only [if_neg hlt] at e
          refine Or.inr ⟨t, e, ⟨b, by omega, h3⟩, fun b u hb hbw => ?_⟩
          rcases Nat.lt_or_ge b n with q | q
          · exact h4 b u q hbw
          · rw [show b = n by omega, hw] at hbw; cases hbw; omega
theorem wv_way {k p f b : Nat} (h : ¬ b ∈ way s k) : wv s k p f b = none := by
  unfold wv wtA
  split
  · rfl
  · rw [if_neg (fun q => h q.2)]
theorem cl_u {k p f : Nat} {o : Option Nat} (hk : k < kn s) (h : (o = none ∧ ∀ b, 1 ≤ b → b ≤ k → wv s k p f b = none) ∨ (∃ t, o = some t ∧ (∃ b, 1 ≤ b ∧ b ≤ k ∧ wv s k p f b = some t) ∧ ∀ b w, 1 ≤ b → b ≤ k → wv s k p f b = some w → t ≤ w)) : o = clN s k p f (kn s) := by
  have hall : ∀ b w, wv s k p f b = some w → 1 ≤ b ∧ b ≤ k := by
    intro b w hb
    refine way_le (s := s) (k := k) ?_
    apply Decidable.byContradiction
    intro q
    rw [wv_way q] at hb
    cases hb
  rcases h with ⟨rfl, h1⟩ | ⟨t, rfl, ⟨b, b1, b2, b3⟩, h1⟩ <;> rcases clN_is (s := s) (k := k) (p := p) (f := f) (kn s) with ⟨g1, g2⟩ | ⟨u, g1, ⟨c, c1, c2⟩, g2⟩
  · exact g1.symm
  · have := hall c u c2
    rw [h1 c this.1 this.2] at c2; cases c2
  · rw [g2 b (by omega)] at b3; cases b3
  · rw [g1]
    have h2 := hall c u c2
    have h3 := h1 c u h2.1 h2.2 c2
    have h4 := g2 b t (by omega) b3
    rw [show t = u by omega]
/-- the mask of the BREAKERS that can open -/
def isAble (s : NN) (k : Nat) (x : Int32) : Prop := ∀ b, b < 32 → bt x b = decide (b ∈ way s k ∧ hs s b = 1 ∧ ¬ fl s b = 1)
theorem c7_ableOn {k : Nat} (hC : CS s G) (hW : WFn s) (hk : k < kn s) (h : ∀ x, isAble s k x → P x G) : CTi kX7_ableOn [.ref 0, .int (nI k)] G P := by
  have hkn := hW.2.1
  refine vX7_ableOn _ _ G ⟨vp_in_nI (by omega) (by omega), _, rfl, h _ fun b hb => ?_⟩
  rw [nI_c (by omega), b_and, b_and, hC.1.2.2.2.2.2.2.1 k hk b, hC.2.1.1 b, b_not hb, hC.2.1.2.1 b]
  by_cases h1 : b ∈ way s k <;> by_cases h2 : hs s b = 1 <;> by_cases h3 : fl s b = 1 <;> simp [h1, h2, h3]
theorem c7_wv {x : Int32} {k p f b : Nat} {Q : Int32 → GG → Prop} (hC : CS s G) (hW : WF3 s) (hA : isAble s k x) (hk1 : 1 ≤ k) (hk : k < kn s) (hp : p ≤ 16) (hf : f ≤ 1000) (hb : b < 30) (hn : bt x b = true) (h : Q (oI (wv s k p f b)) G) : CTi kX5_waitAt [.ref 7, .int (nI b), .long (lN (16 * fo s)), .long (lN (smN s k p f))] G Q := by
  have hsm := smN_le hW.1 hk1 hk hp hf
  have hfo := hW.1.2.2.2.1
  rw [hA b (by omega), decide_eq_true_iff] at hn
  refine c5_wait hC hW hb (by omega) (by omega) ?_
  have e : wv s k p f b = (if hs s b = 1 then wtB s b (16 * fo s) (smN s k p f) else none) := by
    unfold wv wtA
    rw [if_neg hn.2.2, if_pos ⟨hn.2.1, hn.1⟩, if_pos hn.2.1]
  rw [e] at h
  exact h
theorem wv_no {x : Int32} {k p f b : Nat} (hA : isAble s k x) (hb : b < 32) (hn : bt x b = false) : wv s k p f b = none := by
  rw [hA b hb, decide_eq_false_iff_not] at hn
  unfold wv wtA
  split
  · rfl
  · next h => rw [if_neg (fun q => hn ⟨q.2, q.1, h⟩)]
theorem wv_le {k p f b w : Nat} (hc : WFc s) (hb : WFb s) (h : wv s k p f b = some w) : w ≤ 40000 := by
  unfold wv at h
  split at h
  · cases h
  · exact wtA_le hc hb h
theorem oI_m1 {o : Option Nat} (h : ∀ w, o = some w → w < 2 ^ 31) : oI o = -1 ↔ o = none := by
  cases o with
  | none => simp [oI]
  | some w =>
    have := nI_pos' (h w rfl)
    constructor
    · intro q
      have q : nI w = -1 := q
      rw [q] at this
      exact absurd this (by decide)
    · intro q; cases q
theorem c7_clearTick {k p f : Nat} (hC : CS s G) (hW : WF3 s) (hk1 : 1 ≤ k) (hk : k < kn s) (hp : p ≤ 16) (hf : f ≤ 1000) (h : P (oI (clN s k p f (kn s))) G) : CTi kX7_clearTick [.ref 0, .int (nI k), .int (nI p), .int (nI f)] G P := by
  have hkn := hW.1.2.1
  refine vX7_clearTick _ _ _ _ G (c7_ableOn hC hW.1 hk fun x hA => c3_sumOf hC hW.1 hk1 hk hp hf ?_)
  have key : ∀ b : Nat, b ≤ k → ∀ o : Option Nat, ((o = none ∧ ∀ c, b < c → c ≤ k → wv s k p f c = none) ∨ (∃ t, o = some t ∧ t ≤ 40000 ∧ (∃ c, b < c ∧ c ≤ k ∧ wv s k p f c = some t) ∧ ∀ c w, b < c → c ≤ k → wv s k p f c = some w → t ≤ w)) → zJ kX7_clearTick (fun r G' => ∃ x, r = some (.int x) ∧ P x G') 25 [(0, .ref 0), (4, .int x), (5, .long (lN (smN s k p f))), (7, .int (oI o)), (8, .int (nI b))] [] G := by
    intro b
    induction b with
    | zero =>
      intro _ o ho
      refine vX7_clearTick_25 _ _ _ _ _ G ⟨fun _ => ⟨_, rfl, ?_⟩, fun q => absurd (by decide) q⟩
      rw [← cl_u hk (o := o)] at h
      · exact h
      · rcases ho with ⟨h1, h2⟩ | ⟨t, h1, -, ⟨c, c1, c2, c3⟩, h2⟩
        · exact Or.inl ⟨h1, fun c c1 c2 => h2 c (by omega) c2⟩
        · exact Or.inr ⟨t, h1, ⟨c, by omega, c2, c3⟩, fun c w c1 c2 c3 => h2 c w (by omega) c2 c3⟩
    | succ b ih =>
      intro hb o ho
      have hol : ∀ w, o = some w → w < 2 ^ 31 := by
        intro w hw
        rcases ho with ⟨h1, -⟩ | ⟨t, h1, h2, -⟩
        · rw [h1] at hw; cases hw
        · rw [h1] at hw; cases hw; omega
      have hwl : ∀ w, wv s k p f (b + 1) = some w → w < 2 ^ 31 := fun w hw => by have := wv_le hW.2.1 hW.2.2 hw; omega
      have st63 : zJ kX7_clearTick (fun r G' => ∃ x, r = some (.int x) ∧ P x G') 63 [(0, .ref 0), (4, .int x), (5, .long (lN (smN s k p f))), (7, .int (oI o)), (8, .int (nI (b + 1)))] [.int (oI (wv s k p f (b + 1)))] G := by
        refine vX7_clearTick_63 _ _ _ _ _ _ G ?_
        rw [pk_m1, oI_m1 hwl, oI_m1 hol]
        refine ⟨fun h1 => ih (by omega) o ?_, fun h1 => ?_⟩
        · rcases ho with ⟨g1, g2⟩ | ⟨t, g1, g0, ⟨c, c1, c2, c3⟩, g2⟩
          · refine Or.inl ⟨g1, fun c c1 c2 => ?_⟩
            rcases Nat.lt_or_ge (b + 1) c with q | q
            · exact g2 c q c2
            · rw [show c = b + 1 by omega]; exact h1
          · refine Or.inr ⟨t, g1, g0, ⟨c, by omega, c2, c3⟩, fun c w c1 c2 c3 => ?_⟩
            rcases Nat.lt_or_ge (b + 1) c with q | q
            · exact g2 c w q c2 c3
            · rw [show c = b + 1 by omega, h1] at c3; cases c3
        · obtain ⟨w, hw⟩ := Option.ne_none_iff_exists'.mp h1
          have hw4 := wv_le hW.2.1 hW.2.2 hw
          rw [hw]
          have take : (∀ c u, b + 1 < c → c ≤ k → wv s k p f c = some u → w ≤ u) → zJ kX7_clearTick (fun r G' => ∃ x, r = some (.int x) ∧ P x G') 25 [(0, .ref 0), (4, .int x), (5, .long (lN (smN s k p f))), (7, .int (oI (some w))), (8, .int (nI b))] [] G := by
            intro hmin
            refine ih (by omega) (some w) (Or.inr ⟨w, rfl, hw4, ⟨b + 1, by omega, hb, hw⟩, fun c u c1 c2 c3 => ?_⟩)
            rcases Nat.lt_or_ge (b + 1) c with q | q
            · exact hmin c u q c2 c3
            · rw [show c = b + 1 by omega, hw] at c3; cases c3; exact Nat.le_refl _
          refine ⟨fun h2 => take ?_, fun h2 => ?_⟩
          · rcases ho with ⟨g1, g2⟩ | ⟨t, g1, -⟩
            · intro c u c1 c2 c3
              rw [g2 c c1 c2] at c3; cases c3
            · rw [h2] at g1; cases g1
          · rcases ho with ⟨g1, g2⟩ | ⟨t, g1, g0, ⟨c, c1, c2, c3⟩, g2⟩
            · exact absurd g1 h2
            · rw [g1]
              show (nI t ≤ nI w → _) ∧ (¬ nI t ≤ nI w → _)
              rw [nI_leI (by omega) (by omega)]
              refine ⟨fun h3 => ?_, fun h3 => take (fun c u c1 c2 c3 => by have := g2 c u c1 c2 c3; omega)⟩
              refine ih (by omega) (some t) (Or.inr ⟨t, rfl, g0, ⟨c, by omega, c2, c3⟩, fun c u c1 c2 c3 => ?_⟩)
              rcases Nat.lt_or_ge (b + 1) c with q | q
              · exact g2 c u q c2 c3
              · rw [show c = b + 1 by omega, hw] at c3; cases c3; exact h3
      refine vX7_clearTick_25 _ _ _ _ _ G ⟨fun h1 => ?_, fun _ => c7_holdsN (by omega) (bI_b (fun h1 => ?_) (fun h1 => c3_six hC hW.1 (c7_wv hC hW hA hk1 hk hp hf (by omega) h1 st63)))⟩
      · rw [show (1 : Int32) = nI 1 from rfl, nI_ltI (by omega) (by omega)] at h1
        omega
      · rw [wv_no hA (by omega) h1] at st63
        exact st63
  exact key k (Nat.le_refl k) none (Or.inl ⟨rfl, fun c c1 c2 => by omega⟩)
theorem c7_openersAt {k p f : Nat} (hC : CS s G) (hW : WF3 s) (hk1 : 1 ≤ k) (hk : k < kn s) (hp : p ≤ 16) (hf : f ≤ 1000) {o : Option Nat} (ho : ∀ t, o = some t → t ≤ 40000) (h : ∀ y, (∀ b, bt y b = decide (∃ t, o = some t ∧ wv s k p f b = some t)) → P y G) : CTi kX7_openersAt [.ref 0, .int (nI k), .int (nI p), .int (nI f), .int (oI o)] G P := by
  have hkn := hW.1.2.1
  have hol : ∀ w, o = some w → w < 2 ^ 31 := fun w hw => by have := ho w hw; omega
  refine vX7_openersAt _ _ _ _ _ G ?_
  rw [oI_m1 hol]
  refine ⟨fun h1 => ?_, fun h1 => ⟨_, rfl, h 0 fun b => ?_⟩⟩
  · obtain ⟨t, rfl⟩ := Option.ne_none_iff_exists'.mp h1
    have ht := ho t rfl
    refine c7_ableOn hC hW.1 hk fun x hA => c3_sumOf hC hW.1 hk1 hk hp hf ?_
    have key : ∀ b : Nat, b ≤ k → ∀ y : Int32, (∀ c, bt y c = decide (b < c ∧ wv s k p f c = some t)) → zJ kX7_openersAt (fun r G' => ∃ x, r = some (.int x) ∧ P x G') 33 [(0, .ref 0), (4, .int (oI (some t))), (5, .int x), (6, .long (lN (smN s k p f))), (8, .int y), (9, .int (nI b))] [] G := by
      intro b
      induction b with
      | zero =>
        intro _ y hy
        refine vX7_openersAt_33 _ _ _ _ _ _ G ⟨fun _ => ⟨_, rfl, h y fun c => ?_⟩, fun q => absurd (by decide) q⟩
        rw [hy c]
        by_cases hc : wv s k p f c = some t
        · have : 0 < c := by
            rcases Nat.eq_zero_or_pos c with q | q
            · subst q
              rw [wv_way (fun q => by have := way_le q; omega)] at hc
              cases hc
            · exact q
          simp [hc, this]
        · simp [hc]
      | succ b ih =>
        intro hb y hy
        have hwl : ∀ w, wv s k p f (b + 1) = some w → w < 2 ^ 31 := fun w hw => by have := wv_le hW.2.1 hW.2.2 hw; omega
        have no : ¬ wv s k p f (b + 1) = some t → zJ kX7_openersAt (fun r G' => ∃ x, r = some (.int x) ∧ P x G') 33 [(0, .ref 0), (4, .int (oI (some t))), (5, .int x), (6, .long (lN (smN s k p f))), (8, .int y), (9, .int (nI b))] [] G := by
          intro hno
          refine ih (by omega) y fun c => ?_
          rw [hy c]
          have : (b + 1 < c ∧ wv s k p f c = some t) ↔ (b < c ∧ wv s k p f c = some t) := by
            constructor
            · rintro ⟨q1, q2⟩; exact ⟨by omega, q2⟩
            · rintro ⟨q1, q2⟩
              refine ⟨?_, q2⟩
              rcases Nat.lt_or_ge (b + 1) c with q | q
              · exact q
              · rw [show c = b + 1 by omega] at q2; exact absurd q2 hno
          exact decide_eq_decide.mpr this
        refine vX7_openersAt_33 _ _ _ _ _ _ G ⟨fun h1 => ?_, fun _ => ?_⟩
        · rw [show (1 : Int32) = nI 1 from rfl, nI_ltI (by omega) (by omega)] at h1
          omega
        · rw [pk_m1]
          refine c7_holdsN (by omega) (bI_b (fun h2 => no (by rw [wv_no hA (by omega) h2]; simp)) (fun h2 => c3_six hC hW.1 (c7_wv hC hW hA hk1 hk hp hf (by omega) h2 ?_)))
          have e : oI (wv s k p f (b + 1)) = oI (some t) ↔ wv s k p f (b + 1) = some t := by
            cases hw : wv s k p f (b + 1) with
            | none =>
              have := nI_pos' (show t < 2 ^ 31 by omega)
              constructor
              · intro q
                have q : (-1 : Int32) = nI t := q
                rw [← q] at this
                exact absurd this (by decide)
              · intro q; cases q
            | some w =>
              show nI w = nI t ↔ _
              rw [nI_eq (hwl w hw) (by omega)]
              simp
          rw [e]
          refine ⟨no, fun h3 => ih (by omega) _ fun c => ?_⟩
          rw [b_or, hy c, b_one (by omega)]
          by_cases hc : c = b + 1
          · subst hc; simp [h3]
          · have : (b + 1 < c) ↔ (b < c) := by omega
            simp [hc, this]
    refine key k (Nat.le_refl k) 0 fun c => ?_
    rw [b_0]
    symm
    rw [decide_eq_false_iff_not]
    rintro ⟨q1, q2⟩
    rw [wv_way (fun q => by have := way_le q; omega)] at q2
    cases q2
  · rw [b_0, h1]
    simp
end C3
