section C1
variable {s : NN} {G : GG} {P : Int32 → GG → Prop} {PL : Int64 → GG → Prop}
theorem c7_isWithin {v lo hi : Int32} (h : P (bI (decide (lo ≤ v ∧ v ≤ hi))) G) : CTi kX7_isWithin [.int v, .int lo, .int hi] G P := by
  refine vX7_isWithin _ v lo hi G ⟨fun h1 => ⟨_, rfl, ?_⟩, fun h1 => ⟨fun h2 => ⟨_, rfl, ?_⟩, fun h2 => ⟨_, rfl, ?_⟩⟩⟩
  · rw [bI_n (by rw [Ilt] at h1; rw [Ile, Ile]; omega)] at h
    exact h
  · rw [bI_n (by rw [Ilt] at h1 h2; rw [Ile, Ile]; omega)] at h
    exact h
  · rw [bI_y (by rw [Ilt] at h1 h2; rw [Ile, Ile]; omega)] at h
    exact h
theorem c7_in {v x y : Int32} {a b : Int} (hx : x.toInt = a) (hy : y.toInt = b) (h : P (bI (decide (inR v a b))) G) : CTi kX7_isWithin [.int v, .int x, .int y] G P := by
  refine c7_isWithin ?_
  rw [bI_c (inR_i hx hy)]
  exact h
theorem b_1 (i : Nat) : bt 1 i = decide (i = 0) := by
  rcases Nat.lt_or_ge i 32 with h | h
  · exact (by decide +kernel : ∀ i, i < 32 → bt 1 i = decide (i = 0)) i h
  · rw [b_big h, decide_eq_false (by omega)]
theorem sh_bt {x : Int32} {n : Nat} (hn : n < 32) : (x >>> (nI n &&& 31)) &&& 1 = 0 ↔ bt x n = false := by
  have e : bt ((x >>> (nI n &&& 31)) &&& 1) 0 = bt x n := by
    rw [b_and, b_1, b_sshr n hn x (by omega), if_pos (by omega)]
    simp
  constructor
  · intro h
    rw [← e, h]
    exact b_0 0
  · intro h
    apply b_ext
    intro i hi
    rw [b_0]
    by_cases h0 : i = 0
    · subst h0; rw [e, h]
    · rw [b_and, b_1, decide_eq_false h0, Bool.and_false]
theorem c7_holds {x v : Int32} (h : P (bI (decide (0 ≤ v.toInt ∧ v.toInt < 30 ∧ bt x (cl v) = true))) G) : CTi kX7_holds [.int x, .int v] G P := by
  have h30 : (30 : Int32).toInt = 30 := by decide
  have h0 : (0 : Int32).toInt = 0 := by decide
  refine vX7_holds _ _ _ G ⟨fun h1 => ⟨_, rfl, ?_⟩, fun h1 => ⟨fun h2 => ⟨_, rfl, ?_⟩, fun h2 => ?_⟩⟩
  · rw [Ilt, h0] at h1
    rw [bI_n (fun q => by have := q.1; omega)] at h; exact h
  · rw [Ile, h30] at h2
    rw [bI_n (fun q => by have := q.2.1; omega)] at h; exact h
  · rw [Ilt, h0] at h1
    rw [Ile, h30] at h2
    have e := nI_self (x := v) (by omega)
    have e2 := toInt_c (x := v) (by omega)
    have e3 := sh_bt (x := x) (n := cl v) (by unfold cl; omega)
    unfold cl at e3 h
    rw [← e] at e3
    rw [e3]
    refine ⟨fun h3 => ⟨_, rfl, ?_⟩, fun h3 => ⟨_, rfl, ?_⟩⟩
    · rw [bI_n (fun q => by rw [h3] at q; exact absurd q.2.2 (by decide))] at h; exact h
    · rw [bI_y ⟨by omega, by omega, by simpa using h3⟩] at h; exact h
theorem c7_holdsN {x : Int32} {b : Nat} (hb : b < 30) (h : P (bI (bt x b)) G) : CTi kX7_holds [.int x, .int (nI b)] G P := by
  refine c7_holds ?_
  have e : decide (0 ≤ (nI b).toInt ∧ (nI b).toInt < 30 ∧ bt x (cl (nI b)) = true) = bt x b := by
    rw [nI_toInt (by omega), show cl (nI b) = b from nI_c (by omega)]
    cases bt x b with
    | true => simp; omega
    | false => simp
  rw [e]
  exact h
theorem two_le (n : Nat) : 0 < n → ∃ L, 2 ^ L ≤ n ∧ n < 2 ^ (L + 1) := by
  induction n using Nat.strongRecOn with
  | ind n ih =>
    intro h
    by_cases h1 : n = 1
    · subst h1; exact ⟨0, by decide, by decide⟩
    · obtain ⟨L, h2, h3⟩ := ih (n / 2) (by omega) (by omega)
      refine ⟨L + 1, ?_, ?_⟩
      · rw [Nat.pow_succ]; omega
      · rw [Nat.pow_succ 2 (L + 1)]; omega
theorem top_bit {n L : Nat} (h1 : 2 ^ L ≤ n) (h2 : n < 2 ^ (L + 1)) : n.testBit L = true ∧ ∀ b, L < b → n.testBit b = false := by
  constructor
  · rw [Nat.testBit_eq_decide_div_mod_eq]
    have : n / 2 ^ L = 1 := by
      rw [Nat.pow_succ] at h2
      apply Nat.div_eq_of_lt_le
      · omega
      · omega
    rw [this]
    rfl
  · intro b hb
    exact Nat.testBit_lt_two_pow (Nat.lt_of_lt_of_le h2 (Nat.pow_le_pow_right (by omega) hb))
theorem ush {n k : Nat} {c : Int32} (hn : n < 2 ^ 31) (hs : ((c.toUInt32 &&& Int32.toUInt32 31).toBitVec % 32).toNat = k) : ((nI n).toUInt32 >>> (c.toUInt32 &&& Int32.toUInt32 31)).toInt32 = nI (n / 2 ^ k) := pk_ushrN (by omega) c k hs
theorem c6_nlz {n L : Nat} (h1 : 2 ^ L ≤ n) (h2 : n < 2 ^ (L + 1)) (hL : L ≤ 30) (h : P (nI (31 - L)) G) : CTi kJ6_numberOfLeadingZeros_0f7a4 [.int (nI n)] G P := by
  have hn31 : n < 2 ^ 31 := Nat.lt_of_lt_of_le h2 (Nat.pow_le_pow_right (by omega) (by omega))
  have hn0 : 0 < n := Nat.lt_of_lt_of_le (Nat.pow_pos (by omega)) h1
  -- the last step
  have p61 : ∀ x M c : Nat, 2 ^ M ≤ x → x < 2 ^ (M + 1) → M < 4 → M ≤ c → c - M = 31 - L → c ≤ 31 → zJ kJ6_numberOfLeadingZeros_0f7a4 (fun r G' => ∃ x, r = some (.int x) ∧ P x G') 61 [(0, .int (nI x)), (1, .int (nI c))] [] G := by
    intro x M c g1 g2 g3 g4 g5 g6
    have hx16 : x < 16 := Nat.lt_of_lt_of_le g2 (Nat.pow_le_pow_right (n := 2) (by omega) (show M + 1 ≤ 4 by omega))
    refine vJ6_numberOfLeadingZeros_0f7a4_61 _ _ _ G ?_
    rw [show (4 : Int32) = nI 4 from rfl, nI_ltI (by omega) (by omega), ush (k := 1) (by omega) (by decide), ush (k := 2) (by omega) (by decide), ush (k := 1) (by omega) (by decide)]
    refine ⟨fun q => ⟨_, rfl, ?_⟩, fun q => ⟨_, rfl, ?_⟩⟩
    · have : x / 2 ^ 1 = M := by
        have : M < 2 := by
          rcases Nat.lt_or_ge M 2 with z | z
          · exact z
          · have : 2 ^ 2 ≤ 2 ^ M := Nat.pow_le_pow_right (by omega) z
            omega
        have : M = 0 ∨ M = 1 := by omega
        rcases this with rfl | rfl <;> simp at g1 g2 ⊢ <;> omega
      rw [this, pk_sub g4, g5]
      exact h
    · have : x / 2 ^ 2 / 2 ^ 1 = M - 2 := by
        have : 2 ≤ M := by
          rcases Nat.lt_or_ge M 2 with z | z
          · have : 2 ^ (M + 1) ≤ 2 ^ 2 := Nat.pow_le_pow_right (by omega) (by omega)
            omega
          · exact z
        have : M = 2 ∨ M = 3 := by omega
        rcases this with rfl | rfl <;> simp at g1 g2 ⊢ <;> omega
      have hM2 : 2 ≤ M := by
        rcases Nat.lt_or_ge M 2 with z | z
        · have : 2 ^ (M + 1) ≤ 2 ^ 2 := Nat.pow_le_pow_right (by omega) (by omega)
          omega
        · exact z
      have e2 : nI c + (-2 : Int32) = nI (c - 2) := by
        obtain ⟨c', rfl⟩ : ∃ c', c = c' + 2 := ⟨c - 2, by omega⟩
        rw [show nI (c' + 2) = nI c' + nI 2 from (nI_add _ _).symm, Int32.add_assoc, show nI 2 + (-2 : Int32) = 0 by decide, Int32.add_zero]
        rfl
      rw [this, e2, pk_sub (by omega), show c - 2 - (M - 2) = c - M by omega, g5]
      exact h
  have sub : ∀ (c k : Nat) (kk : Int32), nI k + kk = 0 → k ≤ c → nI c + kk = nI (c - k) := by
    intro c k kk hk hc
    obtain ⟨c', rfl⟩ : ∃ c', c = c' + k := ⟨c - k, by omega⟩
    rw [show nI (c' + k) = nI c' + nI k from (nI_add _ _).symm, Int32.add_assoc, hk, Int32.add_zero, Nat.add_sub_cancel]
  have div : ∀ x M k : Nat, 2 ^ M ≤ x → x < 2 ^ (M + 1) → k ≤ M → 2 ^ (M - k) ≤ x / 2 ^ k ∧ x / 2 ^ k < 2 ^ (M - k + 1) := by
    intro x M k g1 g2 g3
    constructor
    · rw [Nat.le_div_iff_mul_le (Nat.pow_pos (by omega)), ← Nat.pow_add, Nat.sub_add_cancel g3]
      exact g1
    · rw [Nat.div_lt_iff_lt_mul (Nat.pow_pos (by omega)), ← Nat.pow_add, show M - k + 1 + k = M + 1 by omega]
      exact g2
  have ge : ∀ x M k : Nat, 2 ^ M ≤ x → x < 2 ^ (M + 1) → (x < 2 ^ k ↔ M < k) := by
    intro x M k g1 g2
    constructor
    · intro q
      rcases Nat.lt_or_ge M k with z | z
      · exact z
      · have : 2 ^ k ≤ 2 ^ M := Nat.pow_le_pow_right (by omega) z
        omega
    · intro q
      exact Nat.lt_of_lt_of_le g2 (Nat.pow_le_pow_right (by omega) q)
  have p48 : ∀ x M c : Nat, 2 ^ M ≤ x → x < 2 ^ (M + 1) → M < 8 → M ≤ c → c - M = 31 - L → c ≤ 31 → zJ kJ6_numberOfLeadingZeros_0f7a4 (fun r G' => ∃ x, r = some (.int x) ∧ P x G') 48 [(0, .int (nI x)), (1, .int (nI c))] [] G := by
    intro x M c g1 g2 g3 g4 g5 g6
    have hx : x < 2 ^ 31 := Nat.lt_of_lt_of_le g2 (Nat.pow_le_pow_right (by omega) (by omega))
    refine vJ6_numberOfLeadingZeros_0f7a4_48 _ _ _ G ?_
    rw [show (16 : Int32) = nI (2 ^ 4) from rfl, nI_ltI hx (by omega), ush (k := 4) hx (by decide), ge x M 4 g1 g2]
    refine ⟨fun q => p61 x M c g1 g2 q g4 g5 g6, fun q => ?_⟩
    rw [sub c 4 (-4) (by decide) (by omega)]
    have := div x M 4 g1 g2 (by omega)
    exact p61 _ (M - 4) (c - 4) this.1 this.2 (by omega) (by omega) (by omega) (by omega)
  have p33 : ∀ x M c : Nat, 2 ^ M ≤ x → x < 2 ^ (M + 1) → M < 16 → M ≤ c → c - M = 31 - L → c ≤ 31 → zJ kJ6_numberOfLeadingZeros_0f7a4 (fun r G' => ∃ x, r = some (.int x) ∧ P x G') 33 [(0, .int (nI x)), (1, .int (nI c))] [] G := by
    intro x M c g1 g2 g3 g4 g5 g6
    have hx : x < 2 ^ 31 := Nat.lt_of_lt_of_le g2 (Nat.pow_le_pow_right (by omega) (by omega))
    refine vJ6_numberOfLeadingZeros_0f7a4_33 _ _ _ G ?_
    rw [show (256 : Int32) = nI (2 ^ 8) from rfl, nI_ltI hx (by omega), ush (k := 8) hx (by decide), ge x M 8 g1 g2]
    refine ⟨fun q => p48 x M c g1 g2 q g4 g5 g6, fun q => ?_⟩
    rw [sub c 8 (-8) (by decide) (by omega)]
    have := div x M 8 g1 g2 (by omega)
    exact p48 _ (M - 8) (c - 8) this.1 this.2 (by omega) (by omega) (by omega) (by omega)
  refine vJ6_numberOfLeadingZeros_0f7a4 _ _ G ⟨fun _ => ?_, fun q => ?_⟩
  · rw [show (65536 : Int32) = nI (2 ^ 16) from rfl, nI_ltI hn31 (by omega), ush (k := 16) hn31 (by decide), ge n L 16 h1 h2]
    refine ⟨fun q => p33 n L 31 h1 h2 q (by omega) rfl (by omega), fun q => ?_⟩
    have := div n L 16 h1 h2 (by omega)
    exact p33 _ (L - 16) 15 this.1 this.2 (by omega) (by omega) (by omega) (by omega)
  · exact absurd (by rw [show (0 : Int32) = nI 0 from rfl, nI_ltI (by omega) hn31]; exact hn0) q
end C1
