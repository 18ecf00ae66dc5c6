/-! numbers -/
abbrev NN : Type := Nat → Nat → Nat
def sU (s : NN) (p k n : Nat) : NN := fun q j => if q = p then (if j = k then n else s q j) else s q j
theorem sU_s {s : NN} {p k n : Nat} : sU s p k n p k = n := by simp [sU]
theorem sU_k {s : NN} {p k j n : Nat} (h : j ≠ k) : sU s p k n p j = s p j := by simp [sU, h]
theorem sU_n {s : NN} {p q k n : Nat} (h : q ≠ p) : sU s p k n q = s q := by funext j; simp [sU, h]
def bI (b : Bool) : Int32 := if b then 1 else 0
def gN (n : Nat) : Int32 := if n = 0 then -1 else nI n
def oI (o : Option Nat) : Int32 := match o with
  | none => -1
  | some n => nI n
theorem bI_bo (b : Bool) : zBo (bI b) := by cases b <;> simp [bI, zBo]
theorem bI_0 {b : Bool} : bI b = 0 ↔ b = false := by cases b <;> simp [bI]
theorem bI_br {c : Prop} [Decidable c] {A B : Prop} (ha : ¬ c → A) (hb : c → B) : (bI (decide c) = 0 → A) ∧ (¬ bI (decide c) = 0 → B) := by
  by_cases h : c
  · simp [bI, h, hb h]
  · simp [bI, h, ha h]
theorem bI_rb {c : Prop} [Decidable c] {A B : Prop} (hb : c → B) (ha : ¬ c → A) : (¬ bI (decide c) = 0 → B) ∧ (bI (decide c) = 0 → A) := (bI_br ha hb).symm
theorem bI_y {c : Prop} [Decidable c] (h : c) : bI (decide c) = 1 := by simp [bI, h]
theorem bI_n {c : Prop} [Decidable c] (h : ¬ c) : bI (decide c) = 0 := by simp [bI, h]
theorem nI_le0 {n : Nat} (h : n < 2 ^ 31) : nI n ≤ 0 ↔ n = 0 := by
  rw [show (0 : Int32) = nI 0 from rfl, nI_leI h (by omega)]
  omega
theorem nI_c {n : Nat} (h : n < 2 ^ 31) : (nI n).toNatClampNeg = n := nI_clamp h
theorem Ile {x y : Int32} : x ≤ y ↔ x.toInt ≤ y.toInt := Int32.le_iff_toInt_le
theorem Ilt {x y : Int32} : x < y ↔ x.toInt < y.toInt := Int32.lt_iff_toInt_lt
theorem Lle {x y : Int64} : x ≤ y ↔ x.toInt ≤ y.toInt := Int64.le_iff_toInt_le
theorem Llt {x y : Int64} : x < y ↔ x.toInt < y.toInt := Int64.lt_iff_toInt_lt
/-- a number that is at least 0 is its clamp -/
theorem nI_self {x : Int32} (h : 0 ≤ x.toInt) : x = nI x.toNatClampNeg := by
  obtain ⟨j, hj, e⟩ := nI_of (x := x) (by rw [Ilt]; simpa using h)
  subst e
  rw [nI_clamp hj]
theorem toInt_c {x : Int32} (h : 0 ≤ x.toInt) : (x.toNatClampNeg : Int) = x.toInt := by
  obtain ⟨j, hj, e⟩ := nI_of (x := x) (by rw [Ilt]; simpa using h)
  subst e
  rw [nI_clamp hj, nI_toInt hj]
theorem m1_int : (-1 : Int32).toInt = -1 := by decide
/-! the state by its names -/
abbrev kn (s : NN) : Nat := s 49 0
abbrev fo (s : NN) : Nat := s 49 1
abbrev rs (s : NN) : Nat := s 49 2
abbrev mg (s : NN) : Nat := s 49 3
abbrev lm (s : NN) : Nat := s 49 4
abbrev la (s : NN) : Nat := s 49 5
abbrev hg (s : NN) : Nat := s 49 17
abbrev hr (s : NN) : Nat := s 49 19
abbrev sn (s : NN) : Nat := s 49 23
abbrev fr (s : NN) (k : Nat) : Nat := s 50 k
abbrev bY (s : NN) (k : Nat) : Nat := s 51 k
abbrev ld (s : NN) (k : Nat) : Nat := s 52 k
abbrev cn (s : NN) (c : Nat) : Nat := s 53 c
abbrev mu (s : NN) (c j : Nat) : Nat := s 54 (8 * c + j)
abbrev tk (s : NN) (c j : Nat) : Nat := s 55 (8 * c + j)
abbrev hs (s : NN) (k : Nat) : Nat := s 56 k
abbrev cu (s : NN) (k : Nat) : Nat := s 57 k
abbrev dl (s : NN) (k : Nat) : Nat := s 58 k
abbrev pk (s : NN) (k : Nat) : Nat := s 59 k
abbrev fl (s : NN) (k : Nat) : Nat := s 60 k
abbrev go (s : NN) (k : Nat) : Nat := s 61 k
abbrev op (s : NN) (k : Nat) : Nat := s 62 k
abbrev dk (s : NN) (k : Nat) : Nat := s 63 k
abbrev st (s : NN) (i : Nat) : Nat := s 64 i
/-- the WAY of LINE k, from itself upward -/
def way (s : NN) : Nat → List Nat
  | 0 => []
  | k + 1 => (k + 1) :: way s (min (fr s (k + 1)) k)
termination_by k => k
decreasing_by omega
theorem way_0 (s : NN) : way s 0 = [] := by rw [way]
theorem way_s {s : NN} {k : Nat} (h : fr s k < k) : way s k = k :: way s (fr s k) := by
  cases k with
  | zero => omega
  | succ k => rw [way, Nat.min_eq_left (by omega)]
theorem way_le {s : NN} : ∀ {k b : Nat}, b ∈ way s k → 1 ≤ b ∧ b ≤ k := by
  intro k
  induction k using Nat.strongRecOn with
  | ind k ih =>
    intro b hb
    cases k with
    | zero => rw [way_0] at hb; cases hb
    | succ k =>
      rw [way] at hb
      rcases List.mem_cons.mp hb with rfl | hb
      · omega
      · have := ih _ (by omega) hb
        omega
/-- the resistance of the LINES above LINE k -/
def abv (s : NN) (k : Nat) : Nat := ((way s (fr s k)).map (bY s)).sum
/-- SUM of a FAULT -/
def smN (s : NN) (k p f : Nat) : Nat := 16 * (rs s + abv s k + f) + p * bY s k
/-- what always holds of the state -/
def WFn (s : NN) : Prop := 1 ≤ kn s ∧ kn s ≤ 30 ∧ 1 ≤ fo s ∧ fo s ≤ 10000 ∧ 1 ≤ rs s ∧ rs s ≤ 1000 ∧ (∀ k, 1 ≤ k → k < kn s → fr s k < k ∧ 1 ≤ bY s k ∧ bY s k ≤ 1000) ∧ (∀ k, ld s k ≤ 1000) ∧ fr s 0 = 0 ∧ bY s 0 = 0
def WFc (s : NN) : Prop := ∀ c, c < 8 → cn s c ≤ 8 ∧ (∀ j, j < cn s c → 10 ≤ mu s c j ∧ mu s c j ≤ 1000 ∧ 1 ≤ tk s c j ∧ tk s c j ≤ 1000) ∧ (∀ j, j + 1 < cn s c → mu s c j < mu s c (j + 1) ∧ tk s c (j + 1) < tk s c j) ∧ (∀ j, cn s c ≤ j → j < 8 → tk s c j = 0)
def WFb (s : NN) : Prop := (∀ k, hs s k ≤ 1 ∧ fl s k ≤ 1 ∧ cu s k < 8 ∧ dl s k ≤ 40 ∧ pk s k ≤ 10000 ∧ go s k ≤ 40) ∧ (∀ k, hs s k = 1 → 1 ≤ k ∧ k < kn s ∧ 1 ≤ dl s k ∧ 1 ≤ pk s k) ∧ (∀ k, go s k ≠ 0 → hs s k = 1)
def WFr (s : NN) : Prop := 1 ≤ mg s ∧ mg s ≤ 10000 ∧ 1 ≤ lm s ∧ lm s ≤ 100000 ∧ la s ≤ 1000 ∧ hg s ≤ 1 ∧ hr s ≤ 1 ∧ sn s ≤ 10 ∧ (∀ k, op s k ≤ 1 ∧ dk s k ≤ 1 ∧ st s k < 30) ∧ (hr s = 1 → ∀ b, b < kn s → (dk s b = 1 ↔ ∃ x ∈ way s b, op s x = 1)) ∧ (hg s = 0 → ∀ k, go s k = 0)
def WF (s : NN) : Prop := WFn s ∧ WFc s ∧ WFb s ∧ WFr s
def WF3 (s : NN) : Prop := WFn s ∧ WFc s ∧ WFb s
theorem WF.w {s : NN} (h : WF s) : WF3 s := ⟨h.1, h.2.1, h.2.2.1⟩
/-- the model's object holds the state -/
def MR (s : NN) (G : GG) : Prop := G 49 0 = nI (kn s) ∧ G 49 1 = nI (fo s) ∧ G 49 2 = nI (rs s) ∧ G 49 3 = nI (mg s) ∧ G 49 4 = nI (lm s) ∧ G 49 5 = nI (la s) ∧ G 49 17 = nI (hg s) ∧ G 49 19 = nI (hr s) ∧ G 49 23 = nI (sn s) ∧ (∀ p, 50 ≤ p → p ≤ 64 → p ≠ 61 → ∀ k, G p k = nI (s p k)) ∧ ∀ k, G 61 k = gN (s 61 k)
/-- a bit of a number -/
def bt (x : Int32) (b : Nat) : Bool := x.toBitVec.getLsbD b
def CNet (s : NN) (G : GG) : Prop := G 1 0 = nI (kn s) ∧ G 1 1 = nI (fo s) ∧ G 1 2 = nI (rs s) ∧ (∀ k, k < 30 → G 2 k = nI (fr s k)) ∧ (∀ k, k < 30 → G 3 k = nI (bY s k)) ∧ (∀ k, k < kn s → G 4 k = nI (abv s k)) ∧ (∀ k, k < kn s → ∀ b, bt (G 5 k) b = decide (b ∈ way s k)) ∧ (∀ k, k < 30 → G 6 k = nI (ld s k))
def CRow (s : NN) (G : GG) : Prop := (∀ b, bt (G 7 1) b = decide (hs s b = 1)) ∧ (∀ b, bt (G 7 2) b = decide (hs s b = 1 ∧ fl s b = 1)) ∧ (∀ k, k < 30 → G 9 k = nI (cu s k)) ∧ (∀ k, k < 30 → G 10 k = nI (dl s k)) ∧ (∀ k, k < 30 → G 11 k = nI (pk s k)) ∧ (∀ k, k < 30 → G 12 k = gN (go s k))
def CCur (s : NN) (G : GG) : Prop := ∀ c, c < 8 → G (25 + 3 * c) 0 = nI (cn s c) ∧ ∀ j, j < 8 → G (25 + 3 * c + 1) j = nI (mu s c j) ∧ G (25 + 3 * c + 2) j = nI (tk s c j)
def CRul (s : NN) (G : GG) : Prop := G 13 0 = nI (mg s) ∧ G 13 1 = nI (lm s) ∧ G 13 2 = nI (la s)
def CMis (s : NN) (G : GG) : Prop := G 0 8 = nI (hg s) ∧ G 0 9 = nI (hr s) ∧ (hr s = 1 → ∀ b, bt (G 0 10) b = decide (b < kn s ∧ op s b = 1)) ∧ G 18 2 = nI (sn s) ∧ (∀ i, i < sn s → G 19 i = nI (st s i))
def CR (s : NN) (G : GG) : Prop := CNet s G ∧ CRow s G ∧ CCur s G ∧ CRul s G ∧ CMis s G
/-! the model's small methods -/
theorem c8_isIn {v lo hi : Int32} {G : GG} {P : Int32 → GG → Prop} (h : P (bI (decide (lo ≤ v ∧ v ≤ hi))) G) : CTi kX8_isIn [.int v, .int lo, .int hi] G P := by
  refine vX8_isIn _ v lo hi G ⟨fun h1 => ⟨_, rfl, ?_⟩, fun h1 => ⟨fun h2 => ⟨_, rfl, ?_⟩, fun h2 => ⟨_, rfl, ?_⟩⟩⟩
  · rw [bI_n (by rw [Ilt] at h1; rw [Ile, Ile]; omega)] at h
    exact h
  · rw [bI_n (by rw [Ilt] at h1 h2; rw [Ile, Ile]; omega)] at h
    exact h
  · rw [bI_y (by rw [Ilt] at h1 h2; rw [Ile, Ile]; omega)] at h
    exact h
/-- v is a LINE's number -/
abbrev lnP (s : NN) (v : Int32) : Prop := 1 ≤ v.toInt ∧ v.toInt < (kn s : Int)
abbrev ktP (s : NN) (v : Int32) : Prop := 0 ≤ v.toInt ∧ v.toInt < (kn s : Int)
abbrev ftP (s : NN) (k p f : Int32) : Prop := lnP s k ∧ (0 ≤ p.toInt ∧ p.toInt ≤ 16) ∧ (0 ≤ f.toInt ∧ f.toInt ≤ 1000)
