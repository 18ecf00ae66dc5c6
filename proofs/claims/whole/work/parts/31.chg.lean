abbrev chg (s : NN) (b : Nat) : Prop := hs s b = 1 ∧ go s b ≠ 0 ∧ go s b ≠ dl s b
/-- the LINES whose DIALS are others in the GOAL -/
def otN (s : NN) : Nat → List Nat
  | 0 => []
  | b + 1 => otN s b ++ (if chg s b then [b] else [])
def ot (s : NN) : List Nat := otN s (kn s)
def on (s : NN) : Nat := (ot s).length
def oj (s : NN) (j : Nat) : Nat := (ot s).getD j 0
def tkn (s : NN) (m x : Nat) : Bool := (List.range (on s)).any fun j => oj s j == x && m.testBit j
def dM (s : NN) (m : Nat) : Nat → Nat := fun x => if tkn s m x then go s x else dl s x
def RR (s : NN) (m : Nat) : Prop := rtN (dS s (dM s m)) = none
def al (s : NN) : Nat := 2 ^ on s - 1
def pth (s : NN) : Nat → List Nat → Prop
  | m, [] => m = al s ∧ RR s m
  | m, j :: t => RR s m ∧ j < on s ∧ m.testBit j = false ∧ pth s (m ||| 2 ^ j) t
def can (s : NN) (m : Nat) : Prop := ∃ js, pth s m js
theorem can_iff {s : NN} {m : Nat} : can s m ↔ RR s m ∧ (m = al s ∨ ∃ j, j < on s ∧ m.testBit j = false ∧ can s (m ||| 2 ^ j)) := by
  constructor
  · rintro ⟨js, h⟩
    cases js with
    | nil => exact ⟨h.2, Or.inl h.1⟩
    | cons j t => exact ⟨h.1, Or.inr ⟨j, h.2.1, h.2.2.1, t, h.2.2.2⟩⟩
  · rintro ⟨hr, rfl | ⟨j, h1, h2, t, ht⟩⟩
    · exact ⟨[], rfl, hr⟩
    · exact ⟨j :: t, hr, h1, h2, ht⟩
/-- the first order by its LINES -/
def gp (s : NN) : Nat → List Nat → Prop
  | m, [] => m = al s
  | m, j :: t => j < on s ∧ m.testBit j = false ∧ can s (m ||| 2 ^ j) ∧ (∀ i, i < j → m.testBit i = false → ¬ can s (m ||| 2 ^ i)) ∧ gp s (m ||| 2 ^ j) t
theorem al_bit {s : NN} {j : Nat} (h : j < on s) : (al s).testBit j = true := by
  unfold al
  rw [Nat.testBit_two_pow_sub_one]
  simp [h]
theorem gp_u {s : NN} : ∀ {js js' : List Nat} {m : Nat}, gp s m js → gp s m js' → js = js'
  | [], [], _, _, _ => rfl
  | [], j :: t, m, h, h' => by
    have h : m = al s := h
    rw [h] at h'
    have := h'.2.1
    rw [al_bit h'.1] at this
    cases this
  | j :: t, [], m, h, h' => by
    have h' : m = al s := h'
    rw [h'] at h
    have := h.2.1
    rw [al_bit h.1] at this
    cases this
  | j :: t, j' :: t', m, h, h' => by
    have e : j = j' := by
      rcases Nat.lt_trichotomy j j' with q | q | q
      · exact absurd h.2.2.1 (h'.2.2.2.1 j q h.2.1)
      · exact q
      · exact absurd h'.2.2.1 (h.2.2.2.1 j' q h'.2.1)
    subst e
    rw [gp_u h.2.2.2.2 h'.2.2.2.2]
def ChY (s : NN) : Prop := hg s = 1 ∧ on s ≤ 10 ∧ can s 0
def ChJ (s : NN) (js : List Nat) : Prop := ChY s ∧ gp s 0 js
def nChange (s : NN) (L : List Nat) : NN := fun q j => if q = 64 ∧ j < L.length then L.getD j 0 else if q = 49 ∧ j = 23 then L.length else s q j
theorem nChange_0 {s : NN} : nChange s [] = sU s 49 23 0 := by
  funext q j
  rw [sU_at]
  unfold nChange
  rw [if_neg (by simp)]
  rfl
theorem nChange_s {s : NN} {L : List Nat} {x : Nat} : sU (sU (nChange s L) 64 L.length x) 49 23 (L.length + 1) = nChange s (L ++ [x]) := by
  funext q j
  rw [sU_at]
  by_cases h1 : q = 49 ∧ j = 23
  · rw [if_pos h1]
    obtain ⟨rfl, rfl⟩ := h1
    unfold nChange
    rw [if_neg (by omega), if_pos ⟨rfl, rfl⟩]
    simp
  · rw [if_neg h1, sU_at]
    unfold nChange
    by_cases h2 : q = 64 ∧ j = L.length
    · rw [if_pos h2]
      obtain ⟨rfl, rfl⟩ := h2
      rw [if_pos (by simp)]
      simp [List.getD]
    · rw [if_neg h2]
      by_cases h3 : q = 64 ∧ j < L.length
      · rw [if_pos h3, if_pos ⟨h3.1, by simp; omega⟩]
        simp [List.getD, List.getElem?_append_left h3.2]
      · rw [if_neg h3, if_neg h1, if_neg (by simp; omega), if_neg h1]
theorem otN_len {s : NN} : ∀ b, (otN s b).length ≤ b
  | 0 => Nat.le_refl 0
  | b + 1 => by
    have := otN_len (s := s) b
    unfold otN
    rw [List.length_append]
    split <;> simp <;> omega
theorem otN_m {s : NN} : ∀ {b x : Nat}, x ∈ otN s b ↔ x < b ∧ chg s x
  | 0, x => by simp [otN]
  | b + 1, x => by
    unfold otN
    rw [List.mem_append, otN_m]
    by_cases h : chg s b
    · rw [if_pos h, List.mem_singleton]
      constructor
      · rintro (⟨h1, h2⟩ | rfl)
        · exact ⟨by omega, h2⟩
        · exact ⟨by omega, h⟩
      · rintro ⟨h1, h2⟩
        rcases Nat.lt_or_ge x b with q | q
        · exact Or.inl ⟨q, h2⟩
        · exact Or.inr (by omega)
    · rw [if_neg h]
      simp only [List.not_mem_nil, or_false]
      constructor
      · rintro ⟨h1, h2⟩; exact ⟨by omega, h2⟩
      · rintro ⟨h1, h2⟩
        refine ⟨?_, h2⟩
        rcases Nat.lt_or_ge x b with q | q
        · exact q
        · have : x = b := by omega
          subst this
          exact absurd h2 h
theorem otN_asc {s : NN} : ∀ b, (otN s b).Pairwise (· < ·)
  | 0 => List.Pairwise.nil
  | b + 1 => by
    unfold otN
    refine List.pairwise_append.mpr ⟨otN_asc b, ?_, ?_⟩
    · split
      · exact List.pairwise_singleton _ _
      · exact List.Pairwise.nil
    · intro a ha c hc
      have := (otN_m.mp ha).1
      split at hc
      · rw [List.mem_singleton] at hc; omega
      · cases hc
theorem oj_get {s : NN} {j : Nat} (h : j < on s) : oj s j = (ot s)[j]'h := by
  unfold oj
  rw [List.getD, List.getElem?_eq_getElem (show j < (ot s).length from h)]
  rfl
theorem oj_m {s : NN} {j : Nat} (h : j < on s) : oj s j < kn s ∧ chg s (oj s j) := by
  rw [oj_get h]
  exact otN_m.mp (List.getElem_mem _)
theorem oj_lt {s : NN} {i j : Nat} (h : i < j) (hj : j < on s) : oj s i < oj s j := by
  rw [oj_get (Nat.lt_trans h hj), oj_get hj]
  exact List.pairwise_iff_getElem.mp (otN_asc (kn s)) i j _ _ h
theorem oj_inj {s : NN} {i j : Nat} (hi : i < on s) (hj : j < on s) (h : oj s i = oj s j) : i = j := by
  rcases Nat.lt_trichotomy i j with q | q | q
  · have := oj_lt q hj; omega
  · exact q
  · have := oj_lt q hi; omega
theorem tkn_iff {s : NN} {m x : Nat} : tkn s m x = true ↔ ∃ j, j < on s ∧ oj s j = x ∧ m.testBit j = true := by
  unfold tkn
  simp only [List.any_eq_true, List.mem_range, Bool.and_eq_true, beq_iff_eq]
theorem tkn_oj {s : NN} {m j : Nat} (h : j < on s) : tkn s m (oj s j) = m.testBit j := by
  cases hb : m.testBit j with
  | true => exact tkn_iff.mpr ⟨j, h, rfl, hb⟩
  | false =>
    cases ht : tkn s m (oj s j) with
    | false => rfl
    | true =>
      obtain ⟨i, h1, h2, h3⟩ := tkn_iff.mp ht
      rw [oj_inj h1 h h2, hb] at h3
      cases h3
theorem dM_oj {s : NN} {m j : Nat} (h : j < on s) : dM s m (oj s j) = if m.testBit j then go s (oj s j) else dl s (oj s j) := by
  unfold dM
  rw [tkn_oj h]
theorem dM_0 {s : NN} : dM s 0 = dl s := by
  funext x
  unfold dM
  rw [if_neg]
  rw [tkn_iff]
  rintro ⟨j, -, -, h⟩
  simp at h
theorem dM_non {s : NN} {m x : Nat} (h : ¬ chg s x) : dM s m x = dl s x := by
  unfold dM
  rw [if_neg]
  rw [tkn_iff]
  rintro ⟨j, h1, rfl, -⟩
  exact h (oj_m h1).2
theorem dM_40 {s : NN} {m : Nat} (hb : WFb s) (x : Nat) : dM s m x ≤ 40 := by
  unfold dM
  split
  · exact (hb.1 x).2.2.2.2.2
  · exact (hb.1 x).2.2.2.1
theorem dM_1 {s : NN} {m : Nat} (hb : WFb s) (x : Nat) (h : hs s x = 1) : 1 ≤ dM s m x := by
  unfold dM
  split
  · next ht =>
    obtain ⟨j, h1, rfl, -⟩ := tkn_iff.mp ht
    have := (oj_m h1).2.2.1
    omega
  · exact (hb.2.1 x h).2.2.1
theorem dM_WF {s : NN} {m : Nat} (hW : WF s) : WF (dS s (dM s m)) := dS_WF hW (dM_40 hW.b) (dM_1 hW.b)
/-- how many bits are set under n -/
def cb (m : Nat) : Nat → Nat
  | 0 => 0
  | n + 1 => cb m n + if m.testBit n then 1 else 0
theorem cb_le {m : Nat} : ∀ n, cb m n ≤ n
  | 0 => Nat.le_refl 0
  | n + 1 => by
    have := cb_le (m := m) n
    unfold cb
    split <;> omega
theorem or_bit {m j i : Nat} : (m ||| 2 ^ j).testBit i = (m.testBit i || decide (j = i)) := by
  rw [Nat.testBit_or, Nat.testBit_two_pow]
theorem cb_or {m j : Nat} (h : m.testBit j = false) : ∀ n, cb (m ||| 2 ^ j) n = cb m n + if j < n then 1 else 0
  | 0 => rfl
  | n + 1 => by
    unfold cb
    rw [cb_or h n, or_bit]
    by_cases hn : j = n
    · subst hn
      rw [h]
      simp
    · by_cases h2 : j < n
      · have e1 : (if j < n then (1 : Nat) else 0) = 1 := if_pos h2
        have e2 : (if j < n + 1 then (1 : Nat) else 0) = 1 := if_pos (by omega)
        rw [e1, e2]
        simp only [decide_eq_false hn, Bool.or_false]
        omega
      · have e1 : (if j < n then (1 : Nat) else 0) = 0 := if_neg h2
        have e2 : (if j < n + 1 then (1 : Nat) else 0) = 0 := if_neg (by omega)
        rw [e1, e2]
        simp only [decide_eq_false hn, Bool.or_false]
        omega
theorem cb_lt {m j n : Nat} (h : m.testBit j = false) (hj : j < n) : cb m n < n := by
  have := cb_or h n
  rw [if_pos hj] at this
  have := cb_le (m := m ||| 2 ^ j) n
  omega
theorem cb_0 : ∀ n, cb 0 n = 0
  | 0 => rfl
  | n + 1 => by
    unfold cb
    rw [cb_0 n]
    simp
theorem or_lt {m j n : Nat} (hm : m < 2 ^ n) (hj : j < n) : m ||| 2 ^ j < 2 ^ n := Nat.or_lt_two_pow hm (Nat.pow_lt_pow_right (by omega) hj)
theorem or_gt {m j : Nat} (h : m.testBit j = false) : m < m ||| 2 ^ j := by
  have h1 : m ≤ m ||| 2 ^ j := Nat.left_le_or
  have h2 : m ≠ m ||| 2 ^ j := by
    intro q
    have : (m ||| 2 ^ j).testBit j = true := by rw [or_bit]; simp
    rw [← q, h] at this
    cases this
  omega
