/-! what RIGHT is, by demands -/
def KL (s : NN) (d : Nat → Nat) : Prop := ∀ b t, BF s (fltV s) b t → d b * t ≤ lm s
def QQ (s : NN) (d : Nat → Nat) : Prop := Sol s d ∧ KL s d
def ND (s : NN) : Prop := (∀ k, 1 ≤ k → k < kn s → ∃ x, kpN s k = some x ∧ ∀ p f, fltV s k p f → ∃ t, tkA s x k p f = some t) ∧ ∀ b, 1 ≤ b → b < kn s → loS s b = false
theorem fnd_none {Q : Nat → Bool} : ∀ {m i : Nat}, fnd Q m i = none ↔ ∀ n, i ≤ n → n < i + m → Q n = false
  | 0, i => by simp [fnd]; intro n h1 h2; omega
  | m + 1, i => by
    cases hi : Q i with
    | true =>
      rw [fnd_y hi]
      refine ⟨fun q => (by cases q), fun q => ?_⟩
      rw [q i (by omega) (by omega)] at hi
      cases hi
    | false =>
      rw [fnd_s hi, fnd_none]
      refine ⟨fun q n h1 h2 => ?_, fun q n h1 h2 => q n (by omega) (by omega)⟩
      rcases Nat.eq_or_lt_of_le h1 with z | z
      · rw [← z]; exact hi
      · exact q n (by omega) (by omega)
theorem fsC_kp {s : NN} {k p f x t : Nat} (hw : tkA s x k p f = some t) : ∀ l : List Nat, l.find? (fun x => hs s x == 1) = some x → fsC s k p f l = some (x, t)
  | [], h => by cases h
  | y :: l, h => by
    rw [List.find?_cons] at h
    by_cases hy : hs s y = 1
    · rw [hy] at h
      simp at h
      subst h
      rw [tkA_c] at hw
      unfold fsC
      cases hc : cA s y k p f with
      | none => rw [hc] at hw; cases hw
      | some i => rw [hc] at hw; cases hw; rfl
    · have : (hs s y == 1) = false := by simp [hy]
      rw [this] at h
      have hn : cA s y k p f = none := by
        unfold cA
        rw [if_neg (fun q => hy q.1)]
      unfold fsC
      rw [hn]
      exact fsC_kp hw l h
theorem all34 {s : NN} {k : Nat} (hk1 : 1 ≤ k) (hk : k < kn s) {φ : Nat → Nat → Prop} : (∀ n, 0 ≤ n → n < 0 + 34 → φ (n / 2) (n % 2 * la s)) ↔ ∀ p f, fltV s k p f → φ p f := by
  constructor
  · rintro h p f ⟨-, -, hp, rfl | rfl⟩
    · have := h (2 * p) (by omega) (by omega)
      rw [show 2 * p / 2 = p by omega, show 2 * p % 2 = 0 by omega, Nat.zero_mul] at this
      exact this
    · have := h (2 * p + 1) (by omega) (by omega)
      rw [show (2 * p + 1) / 2 = p by omega, show (2 * p + 1) % 2 = 1 by omega, Nat.one_mul] at this
      exact this
  · intro h n _ hn
    refine h _ _ ⟨hk1, hk, by omega, ?_⟩
    have : n % 2 = 0 ∨ n % 2 = 1 := by omega
    rcases this with q | q
    · left; rw [q, Nat.zero_mul]
    · right; rw [q, Nat.one_mul]
theorem lrN_iff {s : NN} {k : Nat} (hk1 : 1 ≤ k) (hk : k < kn s) : lrN s k = none ↔ ∃ x, kpN s k = some x ∧ (∀ p f, fltV s k p f → ∃ t, tkA s x k p f = some t) ∧ (∀ p f, fltV s k p f → tsN s k p f = none) ∧ ∀ p f, fltV s k p f → ∀ t, tkA s x k p f = some t → dl s x * t ≤ lm s := by
  unfold lrN
  cases hx : kpN s k with
  | none =>
    simp
  | some x =>
    have eu : fnd (unS s k x) 34 0 = none ↔ ∀ p f, fltV s k p f → ∃ t, tkA s x k p f = some t := by
      rw [fnd_none, ← all34 hk1 hk]
      have : ∀ n, unS s k x n = false ↔ ∃ t, tkA s x k (n / 2) (n % 2 * la s) = some t := by
        intro n
        unfold unS
        rw [wtA_tk]
        cases tkA s x k (n / 2) (n % 2 * la s) <;> simp
      simp only [this]
    have eo : fnd (ooS s k x) 34 0 = none ↔ ∀ p f, fltV s k p f → tsN s k p f = none ∧ ∀ t, tkA s x k p f = some t → dl s x * t ≤ lm s := by
      rw [fnd_none, ← all34 hk1 hk]
      have : ∀ n, ooS s k x n = false ↔ (tsN s k (n / 2) (n % 2 * la s) = none ∧ ∀ t, tkA s x k (n / 2) (n % 2 * la s) = some t → dl s x * t ≤ lm s) := by
        intro n
        unfold ooS
        rw [wtA_tk, Bool.or_eq_false_iff]
        cases tsN s k (n / 2) (n % 2 * la s) with
        | some z => simp
        | none =>
          cases tkA s x k (n / 2) (n % 2 * la s) with
          | none => simp [abL]
          | some t => simp [abL]
      simp only [this]
    constructor
    · intro h
      cases hu : fnd (unS s k x) 34 0 with
      | some n => simp only [hu] at h; cases h
      | none =>
        simp only [hu] at h
        cases ho : fnd (ooS s k x) 34 0 with
        | some n => simp only [ho] at h; cases h
        | none =>
          have ho := eo.mp ho
          exact ⟨x, rfl, eu.mp hu, fun p f hv => (ho p f hv).1, fun p f hv => (ho p f hv).2⟩
    · rintro ⟨y, hy, h1, h2, h3⟩
      cases hy
      have hu := eu.mpr h1
      have ho := eo.mpr fun p f hv => ⟨h2 p f hv, h3 p f hv⟩
      simp only [hu, ho]
theorem rtA_iff {s : NN} : ∀ {m k : Nat}, rtA s m k = none ↔ ∀ n, k ≤ n → n < k + m → lrN s n = none
  | 0, k => by simp [rtA]; intro n h1 h2; omega
  | m + 1, k => by
    rw [rtA]
    cases hk : lrN s k with
    | some q =>
      refine ⟨fun q => (by cases q), fun q => ?_⟩
      rw [q k (by omega) (by omega)] at hk
      cases hk
    | none =>
      show rtA s m (k + 1) = none ↔ _
      rw [rtA_iff]
      refine ⟨fun q n h1 h2 => ?_, fun q n h1 h2 => q n (by omega) (by omega)⟩
      rcases Nat.eq_or_lt_of_le h1 with z | z
      · rw [← z]; exact hk
      · exact q n (by omega) (by omega)
theorem rtB_iff {s : NN} : ∀ {m k : Nat}, rtB s m k = none ↔ ∀ n, k ≤ n → n < k + m → loS s n = false
  | 0, k => by simp [rtB]; intro n h1 h2; omega
  | m + 1, k => by
    rw [rtB]
    cases hk : loS s k with
    | true =>
      rw [if_pos rfl]
      refine ⟨fun q => (by cases q), fun q => ?_⟩
      rw [q k (by omega) (by omega)] at hk
      cases hk
    | false =>
      rw [if_neg (by decide), rtB_iff]
      refine ⟨fun q n h1 h2 => ?_, fun q n h1 h2 => q n (by omega) (by omega)⟩
      rcases Nat.eq_or_lt_of_le h1 with z | z
      · rw [← z]; exact hk
      · exact q n (by omega) (by omega)
theorem rtN_iff {s : NN} (hk1 : 1 ≤ kn s) : rtN s = none ↔ ND s ∧ QQ s (dl s) := by
  have e : rtN s = none ↔ rtA s (kn s - 1) 1 = none ∧ rtB s (kn s - 1) 1 = none := by
    unfold rtN
    cases rtA s (kn s - 1) 1 with
    | some q => simp
    | none => simp
  rw [e, rtA_iff, rtB_iff]
  constructor
  · rintro ⟨h1, h2⟩
    have h1 : ∀ k, 1 ≤ k → k < kn s → _ := fun k a b => (lrN_iff a b).mp (h1 k a (by omega))
    refine ⟨⟨fun k a b => ?_, fun b a c => h2 b a (by omega)⟩, tsN_Sol.mp fun k p f hv => ?_, ?_⟩
    · obtain ⟨x, hx, hs, -⟩ := h1 k a b
      exact ⟨x, hx, hs⟩
    · obtain ⟨x, hx, -, ht, -⟩ := h1 k hv.1 hv.2.1
      exact ht p f hv
    · rintro b t ⟨k, p, f, hv, hf⟩
      obtain ⟨x, hx, hs, -, hl⟩ := h1 k hv.1 hv.2.1
      obtain ⟨t', ht'⟩ := hs p f hv
      rw [fsC_kp ht' _ hx] at hf
      cases hf
      exact hl p f hv _ ht'
  · rintro ⟨⟨h1, h2⟩, hS, hK⟩
    refine ⟨fun k a b => (lrN_iff a (by omega)).mpr ?_, fun b a c => h2 b a (by omega)⟩
    obtain ⟨x, hx, hs⟩ := h1 k a (by omega)
    exact ⟨x, hx, hs, fun p f hv => tsN_Sol.mpr hS k p f hv, fun p f hv t ht => hK x t ⟨k, p, f, hv, fsC_kp ht _ hx⟩⟩
theorem dS_cA {s : NN} {d : Nat → Nat} {x k p f : Nat} : cA (dS s d) x k p f = cA s x k p f := by
  unfold cA
  simp only [dS_hs, dS_way, dS_crn, dS_sm, dS_fo]
theorem dS_fsC {s : NN} {d : Nat → Nat} {k p f : Nat} : ∀ l : List Nat, fsC (dS s d) k p f l = fsC s k p f l
  | [] => rfl
  | x :: t => by
    unfold fsC
    rw [dS_cA]
    cases cA s x k p f with
    | none => exact dS_fsC t
    | some i => simp only [dS_tk', dS_cu]
theorem dS_KL {s : NN} {d d' : Nat → Nat} : KL (dS s d) d' ↔ KL s d' := by
  unfold KL BF
  simp only [dS_flt, dS_fsC, dS_way, dS_lm]
theorem dS_QQ {s : NN} {d d' : Nat → Nat} : QQ (dS s d) d' ↔ QQ s d' := by
  unfold QQ
  rw [dS_KL, Sol_dS]
theorem dS_lo {s : NN} {d : Nat → Nat} {b : Nat} : loS (dS s d) b = loS s b := by
  unfold loS wtB
  rw [dS_hs, dS_kn, dS_ldS, dS_crn]
  cases crn s b (ldS s b (kn s)) 1 <;> rfl
theorem dS_ND {s : NN} {d : Nat → Nat} : ND (dS s d) ↔ ND s := by
  unfold ND
  simp only [dS_kn, dS_kp, dS_flt, dS_tkA, dS_lo]
theorem RR_iff {s : NN} (hk1 : 1 ≤ kn s) (h0 : rtN s = none) {m : Nat} : RR s m ↔ QQ s (dM s m) := by
  unfold RR
  rw [rtN_iff (by rw [dS_kn]; exact hk1), dS_ND, dS_QQ]
  have e : dl (dS s (dM s m)) = dM s m := by funext x; exact dS_dl x
  rw [e]
  exact ⟨fun q => q.2, fun q => ⟨((rtN_iff hk1).mp h0).1, q⟩⟩
theorem dM_or {s : NN} {m j : Nat} (hj : j < on s) : dM s (m ||| 2 ^ j) = fun x => if x = oj s j then go s x else dM s m x := by
  funext x
  by_cases h : x = oj s j
  · rw [if_pos h, h, dM_oj hj, or_bit]
    simp
  · rw [if_neg h]
    unfold dM
    have : tkn s (m ||| 2 ^ j) x = tkn s m x := by
      rw [Bool.eq_iff_iff, tkn_iff, tkn_iff]
      constructor
      · rintro ⟨i, h1, h2, h3⟩
        rw [or_bit, Bool.or_eq_true, decide_eq_true_iff] at h3
        rcases h3 with h3 | h3
        · exact ⟨i, h1, h2, h3⟩
        · subst h3; exact absurd h2.symm h
      · rintro ⟨i, h1, h2, h3⟩
        exact ⟨i, h1, h2, by rw [or_bit, h3]; rfl⟩
    rw [this]
/-- all around b is met -/
def Arnd (s : NN) (d : Nat → Nat) (b : Nat) : Prop := (∀ t, BF s (fltV s) b t → d b * t ≤ lm s) ∧ ∀ u tu l tl, Pr s u tu l tl → (u = b ∨ l = b) → d l * tl + mg s ≤ d u * tu
theorem Arnd_Q {s : NN} {m j : Nat} (hj : j < on s) (h : QQ s (dM s m)) : Arnd s (dM s (m ||| 2 ^ j)) (oj s j) ↔ QQ s (dM s (m ||| 2 ^ j)) := by
  have e : ∀ x, x ≠ oj s j → dM s (m ||| 2 ^ j) x = dM s m x := fun x hx => by rw [dM_or hj]; exact if_neg hx
  constructor
  · rintro ⟨h1, h2⟩
    refine ⟨fun u tu l tl hP => ?_, fun b t hB => ?_⟩
    · by_cases hu : u = oj s j
      · exact h2 u tu l tl hP (Or.inl hu)
      · by_cases hl : l = oj s j
        · exact h2 u tu l tl hP (Or.inr hl)
        · rw [e u hu, e l hl]
          exact h.1 u tu l tl hP
    · by_cases hb : b = oj s j
      · subst hb; exact h1 t hB
      · rw [e b hb]
        exact h.2 b t hB
  · rintro ⟨h1, h2⟩
    exact ⟨fun t hB => h2 _ t hB, fun u tu l tl hP _ => h1 u tu l tl hP⟩
/-! the exchange -/
theorem QQ_ex {s : NN} {A M j : Nat} (hj : j < on s) (hA : QQ s (dM s A)) (hAj : QQ s (dM s (A ||| 2 ^ j))) (hM : QQ s (dM s M)) (hal : QQ s (dM s (al s))) (hsub : ∀ i, A.testBit i = true → M.testBit i = true) : QQ s (dM s (M ||| 2 ^ j)) := by
  have eM : ∀ x, x ≠ oj s j → dM s (M ||| 2 ^ j) x = dM s M x := fun x hx => by rw [dM_or hj]; exact if_neg hx
  have eA : ∀ x, x ≠ oj s j → dM s (A ||| 2 ^ j) x = dM s A x := fun x hx => by rw [dM_or hj]; exact if_neg hx
  have eMj : dM s (M ||| 2 ^ j) (oj s j) = go s (oj s j) := by rw [dM_or hj]; exact if_pos rfl
  have eAj : dM s (A ||| 2 ^ j) (oj s j) = go s (oj s j) := by rw [dM_or hj]; exact if_pos rfl
  have ealj : dM s (al s) (oj s j) = go s (oj s j) := by rw [dM_oj hj, al_bit hj]; rfl
  have same : ∀ x, dM s M x = dM s A x ∨ dM s M x = dM s (al s) x := by
    intro x
    unfold dM
    cases h1 : tkn s A x with
    | true =>
      left
      have : tkn s M x = true := by
        obtain ⟨i, a, b, c⟩ := tkn_iff.mp h1
        exact tkn_iff.mpr ⟨i, a, b, hsub i c⟩
      rw [this]
    | false =>
      cases h2 : tkn s M x with
      | false => left; rfl
      | true =>
        right
        have : tkn s (al s) x = true := by
          obtain ⟨i, a, b, c⟩ := tkn_iff.mp h2
          exact tkn_iff.mpr ⟨i, a, b, al_bit a⟩
        rw [this]
  refine ⟨fun u tu l tl hP => ?_, fun b t hB => ?_⟩
  · by_cases hu : u = oj s j
    · by_cases hl : l = oj s j
      · rw [hu, hl, eMj]
        have := hAj.1 u tu l tl hP
        rw [hu, hl, eAj] at this
        exact this
      · rw [eM l hl, hu, eMj]
        rcases same l with q | q
        · have := hAj.1 u tu l tl hP
          rw [eA l hl, hu, eAj] at this
          rw [q]
          exact this
        · have := hal.1 u tu l tl hP
          rw [hu, ealj] at this
          rw [q]
          exact this
    · by_cases hl : l = oj s j
      · rw [eM u hu, hl, eMj]
        rcases same u with q | q
        · have := hAj.1 u tu l tl hP
          rw [eA u hu, hl, eAj] at this
          rw [q]
          exact this
        · have := hal.1 u tu l tl hP
          rw [hl, ealj] at this
          rw [q]
          exact this
      · rw [eM u hu, eM l hl]
        exact hM.1 u tu l tl hP
  · by_cases hb : b = oj s j
    · rw [hb, eMj]
      have := hAj.2 b t hB
      rw [hb, eAj] at this
      exact this
    · rw [eM b hb]
      exact hM.2 b t hB
theorem pth_al {s : NN} : ∀ {js : List Nat} {m : Nat}, pth s m js → RR s (al s)
  | [], m, h => by have := h.1; subst this; exact h.2
  | j :: t, m, h => pth_al h.2.2.2
theorem or_id {m j : Nat} (h : m.testBit j = true) : m ||| 2 ^ j = m := by
  apply Nat.eq_of_testBit_eq
  intro i
  rw [or_bit]
  by_cases q : j = i
  · subst q; rw [h]; rfl
  · simp [q]
theorem or_or {m i j : Nat} : (m ||| 2 ^ i) ||| 2 ^ j = (m ||| 2 ^ j) ||| 2 ^ i := by
  apply Nat.eq_of_testBit_eq
  intro k
  rw [or_bit, or_bit, or_bit, or_bit, Bool.or_assoc, Bool.or_assoc, Bool.or_comm (decide (i = k))]
theorem can_ex {s : NN} (hk1 : 1 ≤ kn s) (h0 : rtN s = none) {A j : Nat} (hj : j < on s) (hA : QQ s (dM s A)) (hAj : QQ s (dM s (A ||| 2 ^ j))) (hal : QQ s (dM s (al s))) : ∀ {js : List Nat} {M : Nat}, pth s M js → (∀ i, A.testBit i = true → M.testBit i = true) → can s (M ||| 2 ^ j)
  | js, M, h, hsub => by
    cases hb : M.testBit j with
    | true =>
      rw [or_id hb]
      exact ⟨js, h⟩
    | false =>
      cases js with
      | nil =>
        have : M = al s := h.1
        rw [this, al_bit hj] at hb
        cases hb
      | cons i t =>
        obtain ⟨h1, h2, h3, h4⟩ := h
        by_cases q : i = j
        · subst q; exact ⟨t, h4⟩
        · have hQ := QQ_ex hj hA hAj ((RR_iff hk1 h0).mp h1) hal hsub
          have ih := can_ex hk1 h0 hj hA hAj hal (js := t) h4 (fun n hn => by rw [or_bit, hsub n hn]; rfl)
          rw [or_or] at ih
          refine can_iff.mpr ⟨(RR_iff hk1 h0).mpr hQ, Or.inr ⟨i, h2, ?_, ih⟩⟩
          rw [or_bit, h3]
          simp [Ne.symm q]
termination_by js => js.length
theorem can_ex0 {s : NN} (hk1 : 1 ≤ kn s) (h0 : rtN s = none) {m j : Nat} (hj : j < on s) (hc : can s m) (hQ : QQ s (dM s (m ||| 2 ^ j))) : can s (m ||| 2 ^ j) := by
  obtain ⟨js, h⟩ := hc
  have hm : QQ s (dM s m) := (RR_iff hk1 h0).mp (can_iff.mp ⟨js, h⟩).1
  exact can_ex hk1 h0 hj hm hQ ((RR_iff hk1 h0).mp (pth_al h)) h (fun i hi => hi)
theorem cb_full {m n : Nat} (h : cb m n = n) (hm : m < 2 ^ n) : m = 2 ^ n - 1 := by
  apply Nat.eq_of_testBit_eq
  intro i
  rw [Nat.testBit_two_pow_sub_one]
  rcases Nat.lt_or_ge i n with q | q
  · rw [decide_eq_true q]
    cases hb : m.testBit i with
    | true => rfl
    | false => have := cb_lt hb q; omega
  · rw [decide_eq_false (by omega)]
    exact Nat.testBit_lt_two_pow (Nat.lt_of_lt_of_le hm (Nat.pow_le_pow_right (by omega) q))
