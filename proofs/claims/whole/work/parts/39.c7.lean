/-- n, n - 1 .. 1 -/
def dn : Nat → List Nat
  | 0 => []
  | n + 1 => (n + 1) :: dn n
theorem dn_m {x : Nat} : ∀ {n : Nat}, x ∈ dn n ↔ 1 ≤ x ∧ x ≤ n
  | 0 => by simp [dn]; omega
  | n + 1 => by
    rw [dn, List.mem_cons, dn_m]
    omega
theorem dn_desc : ∀ n, (dn n).Pairwise (fun a b => b < a)
  | 0 => List.Pairwise.nil
  | n + 1 => List.Pairwise.cons (fun b hb => by have := dn_m.mp hb; omega) (dn_desc n)
theorem desc_ext : ∀ {a b : List Nat}, a.Pairwise (fun a b => b < a) → b.Pairwise (fun a b => b < a) → (∀ x, x ∈ a ↔ x ∈ b) → a = b
  | [], [], _, _, _ => rfl
  | [], y :: b, _, _, h => by have := (h y).mpr List.mem_cons_self; cases this
  | x :: a, [], _, _, h => by have := (h x).mp List.mem_cons_self; cases this
  | x :: a, y :: b, ha, hb, h => by
    obtain ⟨ha1, ha2⟩ := List.pairwise_cons.mp ha
    obtain ⟨hb1, hb2⟩ := List.pairwise_cons.mp hb
    have e : x = y := by
      rcases List.mem_cons.mp ((h x).mp List.mem_cons_self) with q | q
      · exact q
      · rcases List.mem_cons.mp ((h y).mpr List.mem_cons_self) with r | r
        · exact r.symm
        · have := ha1 _ r
          have := hb1 _ q
          omega
    subst e
    rw [desc_ext ha2 hb2 fun z => ?_]
    constructor
    · intro hz
      rcases List.mem_cons.mp ((h z).mp (List.mem_cons_of_mem _ hz)) with q | q
      · have := ha1 _ hz; omega
      · exact q
    · intro hz
      rcases List.mem_cons.mp ((h z).mpr (List.mem_cons_of_mem _ hz)) with q | q
      · have := hb1 _ hz; omega
      · exact q
theorem way_dn {s : NN} (k : Nat) : (dn k).filter (fun x => decide (x ∈ way s k)) = way s k := by
  refine desc_ext ((dn_desc k).filter _) (way_desc k) fun x => ?_
  rw [List.mem_filter, dn_m, decide_eq_true_iff]
  exact ⟨fun h => h.2, fun h => ⟨way_le h, h⟩⟩
theorem wtA_out {s : NN} {x k p f : Nat} (h : ¬ x ∈ way s k) : wtA s x k p f = none := by
  unfold wtA
  rw [if_neg (fun q => h q.2)]
/-- as isOutOfOrder goes -/
def ooL (s : NN) (k p f : Nat) : List Nat → Option Nat → Bool
  | [], _ => false
  | x :: t, b => match wtA s x k p f with
    | none => ooL s k p f t b
    | some w => match b with
      | none => if lm s < w then true else ooL s k p f t (some w)
      | some bw => if w < bw + mg s then true else ooL s k p f t (some w)
theorem ooL_fi {s : NN} {k p f : Nat} : ∀ (l : List Nat) (b : Option Nat), ooL s k p f (l.filter (fun x => decide (x ∈ way s k))) b = ooL s k p f l b
  | [], _ => rfl
  | x :: t, b => by
    rw [List.filter_cons]
    by_cases h : x ∈ way s k
    · rw [if_pos (decide_eq_true h)]
      unfold ooL
      cases wtA s x k p f with
      | none => exact ooL_fi t b
      | some w => cases b with
        | none => simp only [ooL_fi t]
        | some bw => simp only [ooL_fi t]
    · rw [if_neg (by simpa using h), ooL_fi t b]
      conv => rhs; unfold ooL
      rw [wtA_out h]
theorem ooL_dn {s : NN} {k p f : Nat} {b : Option Nat} : ooL s k p f (dn k) b = ooL s k p f (way s k) b := by
  rw [← ooL_fi (dn k) b, way_dn]
theorem ooL_ts {s : NN} {k p f : Nat} : ∀ (l : List Nat) (b : Nat), ooL s k p f l (some b) = (tsL s k p f l (some b)).isSome
  | [], _ => rfl
  | x :: t, b => by
    unfold ooL tsL
    cases wtA s x k p f with
    | none => exact ooL_ts t b
    | some w =>
      simp only
      split
      · rfl
      · exact ooL_ts t w
theorem ooL_kp {s : NN} {k p f x w : Nat} (hw : wtA s x k p f = some w) : ∀ l : List Nat, l.find? (fun x => hs s x == 1) = some x → ooL s k p f l none = ((tsL s k p f l none).isSome || decide (lm s < w))
  | [], h => by cases h
  | y :: t, h => by
    rw [List.find?_cons] at h
    by_cases hy : hs s y = 1
    · rw [hy] at h
      simp at h
      subst h
      unfold ooL tsL
      rw [hw]
      simp only
      rw [ooL_ts]
      by_cases hl : lm s < w
      · simp [hl]
      · simp [hl]
    · have : (hs s y == 1) = false := by simp [hy]
      rw [this] at h
      have hn : wtA s y k p f = none := by
        unfold wtA
        rw [if_neg (fun q => hy q.1)]
      unfold ooL tsL
      rw [hn]
      exact ooL_kp hw t h
/-- what the judge keeps -/
def nt (G : GG) (a b c d : Int32) : GG := gU (gU (gU (gU G 14 3 a) 14 4 b) 14 5 c) 14 6 d
def ntQ (G : GG) (o : RW) : GG := nt G (q24 o) (q25 o) (q26 o) (q27 o)
theorem nt_nt {G : GG} {a b c d a' b' c' d' : Int32} : nt (nt G a b c d) a' b' c' d' = nt G a' b' c' d' := by
  funext q j
  unfold nt
  simp only [gU_at]
  by_cases h : q = 14
  · subst h
    by_cases h3 : j = 3 <;> by_cases h4 : j = 4 <;> by_cases h5 : j = 5 <;> by_cases h6 : j = 6 <;> simp [h3, h4, h5, h6] <;> omega
  · simp [h]
theorem nt_C {G : GG} {a b c d : Int32} : sC G (nt G a b c d) := (((sC.rf.u (by omega)).u (by omega)).u (by omega)).u (by omega)
theorem nt_p {G : GG} {a b c d : Int32} {p : Nat} (h : p ≠ 14) : nt G a b c d p = G p := by unfold nt; rw [gU_n h, gU_n h, gU_n h, gU_n h]
theorem nt_3 {G : GG} {a b c d : Int32} : nt G a b c d 14 3 = a := by unfold nt; rw [gU_k (by omega), gU_k (by omega), gU_k (by omega), gU_s]
theorem nt_4 {G : GG} {a b c d : Int32} : nt G a b c d 14 4 = b := by unfold nt; rw [gU_k (by omega), gU_k (by omega), gU_s]
theorem nt_5 {G : GG} {a b c d : Int32} : nt G a b c d 14 5 = c := by unfold nt; rw [gU_k (by omega), gU_s]
theorem nt_6 {G : GG} {a b c d : Int32} : nt G a b c d 14 6 = d := by unfold nt; rw [gU_s]
theorem fnd_s {Q : Nat → Bool} {m i : Nat} (h : Q i = false) : fnd Q (m + 1) i = fnd Q m (i + 1) := by rw [fnd, if_neg (by rw [h]; decide)]
theorem fnd_y {Q : Nat → Bool} {m i : Nat} (h : Q i = true) : fnd Q (m + 1) i = some i := by rw [fnd, if_pos h]
section C7
variable {s : NN} {G : GG} {P : Int32 → GG → Prop} {PV : GG → Prop}
theorem c2_note {a b c d : Int32} (h : PV (nt G a b c d)) : CTv kX2_note [.ref 14, .int a, .int b, .int c, .int d] G PV := vX2_note _ _ _ _ _ G ⟨rfl, h⟩
theorem kpN_30 (hW : WFn s) {k x : Nat} (hk : k < kn s) (h : kpN s k = some x) : 1 ≤ x ∧ x ≤ k ∧ x < 30 := by
  have h1 := way_le (kpN_m h).1
  have := hW.2.1
  omega
theorem c2_isUnseen {k p f x : Nat} (hC : CS s G) (hW : WF3 s) (hk1 : 1 ≤ k) (hk : k < kn s) (hp : p ≤ 16) (hf : f ≤ 1000) (hx : kpN s k = some x) (h : P (bI (wtA s x k p f).isNone) G) : CTi kX2_isUnseen [.ref 14, .int (nI k), .long (lN (smN s k p f))] G P := by
  have hkn := hW.1.2.1
  have hsm := smN_le hW.1 hk1 hk hp hf
  have hfo := hW.1.2.2.2.1
  refine vX2_isUnseen _ _ _ G ⟨vp_in_nI (by omega) (by omega), c5_lastOf hC hW.1 hW.2.2 fun L hL => ?_⟩
  rw [nI_c (by omega)] at hL
  have hkp := top_kp hW.1 hk (hC.1.2.2.2.2.2.2.1 k hk) hL
  rw [hx] at hkp
  have hLx : L = x := by
    split at hkp
    · cases hkp
    · cases hkp; rfl
  subst hLx
  have hm := kpN_m hx
  have h30 := kpN_30 hW.1 hk hx
  refine c3_six hC hW.1 (c5_cr hC hW (by omega) (by omega) (by omega) ?_)
  rw [if_pos hm.2]
  have e : wtA s L k p f = (crn s L (16 * fo s) (smN s k p f)).map fun j => dl s L * tk s (cu s L) j := by
    unfold wtA
    rw [if_pos ⟨hm.2, hm.1⟩]
    rfl
  rw [e] at h
  have hcl : ∀ w, crn s L (16 * fo s) (smN s k p f) = some w → w < 2 ^ 31 := fun w hw => by
    have h1 := crn_lt hw
    have h2 := (hW.2.1 (cu s L) (hW.2.2.1 L).2.2.1).1
    omega
  rw [oI_m1 hcl]
  cases hc : crn s L (16 * fo s) (smN s k p f) with
  | none =>
    rw [hc] at h
    exact ⟨fun q => absurd rfl q, fun _ => ⟨_, rfl, h⟩⟩
  | some j =>
    rw [hc] at h
    exact ⟨fun _ => ⟨_, rfl, h⟩, fun q => by cases q⟩
theorem c2_isOut {k p f : Nat} (hC : CS s G) (hW : WF s) (hk1 : 1 ≤ k) (hk : k < kn s) (hp : p ≤ 16) (hf : f ≤ 1000) (h : P (bI (ooL s k p f (way s k) none)) G) : CTi kX2_isOutOfOrder [.ref 14, .int (nI k), .long (lN (smN s k p f))] G P := by
  have hkn := hW.n.2.1
  have hsm := smN_le hW.n hk1 hk hp hf
  have hfo := hW.n.2.2.2.1
  have hmg := hW.2.2.2.2.1
  have hlm := hW.2.2.2.2.2.2.1
  rw [← ooL_dn] at h
  refine vX2_isOutOfOrder _ _ _ G ⟨vp_in_nI (by omega) (by omega), ?_⟩
  rw [nI_c (by omega)]
  have key : ∀ b : Nat, b ≤ k → ∀ o : Option Nat, (∀ t, o = some t → t ≤ 40000) → P (bI (ooL s k p f (dn b) o)) G → zJ kX2_isOutOfOrder (fun r G' => ∃ x, r = some (.int x) ∧ P x G') 17 [(0, .ref 14), (2, .long (lN (smN s k p f))), (4, .int (G 5 k)), (5, .int (oI o)), (6, .int (nI b))] [] G := by
    intro b
    induction b with
    | zero =>
      intro _ o _ h
      exact vX2_isOutOfOrder_17 _ _ _ _ _ G ⟨fun _ => ⟨_, rfl, h⟩, fun q => absurd (by decide) q⟩
    | succ b ih =>
      intro hb o ho h
      have hwl : ∀ w, wtA s (b + 1) k p f = some w → w ≤ 40000 := fun w hw => wtA_le hW.c hW.b hw
      rw [dn, ooL] at h
      have st54 : zJ kX2_isOutOfOrder (fun r G' => ∃ x, r = some (.int x) ∧ P x G') 54 [(0, .ref 14), (2, .long (lN (smN s k p f))), (4, .int (G 5 k)), (5, .int (oI o)), (6, .int (nI (b + 1)))] [.int (oI (wtA s (b + 1) k p f))] G := by
        refine vX2_isOutOfOrder_54 _ _ _ _ _ _ G ?_
        rw [pk_m1, oI_m1 (fun w hw => by have := hwl w hw; omega), oI_m1 (fun w hw => by have := ho w hw; omega), hC.2.2.2.1, hC.2.2.2.2.1]
        refine ⟨fun h1 => ?_, fun h1 => ?_⟩
        · rw [h1] at h
          exact ih (by omega) o ho h
        · obtain ⟨w, hw⟩ := Option.ne_none_iff_exists'.mp h1
          have hw4 := hwl w hw
          rw [hw] at h ⊢
          refine ⟨fun h2 => ?_, fun h2 => ?_⟩
          · obtain ⟨t, ht⟩ := Option.ne_none_iff_exists'.mp h2
            have ht4 := ho t ht
            subst ht
            show (nI t + nI (mg s) ≤ nI w → _) ∧ (¬ nI t + nI (mg s) ≤ nI w → _)
            rw [nI_add, nI_leI (by omega) (by omega)]
            simp only at h
            refine ⟨fun h3 => ih (by omega) (some w) (fun u hu => by cases hu; exact hw4) ?_, fun h3 => ⟨_, rfl, ?_⟩⟩
            · rw [if_neg (by omega)] at h; exact h
            · rw [if_pos (by omega)] at h; exact h
          · subst h2
            show (nI w ≤ nI (lm s) → _) ∧ (¬ nI w ≤ nI (lm s) → _)
            rw [nI_leI (by omega) (by omega)]
            simp only at h
            refine ⟨fun h3 => ih (by omega) (some w) (fun u hu => by cases hu; exact hw4) ?_, fun h3 => ⟨_, rfl, ?_⟩⟩
            · rw [if_neg (by omega)] at h; exact h
            · rw [if_pos (by omega)] at h; exact h
      refine vX2_isOutOfOrder_17 _ _ _ _ _ G ⟨fun h1 => ?_, fun _ => c7_holdsN (by omega) ?_⟩
      · rw [show (1 : Int32) = nI 1 from rfl, nI_ltI (by omega) (by omega)] at h1
        omega
      · rw [hC.1.2.2.2.2.2.2.1 k hk]
        refine bI_br (fun h1 => ?_) (fun h1 => c3_six hC hW.n (c5_wait hC hW.w (by omega) (by omega) (by omega) ?_))
        · rw [wtA_out h1] at st54; exact st54
        · have e : wtA s (b + 1) k p f = (if hs s (b + 1) = 1 then wtB s (b + 1) (16 * fo s) (smN s k p f) else none) := by
            unfold wtA
            by_cases q : hs s (b + 1) = 1
            · rw [if_pos ⟨q, h1⟩, if_pos q]
            · rw [if_neg (fun z => q z.1), if_neg q]
          rw [← e]
          exact st54
  exact key k (Nat.le_refl k) none (fun t ht => by cases ht) h
theorem c2_faults {k w : Nat} {φ : Nat → Nat → Bool} (hC : CS s G) (hW : WF s) (hk1 : 1 ≤ k) (hk : k < kn s) (hw : w = 2 ∨ w = 3)
    (hφ : ∀ p f, p ≤ 16 → f ≤ 1000 → (f = 0 ∨ f = la s) → ∀ Q : Int32 → GG → Prop, Q (bI (φ p f)) G → (w = 2 → CTi kX2_isUnseen [.ref 14, .int (nI k), .long (lN (smN s k p f))] G Q) ∧ (w = 3 → CTi kX2_isOutOfOrder [.ref 14, .int (nI k), .long (lN (smN s k p f))] G Q))
    (hn : fnd (fun n => φ (n / 2) (n % 2 * la s)) 34 0 = none → PV G) (hy : ∀ n, fnd (fun n => φ (n / 2) (n % 2 * la s)) 34 0 = some n → n < 34 → PV (nt G (nI w) (nI k) (nI (n / 2)) (nI (n % 2 * la s)))) : CTv kX2_lookAtFaults [.ref 14, .int (nI k), .int (nI w)] G PV := by
  have hla := hW.2.2.2.2.2.2.2.1
  refine vX2_lookAtFaults _ _ _ G ?_
  obtain ⟨ψ, eψ⟩ : ∃ ψ : Nat → Bool, ψ = fun n => φ (n / 2) (n % 2 * la s) := ⟨_, rfl⟩
  rw [← eψ] at hn hy
  have key : ∀ m p j : Nat, (17 - p) * 4 + (2 - j) ≤ m → p ≤ 16 → j ≤ 2 → (j = 1 → ψ (2 * p) = false) → fnd ψ (34 - (2 * p + j)) (2 * p + j) = fnd ψ 34 0 → zJ kX2_lookAtFaults (fun r G' => r = none ∧ PV G') 11 [(0, .ref 14), (1, .int (nI k)), (2, .int (nI w)), (3, .int (nI p)), (4, .int (nI j))] [] G := by
    intro m
    induction m with
    | zero => intro p j hm; omega
    | succ m ih =>
      intro p j hm hp hj hpr he
      refine vX2_lookAtFaults_11 _ _ _ _ _ G (c6_many hC hla ?_)
      rw [nI_leI (by split <;> omega) (by omega)]
      refine ⟨fun h1 => ?_, fun h1 => c6_asked hC (by split at h1 <;> omega) ?_⟩
      · have he2 : fnd ψ (34 - 2 * (p + 1)) (2 * (p + 1)) = fnd ψ 34 0 := by
          by_cases hj2 : j = 2
          · rw [hj2] at he
            rw [← he, show 2 * p + 2 = 2 * (p + 1) by omega]
          · have h0 : la s = 0 := by
              apply Decidable.byContradiction
              intro q
              rw [if_neg q] at h1
              omega
            rw [if_pos h0] at h1
            have hj1 : j = 1 := by omega
            rw [hj1] at he
            have e1 : ψ (2 * p + 1) = false := by
              rw [← hpr hj1, eψ]
              show φ ((2 * p + 1) / 2) ((2 * p + 1) % 2 * la s) = φ ((2 * p) / 2) ((2 * p) % 2 * la s)
              rw [h0, Nat.mul_zero, Nat.mul_zero, show (2 * p + 1) / 2 = p by omega, show (2 * p) / 2 = p by omega]
            rw [← he, show 34 - (2 * p + 1) = (34 - 2 * (p + 1)) + 1 by omega, fnd_s e1]
            rfl
        rw [nI_1]
        refine vX2_lookAtFaults_2 _ _ _ _ G ?_
        rw [show (16 : Int32) = nI 16 from rfl, nI_ltI (by omega) (by omega)]
        refine ⟨fun h2 => ⟨rfl, hn ?_⟩, fun h2 => ih (p + 1) 0 (by omega) (by omega) (by omega) (fun q => by omega) ?_⟩
        · rw [← he2, show 34 - 2 * (p + 1) = 0 by omega]; rfl
        · exact he2
      · have hj2 : j < 2 := by split at h1 <;> omega
        have hfl : j % 2 * la s = 0 ∨ j % 2 * la s = la s := by
          have : j = 0 ∨ j = 1 := by omega
          rcases this with rfl | rfl
          · left; rw [Nat.zero_mod, Nat.zero_mul]
          · right; rw [show 1 % 2 = 1 from rfl, Nat.one_mul]
        have hf1000 : j % 2 * la s ≤ 1000 := by rcases hfl with q | q <;> omega
        have eψj : ψ (2 * p + j) = φ p (j % 2 * la s) := by
          rw [eψ]
          show φ ((2 * p + j) / 2) ((2 * p + j) % 2 * la s) = _
          rw [show (2 * p + j) / 2 = p by omega, show (2 * p + j) % 2 = j % 2 by omega]
        refine c3_sumOf hC hW.n hk1 hk hp hf1000 ?_
        rw [show (34 - (2 * p + j)) = (34 - (2 * p + j) - 1) + 1 by omega] at he
        have no : φ p (j % 2 * la s) = false → zJ kX2_lookAtFaults (fun r G' => r = none ∧ PV G') 11 [(0, .ref 14), (1, .int (nI k)), (2, .int (nI w)), (3, .int (nI p)), (4, .int (nI j + 1))] [] G := by
          intro q
          rw [← eψj] at q
          rw [fnd_s q] at he
          rw [nI_1]
          refine ih p (j + 1) (by omega) hp (by omega) (fun z => ?_) (by rw [show 34 - (2 * p + (j + 1)) = 34 - (2 * p + j) - 1 by omega]; exact he)
          have : j = 0 := by omega
          rw [this] at q
          exact q
        have yes : φ p (j % 2 * la s) = true → zJ kX2_lookAtFaults (fun r G' => r = none ∧ PV G') 71 [(0, .ref 14), (1, .int (nI k)), (2, .int (nI w)), (3, .int (nI p)), (4, .int (nI j))] [] G := by
          intro q
          rw [← eψj] at q
          rw [fnd_y q] at he
          have hy := hy (2 * p + j) he.symm (by omega)
          rw [show (2 * p + j) / 2 = p by omega, show (2 * p + j) % 2 = j % 2 by omega] at hy
          exact vX2_lookAtFaults_71 _ _ _ _ _ G (c6_asked hC hj2 (c2_note ⟨rfl, hy⟩))
        have hq := hφ p (j % 2 * la s) hp hf1000 hfl
        rw [show (2 : Int32) = nI 2 from rfl, nI_eq (by omega) (by omega)]
        exact ⟨fun h2 => (hq _ (bI_b no yes)).2 (by omega), fun h2 => (hq _ (bI_b no yes)).1 h2⟩
  exact vX2_lookAtFaults_2 _ _ _ _ G ⟨fun q => absurd q (by decide), fun _ => key 100 0 0 (by omega) (by omega) (by omega) (fun q => by omega) rfl⟩
theorem lrN_ne {k : Nat} {q : Nat × Nat × Option (Nat × Nat)} (h : lrN s k = some q) : q.1 ≠ 0 ∧ q.1 < 4 := by
  unfold lrN at h
  split at h
  · cases h; simp
  · split at h
    · cases h; simp
    · split at h
      · cases h; simp
      · cases h
theorem c2_line {k : Nat} (hC : CS s G) (hW : WF s) (hk1 : 1 ≤ k) (hk : k < kn s) (h0 : G 14 3 = 0) (hn : lrN s k = none → PV G) (hy : ∀ q, lrN s k = some q → PV (ntQ G (some q))) : CTv kX2_lookAtLine [.ref 14, .int (nI k)] G PV := by
  have hkn := hW.n.2.1
  refine vX2_lookAtLine _ _ G ⟨vp_in_nI (by omega) (by omega), c5_lastOf hC hW.n hW.b fun L hL => ?_⟩
  rw [nI_c (by omega)] at hL
  have hkp := top_kp hW.n hk (hC.1.2.2.2.2.2.2.1 k hk) hL
  have hL30 := top_30 hW.b hW.n hL
  rw [n0_iff (by omega)]
  refine ⟨fun hL0 => ?_, fun hL0 => c2_note ⟨rfl, ?_⟩⟩
  · rw [if_neg hL0] at hkp
    refine c2_faults (w := 2) (φ := fun p f => (wtA s L k p f).isNone) hC hW hk1 hk (Or.inl rfl) (fun p f hp hf hfl Q hQ => ⟨fun _ => c2_isUnseen hC hW.w hk1 hk hp hf hkp hQ, fun q => by omega⟩) (fun hu => ?_) (fun n hu hn34 => ?_)
    · refine ⟨fun q => absurd h0 q, fun _ => ?_⟩
      have hsee : ∀ p f, p ≤ 16 → (f = 0 ∨ f = la s) → ∃ w, wtA s L k p f = some w := by
        intro p f hp hf
        have hall : ∀ m i, fnd (fun n => (wtA s L k (n / 2) (n % 2 * la s)).isNone) m i = none → ∀ n, i ≤ n → n < i + m → (wtA s L k (n / 2) (n % 2 * la s)).isNone = false := by
          intro m
          induction m with
          | zero => intro i _ n h1 h2; omega
          | succ m ih =>
            intro i hf n h1 h2
            cases hi : (wtA s L k (i / 2) (i % 2 * la s)).isNone with
            | true => rw [fnd_y hi] at hf; cases hf
            | false =>
              rw [fnd_s hi] at hf
              rcases Nat.eq_or_lt_of_le h1 with q | q
              · rw [← q]; exact hi
              · exact ih (i + 1) hf n (by omega) (by omega)
        have := hall 34 0 hu
        rcases hf with rfl | rfl
        · have h2 := this (2 * p) (by omega) (by omega)
          rw [show 2 * p / 2 = p by omega, show 2 * p % 2 = 0 by omega, Nat.zero_mul] at h2
          cases hw : wtA s L k p 0 with
          | none => rw [hw] at h2; cases h2
          | some w => exact ⟨w, rfl⟩
        · have h2 := this (2 * p + 1) (by omega) (by omega)
          rw [show (2 * p + 1) / 2 = p by omega, show (2 * p + 1) % 2 = 1 by omega, Nat.one_mul] at h2
          cases hw : wtA s L k p (la s) with
          | none => rw [hw] at h2; cases h2
          | some w => exact ⟨w, rfl⟩
      refine c2_faults (w := 3) (φ := fun p f => (tsN s k p f).isSome || abL s (wtA s L k p f)) hC hW hk1 hk (Or.inr rfl) (fun p f hp hf hfl Q hQ => ⟨fun q => by omega, fun _ => c2_isOut hC hW hk1 hk hp hf ?_⟩) (fun ho => ⟨rfl, hn ?_⟩) (fun n ho hn34 => ⟨rfl, ?_⟩)
      · obtain ⟨w, hw⟩ := hsee p f hp hfl
        rw [ooL_kp hw _ hkp]
        simp only [hw] at hQ
        exact hQ
      · unfold lrN
        rw [hkp]
        simp only [show unS s k L = fun n => (wtA s L k (n / 2) (n % 2 * la s)).isNone from rfl, hu, show ooS s k L = fun n => (tsN s k (n / 2) (n % 2 * la s)).isSome || abL s (wtA s L k (n / 2) (n % 2 * la s)) from rfl, ho]
      · refine hy (3, k, some (n / 2, n % 2 * la s)) ?_
        unfold lrN
        rw [hkp]
        simp only [show unS s k L = fun n => (wtA s L k (n / 2) (n % 2 * la s)).isNone from rfl, hu, show ooS s k L = fun n => (tsN s k (n / 2) (n % 2 * la s)).isSome || abL s (wtA s L k (n / 2) (n % 2 * la s)) from rfl, ho]
    · refine ⟨fun _ => ⟨rfl, hy (2, k, some (n / 2, n % 2 * la s)) ?_⟩, fun q => ?_⟩
      · unfold lrN
        rw [hkp]
        simp only [show unS s k L = fun n => (wtA s L k (n / 2) (n % 2 * la s)).isNone from rfl, hu]
      · rw [nt_3] at q
        exact absurd q (by decide)
  · rw [if_pos hL0] at hkp
    refine hy (1, k, none) ?_
    unfold lrN
    rw [hkp]
theorem c2_look (hC : CS s G) (hW : WF s) (h : PV (ntQ G (rtN s))) : CTv kX2_look [.ref 14] G PV := by
  have hkn := hW.n.2.1
  have hk1 := hW.n.1
  refine vX2_look _ G (c2_note ?_)
  obtain ⟨G1, eG1⟩ : ∃ G1, G1 = ntQ G none := ⟨_, rfl⟩
  have hC1 : CS s G1 := by rw [eG1]; exact hC.fr nt_C
  have h0 : G1 14 3 = 0 := by rw [eG1]; exact nt_3
  have ent : ∀ o, ntQ G1 o = ntQ G o := fun o => by rw [eG1]; exact nt_nt
  show zJ kX2_look _ 10 _ [] (ntQ G none)
  rw [← eG1]
  -- the end once something is kept
  have stop41 : ∀ (q : Nat × Nat × Option (Nat × Nat)) (b : Int32), q.1 ≠ 0 → q.1 < 100 → rtN s = some q → zJ kX2_look (fun r G' => r = none ∧ PV G') 41 [(0, .ref 14), (1, .int b)] [] (ntQ G (some q)) := by
    intro q b hq1 hq2 e
    rw [e] at h
    refine vX2_look_41 _ _ _ ⟨fun _ => ⟨rfl, h⟩, fun _ => ⟨fun _ => ⟨rfl, h⟩, fun z => ?_⟩⟩
    have z : q24 (some q) = 0 := by rw [← z]; exact nt_3.symm
    exact absurd ((n0_iff (by omega)).mp z) hq1
  have stop10 : ∀ (q : Nat × Nat × Option (Nat × Nat)) (b : Int32), q.1 ≠ 0 → q.1 < 100 → rtN s = some q → zJ kX2_look (fun r G' => r = none ∧ PV G') 10 [(0, .ref 14), (1, .int b)] [] (ntQ G (some q)) := by
    intro q b hq1 hq2 e
    refine vX2_look_10 _ _ _ ⟨fun _ => stop41 q _ hq1 hq2 e, fun _ => ⟨fun _ => stop41 q _ hq1 hq2 e, fun z => ?_⟩⟩
    have z : q24 (some q) = 0 := by rw [← z]; exact nt_3.symm
    exact absurd ((n0_iff (by omega)).mp z) hq1
  have keyB : ∀ m b : Nat, b + m = kn s → 1 ≤ b → rtA s (kn s - 1) 1 = none → rtB s m b = rtB s (kn s - 1) 1 → zJ kX2_look (fun r G' => r = none ∧ PV G') 41 [(0, .ref 14), (1, .int (nI b))] [] G1 := by
    intro m
    induction m with
    | zero =>
      intro b hb hb1 hA he
      have er : rtN s = none := by unfold rtN; rw [hA]; exact he.symm
      rw [er, ← eG1] at h
      refine vX2_look_41 _ _ G1 ⟨fun _ => ⟨rfl, h⟩, fun h1 => ?_⟩
      rw [hC1.1.1] at h1
      exact absurd (nI_le (by omega) (by omega)) h1
    | succ m ih =>
      intro b hb hb1 hA he
      rw [rtB] at he
      refine vX2_look_41 _ _ G1 ⟨fun h1 => ?_, fun _ => ⟨fun z => absurd h0 z, fun _ => c3_cbl hC1 hW.n hb1 (by omega) ?_⟩⟩
      · rw [hC1.1.1] at h1
        exact absurd h1 (nI_ge (by omega) (by omega))
      · have hld := ldS_le hW.n (k := b) (kn s)
        rw [nI_lN (by omega), show (1 : Int64) = lN 1 from rfl]
        refine c5_cr hC1 hW.w (by omega) (by omega) (by omega) ?_
        have hcl : ∀ w, (if hs s b = 1 then crn s b (ldS s b (kn s)) 1 else none) = some w → w < 2 ^ 31 := fun w hw => by
          split at hw
          · have h1 := crn_lt hw
            have h2 := (hW.c (cu s b) (hW.b.1 b).2.2.1).1
            omega
          · cases hw
        rw [oI_m1 hcl, nI_1]
        have elo : loS s b = (if hs s b = 1 then crn s b (ldS s b (kn s)) 1 else none).isSome := by
          unfold loS wtB
          by_cases q : hs s b = 1
          · rw [if_pos q, decide_eq_true q, Bool.true_and]
            cases crn s b (ldS s b (kn s)) 1 <;> rfl
          · rw [if_neg q, decide_eq_false q]
            rfl
        refine ⟨fun h2 => ih (b + 1) (by omega) (by omega) hA ?_, fun h2 => c2_note ?_⟩
        · rw [h2] at elo
          rw [if_neg (by rw [elo]; decide)] at he
          exact he
        · have hlo : loS s b = true := by
            rw [elo]
            obtain ⟨w, hw⟩ := Option.ne_none_iff_exists'.mp h2
            rw [hw]
            rfl
          rw [if_pos hlo] at he
          have er : rtN s = some (4, b, none) := by unfold rtN; rw [hA]; exact he.symm
          have := stop41 (4, b, none) (nI (b + 1)) (by simp) (by simp) er
          rw [← ent] at this
          exact this
  have keyA : ∀ m k : Nat, k + m = kn s → 1 ≤ k → rtA s m k = rtA s (kn s - 1) 1 → zJ kX2_look (fun r G' => r = none ∧ PV G') 10 [(0, .ref 14), (1, .int (nI k))] [] G1 := by
    intro m
    induction m with
    | zero =>
      intro k hk hk1 he
      refine vX2_look_10 _ _ G1 ⟨fun _ => keyB (kn s - 1) 1 (by omega) (by omega) he.symm rfl, fun h1 => ?_⟩
      rw [hC1.1.1] at h1
      exact absurd (nI_le (by omega) (by omega)) h1
    | succ m ih =>
      intro k hk hk1 he
      rw [rtA] at he
      refine vX2_look_10 _ _ G1 ⟨fun h1 => ?_, fun _ => ⟨fun z => absurd h0 z, fun _ => c2_line hC1 hW hk1 (by omega) h0 (fun h1 => ?_) (fun q hq => ?_)⟩⟩
      · rw [hC1.1.1] at h1
        exact absurd h1 (nI_ge (by omega) (by omega))
      · rw [h1] at he
        rw [nI_1]
        exact ih (k + 1) (by omega) (by omega) he
      · rw [hq] at he
        have er : rtN s = some q := by unfold rtN; rw [← he]
        rw [ent]
        have := lrN_ne hq
        exact stop10 q _ this.1 (by omega) er
  exact keyA (kn s - 1) 1 (by omega) (by omega) rfl
end C7
