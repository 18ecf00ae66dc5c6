abbrev cl (x : Int32) : Nat := x.toNatClampNeg
def aFault (s : NN) (k p f w : Int32) : Int64 := if ftP s k p f then (if w = 0 then lN (smN s (cl k) (cl p) (cl f)) else if w = 1 then lN (1600 * fo s / smN s (cl k) (cl p) (cl f)) else -1) else -1
def aWaits (s : NN) (b k p f : Int32) : Int32 := if ftP s k p f ∧ lnP s b then oI (wtA s (cl b) (cl k) (cl p) (cl f)) else -1
def kpN (s : NN) (k : Nat) : Option Nat := (way s k).find? fun x => hs s x == 1
def nxN (s : NN) (k : Nat) : Option Nat := match kpN s k with
  | none => none
  | some x => kpN s (fr s x)
def ldS (s : NN) (k : Nat) : Nat → Nat
  | 0 => 0
  | n + 1 => ldS s k n + if k ∈ way s n then ld s n else 0
def aLineOf (s : NN) (k w : Int32) : Int32 := if lnP s k then (if w = 0 then nI (fr s (cl k)) else if w = 1 then oI (kpN s (cl k)) else if w = 2 then oI (nxN s (cl k)) else if w = 3 then nI (ldS s (cl k) (kn s)) else if w = 4 then nI (hs s (cl k)) else if hs s (cl k) = 1 then (if w = 5 then nI (cu s (cl k)) else if w = 6 then nI (dl s (cl k)) else if w = 7 then nI (pk s (cl k)) else if w = 8 then nI (fl s (cl k)) else if w = 9 then gN (go s (cl k)) else -1) else -1) else -1
theorem ftP_n {s : NN} {k p f : Int32} (h : ftP s k p f) (hw : kn s ≤ 30) : ∃ a b c : Nat, 1 ≤ a ∧ a < kn s ∧ b ≤ 16 ∧ c ≤ 1000 ∧ k = nI a ∧ p = nI b ∧ f = nI c := by
  obtain ⟨h1, h2, h3⟩ := h
  obtain ⟨a, a1, a2, a3⟩ := lnP_n h1 hw
  obtain ⟨b, -, b2, b3⟩ := inR_n (a := 0) (b := 16) h2.1 h2.2
  obtain ⟨c, -, c2, c3⟩ := inR_n (a := 0) (b := 1000) h3.1 h3.2
  exact ⟨a, b, c, a1, a2, b2, c2, a3, b3, c3⟩
theorem kpN_0 {s : NN} : kpN s 0 = none := by rw [kpN, way_0]; rfl
theorem kpN_s {s : NN} {k : Nat} (h : fr s k < k) : kpN s k = if hs s k = 1 then some k else kpN s (fr s k) := by
  rw [kpN, way_s h, List.find?_cons]
  by_cases h1 : hs s k = 1
  · simp [h1]
  · rw [show (hs s k == 1) = false by simpa using h1, if_neg h1, kpN]
theorem kpN_m {s : NN} {k x : Nat} (h : kpN s k = some x) : x ∈ way s k ∧ hs s x = 1 := by
  refine ⟨List.mem_of_find?_eq_some h, ?_⟩
  have := List.find?_some h
  simpa using this
theorem lN_eq0 {a b : Nat} (ha : a < 2 ^ 63) (hb : b < 2 ^ 63) : lN a = lN b ↔ a = b := pk_lEQ ha hb
theorem hs_ne {s : NN} (hb : WFb s) {k : Nat} : nI (hs s k) = 0 ↔ ¬ hs s k = 1 := by
  have h := (hb.1 k).1
  rw [show (0 : Int32) = nI 0 from rfl, nI_eq (by omega) (by omega)]
  omega
section M3
variable {s : NN} {G : GG} {P : Int32 → GG → Prop} {PL : Int64 → GG → Prop}
theorem c8_fault {k p f w : Int32} (hM : MR s G) (hW : WF s) (h : PL (aFault s k p f w) G) : CTl kX8_fault [.ref 49, .int k, .int p, .int f, .int w] G PL := by
  have hWn := hW.1
  unfold aFault at h
  refine vX8_fault _ _ _ _ _ G (c8_isFault hM hWn (bI_rb (fun hc => ?_) (fun hc => ⟨_, rfl, ?_⟩)))
  · rw [if_pos hc] at h
    obtain ⟨a, b, c, a1, a2, b2, c2, rfl, rfl, rfl⟩ := ftP_n hc hWn.2.1
    have hkn := hWn.2.1
    have hsm := smN_le hWn a1 a2 b2 c2
    have hfo := hWn.2.2.2.1
    simp only [cl, nI_c (show a < 2 ^ 31 by omega), nI_c (show b < 2 ^ 31 by omega), nI_c (show c < 2 ^ 31 by omega)] at h
    refine ⟨fun h0 => ⟨fun h1 => ⟨_, rfl, ?_⟩, fun h1 => c8_sum hM hWn a1 a2 b2 c2 ⟨?_, _, rfl, ?_⟩⟩, fun h0 => c8_sum hM hWn a1 a2 b2 c2 ⟨_, rfl, ?_⟩⟩
    · rw [if_neg h0, if_neg h1] at h; exact h
    · rw [show (0 : Int64) = lN 0 from rfl, lN_eq0 (by omega) (by omega)]
      omega
    · rw [if_neg h0, if_pos h1] at h
      rw [hM.2.1, nI_lN (by omega), show (1600 : Int64) = lN 1600 from rfl, lN_mul, pk_lDiv (by omega) (by omega) (by omega)]
      exact h
    · rw [if_pos h0] at h; exact h
  · rw [if_neg hc] at h; exact h
theorem c8_waits {b k p f : Int32} (hM : MR s G) (hW : WF s) (h : P (aWaits s b k p f) G) : CTi kX8_waits [.ref 49, .int b, .int k, .int p, .int f] G P := by
  have hWn := hW.1
  unfold aWaits at h
  refine vX8_waits _ _ _ _ _ G (c8_isFault hM hWn (bI_br (fun hc => ⟨_, rfl, ?_⟩) (fun hc => c8_isLine hM hWn (bI_br (fun hc2 => ⟨_, rfl, ?_⟩) (fun hc2 => ?_)))))
  · rw [if_neg (fun q => hc q.1)] at h; exact h
  · rw [if_neg (fun q => hc2 q.2)] at h; exact h
  · rw [if_pos ⟨hc, hc2⟩] at h
    obtain ⟨a, b, c, a1, a2, b2, c2, rfl, rfl, rfl⟩ := ftP_n hc hWn.2.1
    obtain ⟨d, d1, d2, rfl⟩ := lnP_n hc2 hWn.2.1
    have hkn := hWn.2.1
    simp only [cl, nI_c (show a < 2 ^ 31 by omega), nI_c (show b < 2 ^ 31 by omega), nI_c (show c < 2 ^ 31 by omega), nI_c (show d < 2 ^ 31 by omega)] at h
    exact c8_waitAt hM hW.w d1 (by omega) a1 a2 b2 c2 ⟨_, rfl, h⟩
theorem c8_keeper {k : Nat} (hM : MR s G) (hW : WFn s) (hb : WFb s) (hk : k < kn s) (h : P (oI (kpN s k)) G) : CTi kX8_keeper [.ref 49, .int (nI k)] G P := by
  refine vX8_keeper _ _ G ?_
  have hkn := hW.2.1
  revert hk h
  induction k using Nat.strongRecOn with
  | ind k ih =>
    intro hk h
    have hk31 : k < 2 ^ 31 := by omega
    have e0 : nI k ≤ 0 ↔ k = 0 := nI_le0 hk31
    refine vX8_keeper_2 _ _ G ⟨fun h0 => ?_, fun h0 => ⟨vp_in_nI (by omega) (by omega), fun h1 => ?_, fun h1 => ⟨vp_in_nI (by omega) (by omega), ?_⟩⟩⟩
    · refine vX8_keeper_25 _ _ G ⟨fun _ => ⟨_, rfl, ?_⟩, fun h1 => absurd h0 h1⟩
      rw [e0] at h0
      subst h0
      rw [kpN_0] at h
      exact h
    · refine vX8_keeper_25 _ _ G ⟨fun h2 => absurd h2 h0, fun _ => ⟨_, rfl, ?_⟩⟩
      rw [e0] at h0
      rw [nI_c hk31, hM.q56, hs_ne hb] at h1
      have h1 : hs s k = 1 := by omega
      rw [kpN_s (hW.2.2.2.2.2.2.1 k (by omega) hk).1, if_pos h1] at h
      exact h
    · rw [e0] at h0
      rw [nI_c hk31, hM.q56, hs_ne hb] at h1
      have hf := (hW.2.2.2.2.2.2.1 k (by omega) hk).1
      rw [kpN_s hf, if_neg h1] at h
      rw [nI_c hk31, hM.q50]
      exact ih _ hf (by omega) h
theorem c8_next {k : Nat} (hM : MR s G) (hW : WFn s) (hb : WFb s) (hk : k < kn s) (h : P (oI (nxN s k)) G) : CTi kX8_next [.ref 49, .int (nI k)] G P := by
  have hkn := hW.2.1
  refine vX8_next _ _ G (c8_keeper hM hW hb hk ?_)
  unfold nxN at h
  cases hx : kpN s k with
  | none =>
    rw [hx] at h
    exact ⟨fun h0 => absurd h0 (by decide), fun _ => ⟨_, rfl, h⟩⟩
  | some x =>
    rw [hx] at h
    have h1 := kpN_m hx
    have h2 := way_le h1.1
    have h3 := (hW.2.2.2.2.2.2.1 x (by omega) (by omega)).1
    refine ⟨fun _ => ⟨vp_in_nI (by omega) (by omega), ?_⟩, fun h0 => absurd (nI_pos' (by omega)) h0⟩
    show CTi kX8_keeper [.ref 49, .int (G 50 (nI x).toNatClampNeg)] G _
    rw [nI_c (by omega), hM.q50]
    exact c8_keeper hM hW hb (by omega) ⟨_, rfl, h⟩
theorem ldS_le (hW : WFn s) {k : Nat} : ∀ n, ldS s k n ≤ 1000 * n
  | 0 => Nat.le_refl 0
  | n + 1 => by
    unfold ldS
    have := ldS_le hW (k := k) n
    have := hW.2.2.2.2.2.2.2.1 n
    split <;> omega
theorem c8_loadOf {k : Nat} (hM : MR s G) (hW : WFn s) (hk1 : 1 ≤ k) (hk : k < kn s) (h : P (nI (ldS s k (kn s))) G) : CTi kX8_loadOf [.ref 49, .int (nI k)] G P := by
  have hkn := hW.2.1
  refine vX8_loadOf _ _ G ?_
  have key : ∀ n x : Nat, x + n = kn s → zJ kX8_loadOf (fun r G' => ∃ x, r = some (.int x) ∧ P x G') 4 [(0, .ref 49), (1, .int (nI k)), (2, .int (nI (ldS s k x))), (3, .int (nI x))] [] G := by
    intro n
    induction n with
    | zero =>
      intro x hx
      refine vX8_loadOf_4 _ _ _ _ G ⟨fun _ => ⟨_, rfl, ?_⟩, fun h1 => ?_⟩
      · rw [Nat.add_zero] at hx
        rw [hx]
        exact h
      · rw [hM.1] at h1
        exact absurd (nI_le (by omega) (by omega)) h1
    | succ n ih =>
      intro x hx
      have hih := ih (x + 1) (by omega)
      refine vX8_loadOf_4 _ _ _ _ G ⟨fun h1 => ?_, fun h1 => c8_isOnWay hM hW hk1 (by omega) (by omega) (bI_br (fun h2 => ?_) (fun h2 => ⟨vp_in_nI (by omega) (by omega), ?_⟩))⟩
      · rw [hM.1] at h1
        exact absurd h1 (nI_ge (by omega) (by omega))
      · rw [ldS, if_neg h2] at hih
        rw [show (0 : Int32) = nI 0 from rfl, nI_add, nI_1]
        exact hih
      · rw [ldS, if_pos h2] at hih
        rw [nI_c (by omega), hM.q52, nI_add, nI_1]
        exact hih
  have e1 : ldS s k 1 = 0 := by
    rw [ldS, ldS, way_0]
    simp
  have := key (kn s - 1) 1 (by have := hW.1; omega)
  rw [e1] at this
  exact this
theorem c8_lineOf {k w : Int32} (hM : MR s G) (hW : WF s) (h : P (aLineOf s k w) G) : CTi kX8_lineOf [.ref 49, .int k, .int w] G P := by
  have hWn := hW.1
  have hWb := hW.2.2.1
  unfold aLineOf at h
  have hkn := hWn.2.1
  refine vX8_lineOf _ _ _ G (c8_isLine hM hWn (bI_rb (fun hc => ?_) (fun hc => ⟨_, rfl, ?_⟩)))
  · rw [if_pos hc] at h
    obtain ⟨a, a1, a2, rfl⟩ := lnP_n hc hkn
    have ha : a < 2 ^ 31 := by omega
    have hin : vp_in (nI a) 30 := vp_in_nI (by omega) (by omega)
    simp only [cl, nI_c ha] at h
    simp only [nI_c ha, hM.q50, hM.q56, hM.q57, hM.q58, hM.q59, hM.q60, hM.q61]
    have nl : ∀ n : Nat, n < 10 → (∀ x : Int32, x.toInt = n → x = nI n) := fun n hn x hx => Int32.toInt_inj.mp (by rw [hx, nI_toInt (by omega)])
    have two : ∀ {A : Int32}, (hs s a = 1 → P A G) → (¬ hs s a = 1 → P (-1) G) → ((nI (hs s a) = 0 → ∃ x, some (Value.int (-1)) = some (.int x) ∧ P x G) ∧ (¬ nI (hs s a) = 0 → vp_in (nI a) 30 ∧ ∃ x, some (Value.int A) = some (.int x) ∧ P x G)) := by
      intro A h1 h2
      rw [hs_ne hWb]
      exact ⟨fun q => ⟨_, rfl, h2 q⟩, fun q => ⟨hin, _, rfl, h1 (Decidable.not_not.mp q)⟩⟩
    refine ⟨fun hout => ⟨_, rfl, ?_⟩, fun e => ⟨hin, _, rfl, ?_⟩, fun e => c8_keeper hM hWn hWb a2 ⟨_, rfl, ?_⟩, fun e => c8_next hM hWn hWb a2 ⟨_, rfl, ?_⟩, fun e => c8_loadOf hM hWn a1 a2 ⟨_, rfl, ?_⟩, fun e => ⟨hin, ?_⟩, fun e => ⟨hin, two ?_ ?_⟩, fun e => ⟨hin, two ?_ ?_⟩, fun e => ⟨hin, two ?_ ?_⟩, fun e => ⟨hin, ?_⟩, fun e => ⟨hin, two ?_ ?_⟩⟩
    · have n0 : ∀ n : Nat, n < 10 → ¬ w = nI n := fun n hn e => by
        rw [e, nI_toInt (by omega)] at hout
        omega
      rw [if_neg (show ¬ w = 0 from n0 0 (by omega)), if_neg (show ¬ w = 1 from n0 1 (by omega)), if_neg (show ¬ w = 2 from n0 2 (by omega)), if_neg (show ¬ w = 3 from n0 3 (by omega)), if_neg (show ¬ w = 4 from n0 4 (by omega)), if_neg (show ¬ w = 5 from n0 5 (by omega)), if_neg (show ¬ w = 6 from n0 6 (by omega)), if_neg (show ¬ w = 7 from n0 7 (by omega)), if_neg (show ¬ w = 8 from n0 8 (by omega)), if_neg (show ¬ w = 9 from n0 9 (by omega))] at h
      split at h <;> exact h
    all_goals subst e
    · exact h
    · exact h
    · exact h
    · exact h
    · rw [hs_ne hWb]
      have h01 := (hWb.1 a).1
      refine ⟨fun q => ⟨_, rfl, ?_⟩, fun q => ⟨_, rfl, ?_⟩⟩
      · rw [show hs s a = 0 by omega] at h; exact h
      · rw [show hs s a = 1 by omega] at h; exact h
    · intro q; simp only [q] at h; exact h
    · intro q; simp only [q] at h; exact h
    · intro q; simp only [q] at h; exact h
    · intro q; simp only [q] at h; exact h
    · intro q; simp only [q] at h; exact h
    · intro q; simp only [q] at h; exact h
    · rw [hs_ne hWb]
      refine ⟨fun q => ⟨_, rfl, ?_⟩, fun q => ⟨hin, ?_⟩⟩
      · simp only [q] at h; exact h
      · simp only [Decidable.not_not.mp q] at h
        have h01 := (hWb.1 a).2.1
        rw [show (0 : Int32) = nI 0 from rfl, nI_eq (by omega) (by omega)]
        refine ⟨fun z => ⟨_, rfl, ?_⟩, fun z => ⟨_, rfl, ?_⟩⟩
        · rw [z] at h; exact h
        · rw [show fl s a = 1 by omega] at h; exact h
    · intro q; simp only [q] at h; exact h
    · intro q; simp only [q] at h; exact h
  · rw [if_neg hc] at h; exact h
end M3
