/-! both objects, one state -/
theorem CR_lo {s : NN} {G G' : GG} (h : CR s G) (hf : sLo G G') : CR s G' := by
  obtain ⟨h1, h2, h3, h4, h5⟩ := h
  refine ⟨h1.fr fun p a b => hf p (by omega), h2.fr fun p a b => hf p (by omega), h3.fr fun p a b => hf p (by omega), h4.fr (hf 13 (by omega)), CMis_fr h5 (hf 0 (by omega)) (by rw [hf 18 (by omega)]) (hf 19 (by omega))⟩
def II (G : GG) : Prop := ∃ s, WF s ∧ CR s G ∧ MR s G
/-- the state at first -/
def s0 : NN := fun p j => match p with
  | 49 => ([1, 1000, 1, 1, 100000] : List Nat).getD j 0
  | _ => 0
theorem s0_p {p j : Nat} (h : p ≠ 49) : s0 p j = 0 := by
  unfold s0
  split
  · exact absurd rfl h
  · rfl
theorem s0_49 {j : Nat} (h : 5 ≤ j) : s0 49 j = 0 := by
  show ([1, 1000, 1, 1, 100000] : List Nat).getD j 0 = 0
  rw [List.getD, List.getElem?_eq_none (by simpa using h)]
  rfl
theorem II_0 : II G0 := by
  have z : ∀ p j, p ≠ 49 → s0 p j = 0 := fun p j h => s0_p h
  have gz : ∀ p, p ≠ 1 → p ≠ 12 → p ≠ 13 → p ≠ 49 → p ≠ 61 → ∀ k, G0 p k = 0 := by
    intro p h1 h2 h3 h4 h5 k
    unfold G0
    split <;> first | rfl | omega
  have hway : ∀ k, k < kn s0 → way s0 k = [] := fun k hk => by
    have hk : k < 1 := hk
    rw [show k = 0 by omega, way_0]
  refine ⟨s0, ⟨?_, ?_, ?_, ?_⟩, ⟨?_, ?_, ?_, ?_, ?_⟩, ?_⟩
  · refine ⟨by decide, by decide, by decide, by decide, by decide, by decide, fun k h1 h2 => ?_, fun k => ?_, z 50 0 (by omega), z 51 0 (by omega)⟩
    · have h2 : k < 1 := h2
      omega
    · show s0 52 k ≤ 1000
      rw [z 52 k (by omega)]; omega
  · intro c hc
    have e : cn s0 c = 0 := z 53 c (by omega)
    rw [e]
    exact ⟨by omega, fun j hj => by omega, fun j hj => by omega, fun j _ _ => z 55 _ (by omega)⟩
  · refine ⟨fun k => ?_, fun k hk => ?_, fun k hk => ?_⟩
    · unfold hs fl cu dl pk go
      rw [z 56 k (by omega), z 60 k (by omega), z 57 k (by omega), z 58 k (by omega), z 59 k (by omega), z 61 k (by omega)]
      omega
    · have : s0 56 k = 1 := hk
      rw [z 56 k (by omega)] at this
      omega
    · exact absurd (z 61 k (by omega)) hk
  · refine ⟨by decide, by decide, by decide, by decide, by decide, by decide, by decide, by decide, fun k => ?_, fun q => ?_, fun _ k => z 61 k (by omega)⟩
    · unfold op dk st
      rw [z 62 k (by omega), z 63 k (by omega), z 64 k (by omega)]
      omega
    · have : s0 49 19 = 1 := q
      exact absurd this (by decide)
  · refine ⟨rfl, rfl, rfl, fun k _ => ?_, fun k _ => ?_, fun k hk => ?_, fun k hk b => ?_, fun k _ => ?_⟩
    · rw [gz 2 (by omega) (by omega) (by omega) (by omega) (by omega)]; unfold fr; rw [z 50 k (by omega)]; rfl
    · rw [gz 3 (by omega) (by omega) (by omega) (by omega) (by omega)]; unfold bY; rw [z 51 k (by omega)]; rfl
    · rw [gz 4 (by omega) (by omega) (by omega) (by omega) (by omega)]
      unfold abv
      rw [show fr s0 k = 0 from z 50 k (by omega), way_0]
      rfl
    · rw [gz 5 (by omega) (by omega) (by omega) (by omega) (by omega), hway k hk, b_0]
      rfl
    · rw [gz 6 (by omega) (by omega) (by omega) (by omega) (by omega)]; unfold ld; rw [z 52 k (by omega)]; rfl
  · refine ⟨fun b => ?_, fun b => ?_, fun k _ => ?_, fun k _ => ?_, fun k _ => ?_, fun k _ => ?_⟩
    · rw [gz 7 (by omega) (by omega) (by omega) (by omega) (by omega), b_0]; unfold hs; rw [z 56 b (by omega)]; rfl
    · rw [gz 7 (by omega) (by omega) (by omega) (by omega) (by omega), b_0]; unfold hs; rw [z 56 b (by omega)]; simp
    · rw [gz 9 (by omega) (by omega) (by omega) (by omega) (by omega)]; unfold cu; rw [z 57 k (by omega)]; rfl
    · rw [gz 10 (by omega) (by omega) (by omega) (by omega) (by omega)]; unfold dl; rw [z 58 k (by omega)]; rfl
    · rw [gz 11 (by omega) (by omega) (by omega) (by omega) (by omega)]; unfold pk; rw [z 59 k (by omega)]; rfl
    · unfold go; rw [z 61 k (by omega)]; rfl
  · intro c hc
    rw [gz (25 + 3 * c) (by omega) (by omega) (by omega) (by omega) (by omega)]
    refine ⟨?_, fun j _ => ⟨?_, ?_⟩⟩
    · unfold cn; rw [z 53 c (by omega)]; rfl
    · rw [gz (25 + 3 * c + 1) (by omega) (by omega) (by omega) (by omega) (by omega)]; unfold mu; rw [z 54 _ (by omega)]; rfl
    · rw [gz (25 + 3 * c + 2) (by omega) (by omega) (by omega) (by omega) (by omega)]; unfold tk; rw [z 55 _ (by omega)]; rfl
  · exact ⟨rfl, rfl, rfl⟩
  · refine ⟨?_, ?_, fun q => ?_, ?_, fun i hi => ?_⟩
    · rw [gz 0 (by omega) (by omega) (by omega) (by omega) (by omega)]; rfl
    · rw [gz 0 (by omega) (by omega) (by omega) (by omega) (by omega)]; rfl
    · have : s0 49 19 = 1 := q
      exact absurd this (by decide)
    · rw [gz 18 (by omega) (by omega) (by omega) (by omega) (by omega)]; rfl
    · have : i < s0 49 23 := hi
      rw [s0_49 (by omega)] at this
      omega
  · refine ⟨rfl, rfl, rfl, rfl, rfl, rfl, rfl, rfl, rfl, fun p h1 h2 h3 k => ?_, fun k => ?_⟩
    · rw [gz p (by omega) (by omega) (by omega) (by omega) h3, z p k (by omega)]; rfl
    · rw [z 61 k (by omega)]; rfl
section PR
variable {G : GG}
def PI (K7 K8 : zM) (as : List Value) (G : GG) : Prop := CTi K7 (.ref 0 :: as) G (fun r G1 => CTi K8 (.ref 49 :: as) G1 (fun r2 G2 => r2 = r ∧ II G2))
def PL2 (K7 K8 : zM) (as : List Value) (G : GG) : Prop := CTl K7 (.ref 0 :: as) G (fun r G1 => CTl K8 (.ref 49 :: as) G1 (fun r2 G2 => r2 = r ∧ II G2))
theorem pr_source {a b : Int32} (h : II G) : PI kX7_source kX8_source [.int a, .int b] G := by
  obtain ⟨s, hW, hC, hM⟩ := h
  exact c7_source hC (fun q G1 hC1 h1 => c8_source (hM.lo h1) (fun _ G2 hM2 h2 => ⟨rfl, _, wf_source hW q, CR_lo hC1 h2, hM2⟩) (fun z => absurd q z)) (fun q => c8_source hM (fun z => absurd z q) (fun _ => ⟨rfl, s, hW, hC, hM⟩))
theorem pr_line {a b : Int32} (h : II G) : PI kX7_line kX8_line [.int a, .int b] G := by
  obtain ⟨s, hW, hC, hM⟩ := h
  exact c7_line hC hW.n (fun q G1 hC1 h1 => c8_line (hM.lo h1) hW.n (fun _ G2 hM2 h2 => ⟨rfl, _, wf_line hW q, CR_lo hC1 h2, hM2⟩) (fun z => absurd q z)) (fun q => c8_line hM hW.n (fun z => absurd z q) (fun _ => ⟨rfl, s, hW, hC, hM⟩))
theorem pr_load {a b : Int32} (h : II G) : PI kX7_load kX8_load [.int a, .int b] G := by
  obtain ⟨s, hW, hC, hM⟩ := h
  exact c7_load hC hW.n (fun q G1 hC1 h1 => c8_load (hM.lo h1) hW.n (fun _ G2 hM2 h2 => ⟨rfl, _, wf_load hW q, CR_lo hC1 h2, hM2⟩) (fun z => absurd q z)) (fun q => c8_load hM hW.n (fun z => absurd z q) (fun _ => ⟨rfl, s, hW, hC, hM⟩))
theorem pr_corner {a b d : Int32} (h : II G) : PI kX7_corner kX8_corner [.int a, .int b, .int d] G := by
  obtain ⟨s, hW, hC, hM⟩ := h
  exact c7_corner hC hW.c (fun q G1 hC1 h1 => c8_corner (hM.lo h1) hW.c (fun _ G2 hM2 h2 => ⟨rfl, _, wf_corner hW q, CR_lo hC1 h2, hM2⟩) (fun z => absurd q z)) (fun q => c8_corner hM hW.c (fun z => absurd z q) (fun _ => ⟨rfl, s, hW, hC, hM⟩))
theorem pr_breaker {a b d e : Int32} (h : II G) : PI kX7_breaker kX8_breaker [.int a, .int b, .int d, .int e] G := by
  obtain ⟨s, hW, hC, hM⟩ := h
  exact c7_breaker hC hW.n (fun q G1 hC1 h1 => c8_breaker (hM.lo h1) hW.n (fun _ G2 hM2 h2 => ⟨rfl, _, wf_breaker hW q, CR_lo hC1 h2, hM2⟩) (fun z => absurd q z)) (fun q => c8_breaker hM hW.n (fun z => absurd z q) (fun _ => ⟨rfl, s, hW, hC, hM⟩))
theorem pr_remove {a : Int32} (h : II G) : PI kX7_remove kX8_remove [.int a] G := by
  obtain ⟨s, hW, hC, hM⟩ := h
  exact c7_remove hC hW.n hW.b (fun q G1 hC1 h1 => c8_remove (hM.lo h1) hW.n hW.b (fun _ G2 hM2 h2 => ⟨rfl, _, wf_remove hW q, CR_lo hC1 h2, hM2⟩) (fun z => absurd q z)) (fun q => c8_remove hM hW.n hW.b (fun z => absurd z q) (fun _ => ⟨rfl, s, hW, hC, hM⟩))
theorem pr_dial {a b : Int32} (h : II G) : PI kX7_dial kX8_dial [.int a, .int b] G := by
  obtain ⟨s, hW, hC, hM⟩ := h
  exact c7_dial hC hW.n hW.b (fun q G1 hC1 h1 => c8_dial (hM.lo h1) hW.n hW.b (fun _ G2 hM2 h2 => ⟨rfl, _, wf_dial hW q, CR_lo hC1 h2, hM2⟩) (fun z => absurd q z)) (fun q => c8_dial hM hW.n hW.b (fun z => absurd z q) (fun _ => ⟨rfl, s, hW, hC, hM⟩))
theorem pr_fails {a b : Int32} (hb : zBo b) (h : II G) : PI kX7_fails kX8_fails [.int a, .int b] G := by
  obtain ⟨s, hW, hC, hM⟩ := h
  exact c7_fails hC hW.n hW.b hb (fun q G1 hC1 h1 => c8_fails (hM.lo h1) hW.n hW.b hb (fun _ G2 hM2 h2 => ⟨rfl, _, wf_fails hW hb q, CR_lo hC1 h2, hM2⟩) (fun z => absurd q z)) (fun q => c8_fails hM hW.n hW.b hb (fun z => absurd z q) (fun _ => ⟨rfl, s, hW, hC, hM⟩))
theorem pr_told {a b d : Int32} (h : II G) : PI kX7_told kX8_told [.int a, .int b, .int d] G := by
  obtain ⟨s, hW, hC, hM⟩ := h
  exact c7_told hC (fun q G1 hC1 h1 => c8_told (hM.lo h1) (fun _ G2 hM2 h2 => ⟨rfl, _, wf_told hW q, CR_lo hC1 h2, hM2⟩) (fun z => absurd q z)) (fun q => c8_told hM (fun z => absurd z q) (fun _ => ⟨rfl, s, hW, hC, hM⟩))
theorem pr_lineOf {a b : Int32} (h : II G) : PI kX7_lineOf kX8_lineOf [.int a, .int b] G := by
  obtain ⟨s, hW, hC, hM⟩ := h
  exact c7_lineOf hC.s hW (c8_lineOf hM hW ⟨rfl, s, hW, hC, hM⟩)
theorem pr_fault {a b d e : Int32} (h : II G) : PL2 kX7_fault kX8_fault [.int a, .int b, .int d, .int e] G := by
  obtain ⟨s, hW, hC, hM⟩ := h
  exact c7_fault hC.s hW (c8_fault hM hW ⟨rfl, s, hW, hC, hM⟩)
theorem pr_waits {a b d e : Int32} (h : II G) : PI kX7_waits kX8_waits [.int a, .int b, .int d, .int e] G := by
  obtain ⟨s, hW, hC, hM⟩ := h
  exact c7_waits hC.s hW (c8_waits hM hW ⟨rfl, s, hW, hC, hM⟩)
theorem pr_run {a b d : Int32} (h : II G) : PI kX7_run kX8_run [.int a, .int b, .int d] G := by
  obtain ⟨s, hW, hC, hM⟩ := h
  exact c7_run hC hW (fun q G1 hC1 h1 => c8_run (hM.lo h1) hW (fun _ G2 hM2 h2 => ⟨rfl, _, wf_run hW, CR_lo hC1 h2, hM2⟩) (fun z => absurd q z)) (fun q => c8_run hM hW (fun z => absurd z q) (fun _ => ⟨rfl, s, hW, hC, hM⟩))
theorem pr_ran {a b : Int32} (h : II G) : PI kX7_ran kX8_ran [.int a, .int b] G := by
  obtain ⟨s, hW, hC, hM⟩ := h
  exact c7_ran hC hW (c8_ran hM hW ⟨rfl, s, hW, hC, hM⟩)
theorem pr_right {a : Int32} (h : II G) : PI kX7_right kX8_right [.int a] G := by
  obtain ⟨s, hW, hC, hM⟩ := h
  exact c7_right hC hW fun G1 hC1 h1 => c8_right (hM.lo h1) hW fun G2 h2 => ⟨rfl, s, hW, CR_lo hC1 h2.lo, h2.mr (hM.lo h1)⟩
theorem pr_fit (h : II G) : PI kX7_fit kX8_fit [] G := by
  obtain ⟨s, hW, hC, hM⟩ := h
  refine c7_fit hC hW (fun q G1 hC1 h1 => ?_) (fun d q qr G1 hC1 h1 => ?_) (fun d q qr G1 hC1 h1 => ?_)
  · exact c8_fit (hM.lo h1) hW (fun _ G2 hM2 h2 => ⟨rfl, s, hW, CR_lo hC1 h2, hM2⟩) (fun d' q' _ _ _ _ => (Fit_n q' q).elim) (fun d' q' _ _ _ _ => (Fit_n q' q).elim)
  · exact c8_fit (hM.lo h1) hW (fun q' _ _ _ => (Fit_n q q').elim) (fun d' q' _ G2 hM2 h2 => ⟨rfl, s, hW, CR_lo hC1 h2, hM2⟩) (fun d' q' qr' _ _ _ => by rw [Fit_u q' q] at qr'; exact absurd qr' qr)
  · exact c8_fit (hM.lo h1) hW (fun q' _ _ _ => (Fit_n q q').elim) (fun d' q' qr' _ _ _ => by rw [Fit_u q' q] at qr'; exact absurd qr qr') (fun d' q' _ G2 hM2 h2 => by
      have e := Fit_u q' q
      subst e
      exact ⟨rfl, _, wf_fit hW q, CR_lo hC1 h2, hM2⟩)
theorem pr_arc {a b d : Int32} (h : II G) : PL2 kX7_arc kX8_arc [.int a, .int b, .int d] G := by
  obtain ⟨s, hW, hC, hM⟩ := h
  exact c7_arc hC.s hW (c8_arc hM hW ⟨rfl, s, hW, hC, hM⟩)
theorem pr_worst (h : II G) : PL2 kX7_worst kX8_worst [] G := by
  obtain ⟨s, hW, hC, hM⟩ := h
  exact c7_worst hC.s hW fun r hr => c8_worst hM hW fun r2 hr2 => ⟨Worst_u hr2 hr, s, hW, hC, hM⟩
theorem pr_growth (h : II G) : PI kX7_growth kX8_growth [] G := by
  obtain ⟨s, hW, hC, hM⟩ := h
  exact c7_growth hC.s hW (c8_growth hM hW ⟨rfl, s, hW, hC, hM⟩)
theorem pr_goal (h : II G) : PI kX7_goal kX8_goal [] G := by
  obtain ⟨s, hW, hC, hM⟩ := h
  exact c7_goal hC hW fun G1 hC1 h1 => c8_goal (hM.lo h1) hW fun G2 hM2 h2 => ⟨rfl, _, wf_goal hW, CR_lo hC1 h2, hM2⟩
theorem pr_change (h : II G) : PI kX7_change kX8_change [] G := by
  obtain ⟨s, hW, hC, hM⟩ := h
  refine c7_change hC hW (fun q G1 hC1 h1 => ?_) (fun js q G1 hC1 h1 => ?_)
  · exact c8_change (hM.lo h1) hW (fun _ G2 hM2 h2 => ⟨rfl, s, hW, CR_lo hC1 h2, hM2⟩) (fun js' q' _ _ _ => absurd q'.1 q)
  · exact c8_change (hM.lo h1) hW (fun q' _ _ _ => absurd q.1 q') (fun js' q' G2 hM2 h2 => by
      have e := gp_u q'.2 q.2
      subst e
      exact ⟨rfl, _, wf_change hW q, CR_lo hC1 h2, hM2⟩)
theorem pr_step {a : Int32} (h : II G) : PI kX7_step kX8_step [.int a] G := by
  obtain ⟨s, hW, hC, hM⟩ := h
  exact c7_step hC.2.2.2.2 hW (c8_step hM hW ⟨rfl, s, hW, hC, hM⟩)
theorem pr_about {a : Int32} (h : II G) : PI kX7_about kX8_about [.int a] G := by
  obtain ⟨s, hW, hC, hM⟩ := h
  exact c7_about hC hW (c8_about hM hW ⟨rfl, s, hW, hC, hM⟩)
end PR
