section WFS
variable {s s' : NN}
theorem WFn_cg (h : WFn s) (e0 : s' 49 0 = s 49 0) (e1 : s' 49 1 = s 49 1) (e2 : s' 49 2 = s 49 2) (h50 : s' 50 = s 50) (h51 : s' 51 = s 51) (h52 : s' 52 = s 52) : WFn s' := by
  unfold WFn kn fo rs fr bY ld at *
  rw [e0, e1, e2, h50, h51, h52]
  exact h
theorem WFc_cg (h : WFc s) (h53 : s' 53 = s 53) (h54 : s' 54 = s 54) (h55 : s' 55 = s 55) : WFc s' := by
  unfold WFc cn mu tk at *
  rw [h53, h54, h55]
  exact h
theorem WFb_cg (h : WFb s) (e0 : s' 49 0 = s 49 0) (h56 : s' 56 = s 56) (h57 : s' 57 = s 57) (h58 : s' 58 = s 58) (h59 : s' 59 = s 59) (h60 : s' 60 = s 60) (h61 : s' 61 = s 61) : WFb s' := by
  unfold WFb hs fl cu dl pk go kn at *
  rw [e0, h56, h57, h58, h59, h60, h61]
  exact h
theorem WFr_no (h : WFr s) (e19 : s' 49 19 = 0) (e3 : s' 49 3 = s 49 3) (e4 : s' 49 4 = s 49 4) (e5 : s' 49 5 = s 49 5) (e17 : s' 49 17 = s 49 17) (e23 : s' 49 23 = s 49 23) (h61 : ∀ k, s' 61 k = s 61 k ∨ s' 61 k = 0) (h62 : s' 62 = s 62) (h63 : s' 63 = s 63) (h64 : s' 64 = s 64) : WFr s' := by
  unfold WFr mg lm la hg hr sn op dk st go at *
  obtain ⟨a1, a2, a3, a4, a5, a6, a7, a8, a9, a10, a11⟩ := h
  rw [e3, e4, e5, e17, e19, e23, h62, h63, h64]
  refine ⟨a1, a2, a3, a4, a5, a6, by omega, a8, a9, fun q => by omega, fun q k => ?_⟩
  rcases h61 k with z | z
  · rw [z]; exact a11 q k
  · exact z
theorem wf_source {f r : Int32} (h : WF s) (ha : aSource f r) : WF (nSource s f r) := by
  obtain ⟨hn, hc, hb, hr0⟩ := h
  obtain ⟨a, a1, a2, rfl⟩ := inR_n (a := 1) (b := 10000) ha.1.1 ha.1.2
  obtain ⟨b, b1, b2, rfl⟩ := inR_n (a := 1) (b := 1000) ha.2.1 ha.2.2
  have ea : cl (nI a) = a := nI_c (by omega)
  have eb : cl (nI b) = b := nI_c (by omega)
  refine ⟨?_, WFc_cg hc (by funext j; simp [nSource, sU]) (by funext j; simp [nSource, sU]) (by funext j; simp [nSource, sU]), WFb_cg hb (by simp [nSource, sU]) (by funext j; simp [nSource, sU]) (by funext j; simp [nSource, sU]) (by funext j; simp [nSource, sU]) (by funext j; simp [nSource, sU]) (by funext j; simp [nSource, sU]) (by funext j; simp [nSource, sU]), WFr_no hr0 (by simp [nSource, sU]) (by simp [nSource, sU]) (by simp [nSource, sU]) (by simp [nSource, sU]) (by simp [nSource, sU]) (by simp [nSource, sU]) (fun k => Or.inl (by simp [nSource, sU])) (by funext j; simp [nSource, sU]) (by funext j; simp [nSource, sU]) (by funext j; simp [nSource, sU])⟩
  obtain ⟨n1, n2, n3, n4, n5, n6, n7, n8, n9, n10⟩ := hn
  have e0 : nSource s (nI a) (nI b) 49 0 = s 49 0 := by simp [nSource, sU]
  have e1 : nSource s (nI a) (nI b) 49 1 = a := by simp [nSource, sU, ea]
  have e2 : nSource s (nI a) (nI b) 49 2 = b := by simp [nSource, sU, eb]
  have h50 : nSource s (nI a) (nI b) 50 = s 50 := by funext j; simp [nSource, sU]
  have h51 : nSource s (nI a) (nI b) 51 = s 51 := by funext j; simp [nSource, sU]
  have h52 : nSource s (nI a) (nI b) 52 = s 52 := by funext j; simp [nSource, sU]
  unfold WFn kn fo rs fr bY ld
  rw [e0, e1, e2, h50, h51, h52]
  exact ⟨n1, n2, a1, a2, b1, b2, n7, n8, n9, n10⟩
theorem wf_line {f r : Int32} (h : WF s) (ha : aLine s f r) : WF (nLine s f r) := by
  obtain ⟨hn, hc, hb, hr0⟩ := h
  obtain ⟨hf, hr1, h30⟩ := ha
  have hkn := hn.2.1
  have hf0 : 0 ≤ f.toInt := hf.1
  have ecl := toInt_c hf0
  have hcl : cl f < kn s := by have := hf.2; unfold cl; omega
  obtain ⟨b, b1, b2, rfl⟩ := inR_n (a := 1) (b := 1000) hr1.1 hr1.2
  have eb : cl (nI b) = b := nI_c (by omega)
  have e0 : nLine s f (nI b) 49 0 = s 49 0 + 1 := by simp [nLine, sU]
  refine ⟨?_, WFc_cg hc (by funext j; simp [nLine, sU]) (by funext j; simp [nLine, sU]) (by funext j; simp [nLine, sU]), ?_, WFr_no hr0 (by simp [nLine, sU]) (by simp [nLine, sU]) (by simp [nLine, sU]) (by simp [nLine, sU]) (by simp [nLine, sU]) (by simp [nLine, sU]) (fun k => Or.inl (by simp [nLine, sU])) (by funext j; simp [nLine, sU]) (by funext j; simp [nLine, sU]) (by funext j; simp [nLine, sU])⟩
  · obtain ⟨n1, n2, n3, n4, n5, n6, n7, n8, n9, n10⟩ := hn
    have e1 : nLine s f (nI b) 49 1 = s 49 1 := by simp [nLine, sU]
    have e2 : nLine s f (nI b) 49 2 = s 49 2 := by simp [nLine, sU]
    have h50 : ∀ j, nLine s f (nI b) 50 j = if j = kn s then cl f else s 50 j := fun j => by simp [nLine, sU]
    have h51 : ∀ j, nLine s f (nI b) 51 j = if j = kn s then b else s 51 j := fun j => by simp [nLine, sU, eb]
    have h52 : nLine s f (nI b) 52 = s 52 := by funext j; simp [nLine, sU]
    refine ⟨?_, ?_, ?_, ?_, ?_, ?_, ?_, ?_, ?_, ?_⟩
    · show 1 ≤ nLine s f (nI b) 49 0; rw [e0]; omega
    · show nLine s f (nI b) 49 0 ≤ 30
      rw [e0]
      have : s 49 0 ≠ 30 := h30
      have : s 49 0 ≤ 30 := n2
      omega
    · show 1 ≤ nLine s f (nI b) 49 1; rw [e1]; exact n3
    · show nLine s f (nI b) 49 1 ≤ 10000; rw [e1]; exact n4
    · show 1 ≤ nLine s f (nI b) 49 2; rw [e2]; exact n5
    · show nLine s f (nI b) 49 2 ≤ 1000; rw [e2]; exact n6
    · intro k k1 k2
      have k2 : k < nLine s f (nI b) 49 0 := k2
      rw [e0] at k2
      show nLine s f (nI b) 50 k < k ∧ 1 ≤ nLine s f (nI b) 51 k ∧ nLine s f (nI b) 51 k ≤ 1000
      rw [h50, h51]
      by_cases q : k = kn s
      · rw [if_pos q, if_pos q]
        exact ⟨by omega, b1, b2⟩
      · rw [if_neg q, if_neg q]
        have q : k ≠ s 49 0 := q
        exact n7 k k1 (show k < s 49 0 by omega)
    · intro k
      show nLine s f (nI b) 52 k ≤ 1000
      rw [h52]; exact n8 k
    · show nLine s f (nI b) 50 0 = 0
      rw [h50, if_neg (by omega)]; exact n9
    · show nLine s f (nI b) 51 0 = 0
      rw [h51, if_neg (by omega)]; exact n10
  · have h56 : nLine s f (nI b) 56 = s 56 := by funext j; simp [nLine, sU]
    have h57 : nLine s f (nI b) 57 = s 57 := by funext j; simp [nLine, sU]
    have h58 : nLine s f (nI b) 58 = s 58 := by funext j; simp [nLine, sU]
    have h59 : nLine s f (nI b) 59 = s 59 := by funext j; simp [nLine, sU]
    have h60 : nLine s f (nI b) 60 = s 60 := by funext j; simp [nLine, sU]
    have h61 : nLine s f (nI b) 61 = s 61 := by funext j; simp [nLine, sU]
    unfold WFb hs fl cu dl pk go kn at *
    rw [e0, h56, h57, h58, h59, h60, h61]
    exact ⟨hb.1, fun k hk => ⟨(hb.2.1 k hk).1, by have := (hb.2.1 k hk).2.1; omega, (hb.2.1 k hk).2.2⟩, hb.2.2⟩
theorem wf_load {k c : Int32} (h : WF s) (ha : aLoad s k c) : WF (nLoad s k c) := by
  obtain ⟨hn, hc, hb, hr0⟩ := h
  obtain ⟨b, b1, b2, rfl⟩ := inR_n (a := 0) (b := 1000) ha.2.1 ha.2.2
  have eb : cl (nI b) = b := nI_c (by omega)
  refine ⟨?_, WFc_cg hc (by funext j; simp [nLoad, sU]) (by funext j; simp [nLoad, sU]) (by funext j; simp [nLoad, sU]), WFb_cg hb (by simp [nLoad, sU]) (by funext j; simp [nLoad, sU]) (by funext j; simp [nLoad, sU]) (by funext j; simp [nLoad, sU]) (by funext j; simp [nLoad, sU]) (by funext j; simp [nLoad, sU]) (by funext j; simp [nLoad, sU]), WFr_no hr0 (by simp [nLoad, sU]) (by simp [nLoad, sU]) (by simp [nLoad, sU]) (by simp [nLoad, sU]) (by simp [nLoad, sU]) (by simp [nLoad, sU]) (fun k => Or.inl (by simp [nLoad, sU])) (by funext j; simp [nLoad, sU]) (by funext j; simp [nLoad, sU]) (by funext j; simp [nLoad, sU])⟩
  have e0 : nLoad s k (nI b) 49 0 = s 49 0 := by simp [nLoad, sU]
  have e1 : nLoad s k (nI b) 49 1 = s 49 1 := by simp [nLoad, sU]
  have e2 : nLoad s k (nI b) 49 2 = s 49 2 := by simp [nLoad, sU]
  have h50 : nLoad s k (nI b) 50 = s 50 := by funext j; simp [nLoad, sU]
  have h51 : nLoad s k (nI b) 51 = s 51 := by funext j; simp [nLoad, sU]
  have h52 : ∀ j, nLoad s k (nI b) 52 j = if j = cl k then b else s 52 j := fun j => by simp [nLoad, sU, eb]
  obtain ⟨n1, n2, n3, n4, n5, n6, n7, n8, n9, n10⟩ := hn
  unfold WFn kn fo rs fr bY ld
  rw [e0, e1, e2, h50, h51]
  refine ⟨n1, n2, n3, n4, n5, n6, n7, fun j => ?_, n9, n10⟩
  rw [h52]
  split
  · exact b2
  · exact n8 j
theorem wf_corner {c m t : Int32} (h : WF s) (ha : aCorner s c m t) : WF (nCorner s c m t) := by
  obtain ⟨hn, hc, hb, hr0⟩ := h
  obtain ⟨h1, h3, h4, h5, h6⟩ := ha
  obtain ⟨a, -, a2, rfl⟩ := inR_n (a := 0) (b := 7) h1.1 h1.2
  obtain ⟨b, b1, b2, rfl⟩ := inR_n (a := 10) (b := 1000) h3.1 h3.2
  obtain ⟨d, d1, d2, rfl⟩ := inR_n (a := 1) (b := 1000) h4.1 h4.2
  have ecl : cl (nI a) = a := nI_c (by omega)
  have eclb : cl (nI b) = b := nI_c (by omega)
  have ecld : cl (nI d) = d := nI_c (by omega)
  rw [ecl, eclb, ecld] at h6
  rw [ecl] at h5
  refine ⟨WFn_cg hn (by simp [nCorner, sU]) (by simp [nCorner, sU]) (by simp [nCorner, sU]) (by funext j; simp [nCorner, sU]) (by funext j; simp [nCorner, sU]) (by funext j; simp [nCorner, sU]), ?_, WFb_cg hb (by simp [nCorner, sU]) (by funext j; simp [nCorner, sU]) (by funext j; simp [nCorner, sU]) (by funext j; simp [nCorner, sU]) (by funext j; simp [nCorner, sU]) (by funext j; simp [nCorner, sU]) (by funext j; simp [nCorner, sU]), WFr_no hr0 (by simp [nCorner, sU]) (by simp [nCorner, sU]) (by simp [nCorner, sU]) (by simp [nCorner, sU]) (by simp [nCorner, sU]) (by simp [nCorner, sU]) (fun k => Or.inl (by simp [nCorner, sU])) (by funext j; simp [nCorner, sU]) (by funext j; simp [nCorner, sU]) (by funext j; simp [nCorner, sU])⟩
  intro c' hc'
  obtain ⟨g1, g2, g3, g4⟩ := hc c' hc'
  have x53 : cn (nCorner s (nI a) (nI b) (nI d)) c' = if c' = a then cn s a + 1 else cn s c' := by
    show nCorner s (nI a) (nI b) (nI d) 53 c' = _
    simp [nCorner, sU_at, ecl]
  have x54 : ∀ j, j < 8 → mu (nCorner s (nI a) (nI b) (nI d)) c' j = if c' = a ∧ j = cn s a then b else mu s c' j := by
    intro j hj
    show nCorner s (nI a) (nI b) (nI d) 54 (8 * c' + j) = _
    have ga := (hc a (by omega)).1
    have : (8 * c' + j = 8 * a + cn s a) ↔ (c' = a ∧ j = cn s a) := by omega
    simp [nCorner, sU_at, ecl, eclb, this]
  have x55 : ∀ j, j < 8 → tk (nCorner s (nI a) (nI b) (nI d)) c' j = if c' = a ∧ j = cn s a then d else tk s c' j := by
    intro j hj
    show nCorner s (nI a) (nI b) (nI d) 55 (8 * c' + j) = _
    have ga := (hc a (by omega)).1
    have : (8 * c' + j = 8 * a + cn s a) ↔ (c' = a ∧ j = cn s a) := by omega
    simp [nCorner, sU_at, ecl, ecld, this]
  rw [x53]
  by_cases q : c' = a
  · subst q
    rw [if_pos rfl]
    refine ⟨by omega, fun j hj => ?_, fun j hj => ?_, fun j h1 h2 => ?_⟩
    · rw [x54 j (by omega), x55 j (by omega)]
      by_cases z : j = cn s c'
      · rw [if_pos ⟨rfl, z⟩, if_pos ⟨rfl, z⟩]
        exact ⟨b1, b2, d1, d2⟩
      · rw [if_neg (fun w => z w.2), if_neg (fun w => z w.2)]
        exact g2 j (by omega)
    · have n1 : ¬ (c' = c' ∧ j = cn s c') := fun w => by have := w.2; omega
      rw [x54 j (by omega), x55 j (by omega), x54 (j + 1) (by omega), x55 (j + 1) (by omega), if_neg n1, if_neg n1]
      by_cases z : j + 1 = cn s c'
      · rw [if_pos ⟨rfl, z⟩, if_pos ⟨rfl, z⟩]
        have := h6 (by omega)
        rw [show cn s c' - 1 = j by omega] at this
        exact this
      · rw [if_neg (fun w => z w.2), if_neg (fun w => z w.2)]
        exact g3 j (by omega)
    · rw [x55 j h2, if_neg (by omega)]
      exact g4 j (by omega) h2
  · rw [if_neg q]
    refine ⟨g1, fun j hj => ?_, fun j hj => ?_, fun j h1 h2 => ?_⟩
    · rw [x54 j (by omega), x55 j (by omega), if_neg (fun w => q w.1), if_neg (fun w => q w.1)]
      exact g2 j hj
    · rw [x54 j (by omega), x55 j (by omega), x54 (j + 1) (by omega), x55 (j + 1) (by omega), if_neg (fun w => q w.1), if_neg (fun w => q w.1), if_neg (fun w => q w.1), if_neg (fun w => q w.1)]
      exact g3 j hj
    · rw [x55 j h2, if_neg (fun w => q w.1)]
      exact g4 j h1 h2
theorem wf_breaker {k c d p : Int32} (h : WF s) (ha : aBreaker s k c d p) : WF (nBreaker s k c d p) := by
  obtain ⟨hn, hc, hb, hr0⟩ := h
  obtain ⟨h1, h2, h3, h4⟩ := ha
  obtain ⟨x, x1, x2, rfl⟩ := lnP_n h1 hn.2.1
  obtain ⟨a, -, a2, rfl⟩ := inR_n (a := 0) (b := 7) h2.1 h2.2
  obtain ⟨b, b1, b2, rfl⟩ := inR_n (a := 1) (b := 40) h3.1 h3.2
  obtain ⟨e, e1, e2, rfl⟩ := inR_n (a := 1) (b := 10000) h4.1 h4.2
  have hkn := hn.2.1
  have ex : cl (nI x) = x := nI_c (by omega)
  have ea : cl (nI a) = a := nI_c (by omega)
  have eb : cl (nI b) = b := nI_c (by omega)
  have ee : cl (nI e) = e := nI_c (by omega)
  refine ⟨WFn_cg hn (by simp [nBreaker, sU]) (by simp [nBreaker, sU]) (by simp [nBreaker, sU]) (by funext j; simp [nBreaker, sU]) (by funext j; simp [nBreaker, sU]) (by funext j; simp [nBreaker, sU]), WFc_cg hc (by funext j; simp [nBreaker, sU]) (by funext j; simp [nBreaker, sU]) (by funext j; simp [nBreaker, sU]), ?_, WFr_no hr0 (by simp [nBreaker, sU]) (by simp [nBreaker, sU]) (by simp [nBreaker, sU]) (by simp [nBreaker, sU]) (by simp [nBreaker, sU]) (by simp [nBreaker, sU]) (fun k => ?_) (by funext j; simp [nBreaker, sU]) (by funext j; simp [nBreaker, sU]) (by funext j; simp [nBreaker, sU])⟩
  · have e0 : nBreaker s (nI x) (nI a) (nI b) (nI e) 49 0 = s 49 0 := by simp [nBreaker, sU]
    have h56 : ∀ j, nBreaker s (nI x) (nI a) (nI b) (nI e) 56 j = if j = x then 1 else s 56 j := fun j => by simp [nBreaker, sU, ex]
    have h57 : ∀ j, nBreaker s (nI x) (nI a) (nI b) (nI e) 57 j = if j = x then a else s 57 j := fun j => by simp [nBreaker, sU, ex, ea]
    have h58 : ∀ j, nBreaker s (nI x) (nI a) (nI b) (nI e) 58 j = if j = x then b else s 58 j := fun j => by simp [nBreaker, sU, ex, eb]
    have h59 : ∀ j, nBreaker s (nI x) (nI a) (nI b) (nI e) 59 j = if j = x then e else s 59 j := fun j => by simp [nBreaker, sU, ex, ee]
    have h60 : ∀ j, nBreaker s (nI x) (nI a) (nI b) (nI e) 60 j = if j = x then 0 else s 60 j := fun j => by simp [nBreaker, sU, ex]
    have h61 : ∀ j, nBreaker s (nI x) (nI a) (nI b) (nI e) 61 j = if j = x then 0 else s 61 j := fun j => by simp [nBreaker, sU, ex]
    unfold WFb hs fl cu dl pk go kn at *
    rw [e0]
    refine ⟨fun j => ?_, fun j hj => ?_, fun j hj => ?_⟩
    · rw [h56, h57, h58, h59, h60, h61]
      by_cases q : j = x
      · simp only [if_pos q]; omega
      · simp only [if_neg q]; exact hb.1 j
    · rw [h56] at hj
      rw [h58, h59]
      by_cases q : j = x
      · simp only [if_pos q]; omega
      · simp only [if_neg q] at hj ⊢; exact hb.2.1 j hj
    · rw [h61] at hj
      rw [h56]
      by_cases q : j = x
      · simp only [if_pos q]
      · simp only [if_neg q] at hj ⊢; exact hb.2.2 j hj
  · by_cases q : k = x
    · right; simp [nBreaker, sU, ex, q]
    · left; simp [nBreaker, sU, ex, q]
theorem isB_n {k : Int32} (hn : WFn s) (hb : WFb s) (h : isB s k) : ∃ x, 1 ≤ x ∧ x < kn s ∧ k = nI x ∧ hs s x = 1 := by
  obtain ⟨h1, h2⟩ := h
  have := hb.2.1 _ h2
  exact ⟨cl k, this.1, this.2.1, nI_self h1, h2⟩
theorem wf_remove {k : Int32} (h : WF s) (ha : isB s k) : WF (nRemove s k) := by
  obtain ⟨hn, hc, hb, hr0⟩ := h
  obtain ⟨x, x1, x2, rfl, hx⟩ := isB_n hn hb ha
  have hkn := hn.2.1
  have ex : cl (nI x) = x := nI_c (by omega)
  refine ⟨WFn_cg hn (by simp [nRemove, sU]) (by simp [nRemove, sU]) (by simp [nRemove, sU]) (by funext j; simp [nRemove, sU]) (by funext j; simp [nRemove, sU]) (by funext j; simp [nRemove, sU]), WFc_cg hc (by funext j; simp [nRemove, sU]) (by funext j; simp [nRemove, sU]) (by funext j; simp [nRemove, sU]), ?_, WFr_no hr0 (by simp [nRemove, sU]) (by simp [nRemove, sU]) (by simp [nRemove, sU]) (by simp [nRemove, sU]) (by simp [nRemove, sU]) (by simp [nRemove, sU]) (fun k => ?_) (by funext j; simp [nRemove, sU]) (by funext j; simp [nRemove, sU]) (by funext j; simp [nRemove, sU])⟩
  · have e0 : nRemove s (nI x) 49 0 = s 49 0 := by simp [nRemove, sU]
    have h56 : ∀ j, nRemove s (nI x) 56 j = if j = x then 0 else s 56 j := fun j => by simp [nRemove, sU, ex]
    have h57 : nRemove s (nI x) 57 = s 57 := by funext j; simp [nRemove, sU]
    have h58 : nRemove s (nI x) 58 = s 58 := by funext j; simp [nRemove, sU]
    have h59 : nRemove s (nI x) 59 = s 59 := by funext j; simp [nRemove, sU]
    have h60 : nRemove s (nI x) 60 = s 60 := by funext j; simp [nRemove, sU]
    have h61 : ∀ j, nRemove s (nI x) 61 j = if j = x then 0 else s 61 j := fun j => by simp [nRemove, sU, ex]
    unfold WFb hs fl cu dl pk go kn at *
    rw [e0, h57, h58, h59, h60]
    refine ⟨fun j => ?_, fun j hj => ?_, fun j hj => ?_⟩
    · rw [h56, h61]
      have := hb.1 j
      by_cases q : j = x
      · simp only [if_pos q]; omega
      · simp only [if_neg q]; exact this
    · rw [h56] at hj
      by_cases q : j = x
      · simp only [if_pos q] at hj; omega
      · simp only [if_neg q] at hj; exact hb.2.1 j hj
    · rw [h61] at hj
      rw [h56]
      by_cases q : j = x
      · simp only [if_pos q] at hj; omega
      · simp only [if_neg q] at hj ⊢; exact hb.2.2 j hj
  · by_cases q : k = x
    · right; simp [nRemove, sU, ex, q]
    · left; simp [nRemove, sU, ex, q]
theorem wf_dial {k d : Int32} (h : WF s) (ha : aDial s k d) : WF (nDial s k d) := by
  obtain ⟨hn, hc, hb, hr0⟩ := h
  obtain ⟨x, x1, x2, rfl, hx⟩ := isB_n hn hb ha.1
  obtain ⟨b, b1, b2, rfl⟩ := inR_n (a := 1) (b := 40) ha.2.1 ha.2.2
  have hkn := hn.2.1
  have ex : cl (nI x) = x := nI_c (by omega)
  have eb : cl (nI b) = b := nI_c (by omega)
  refine ⟨WFn_cg hn (by simp [nDial, sU]) (by simp [nDial, sU]) (by simp [nDial, sU]) (by funext j; simp [nDial, sU]) (by funext j; simp [nDial, sU]) (by funext j; simp [nDial, sU]), WFc_cg hc (by funext j; simp [nDial, sU]) (by funext j; simp [nDial, sU]) (by funext j; simp [nDial, sU]), ?_, WFr_no hr0 (by simp [nDial, sU]) (by simp [nDial, sU]) (by simp [nDial, sU]) (by simp [nDial, sU]) (by simp [nDial, sU]) (by simp [nDial, sU]) (fun k => Or.inl (by simp [nDial, sU])) (by funext j; simp [nDial, sU]) (by funext j; simp [nDial, sU]) (by funext j; simp [nDial, sU])⟩
  have e0 : nDial s (nI x) (nI b) 49 0 = s 49 0 := by simp [nDial, sU]
  have h56 : nDial s (nI x) (nI b) 56 = s 56 := by funext j; simp [nDial, sU]
  have h57 : nDial s (nI x) (nI b) 57 = s 57 := by funext j; simp [nDial, sU]
  have h58 : ∀ j, nDial s (nI x) (nI b) 58 j = if j = x then b else s 58 j := fun j => by simp [nDial, sU, ex, eb]
  have h59 : nDial s (nI x) (nI b) 59 = s 59 := by funext j; simp [nDial, sU]
  have h60 : nDial s (nI x) (nI b) 60 = s 60 := by funext j; simp [nDial, sU]
  have h61 : nDial s (nI x) (nI b) 61 = s 61 := by funext j; simp [nDial, sU]
  unfold WFb hs fl cu dl pk go kn at *
  rw [e0, h56, h57, h59, h60, h61]
  refine ⟨fun j => ?_, fun j hj => ?_, hb.2.2⟩
  · rw [h58]
    have := hb.1 j
    by_cases q : j = x
    · simp only [if_pos q]; omega
    · simp only [if_neg q]; exact this
  · rw [h58]
    have := hb.2.1 j hj
    by_cases q : j = x
    · simp only [if_pos q]; omega
    · simp only [if_neg q]; exact this
theorem wf_fails {k it : Int32} (h : WF s) (hit : zBo it) (ha : isB s k) : WF (nFails s k it) := by
  obtain ⟨hn, hc, hb, hr0⟩ := h
  have hi : cl it ≤ 1 := by rcases hit with rfl | rfl <;> decide
  refine ⟨WFn_cg hn (by simp [nFails, sU]) (by simp [nFails, sU]) (by simp [nFails, sU]) (by funext j; simp [nFails, sU]) (by funext j; simp [nFails, sU]) (by funext j; simp [nFails, sU]), WFc_cg hc (by funext j; simp [nFails, sU]) (by funext j; simp [nFails, sU]) (by funext j; simp [nFails, sU]), ?_, WFr_no hr0 (by simp [nFails, sU]) (by simp [nFails, sU]) (by simp [nFails, sU]) (by simp [nFails, sU]) (by simp [nFails, sU]) (by simp [nFails, sU]) (fun k => Or.inl (by simp [nFails, sU])) (by funext j; simp [nFails, sU]) (by funext j; simp [nFails, sU]) (by funext j; simp [nFails, sU])⟩
  have e0 : nFails s k it 49 0 = s 49 0 := by simp [nFails, sU]
  have h56 : nFails s k it 56 = s 56 := by funext j; simp [nFails, sU]
  have h57 : nFails s k it 57 = s 57 := by funext j; simp [nFails, sU]
  have h58 : nFails s k it 58 = s 58 := by funext j; simp [nFails, sU]
  have h59 : nFails s k it 59 = s 59 := by funext j; simp [nFails, sU]
  have h60 : ∀ j, nFails s k it 60 j = if j = cl k then cl it else s 60 j := fun j => by simp [nFails, sU]
  have h61 : nFails s k it 61 = s 61 := by funext j; simp [nFails, sU]
  unfold WFb hs fl cu dl pk go kn at *
  rw [e0, h56, h57, h58, h59, h61]
  refine ⟨fun j => ?_, hb.2.1, hb.2.2⟩
  rw [h60]
  have := hb.1 j
  by_cases q : j = cl k
  · simp only [if_pos q]; omega
  · simp only [if_neg q]; exact this
theorem wf_told {m l f : Int32} (h : WF s) (ha : aTold m l f) : WF (nTold s m l f) := by
  obtain ⟨hn, hc, hb, hr0⟩ := h
  obtain ⟨a, a1, a2, rfl⟩ := inR_n (a := 1) (b := 10000) ha.1.1 ha.1.2
  obtain ⟨b, b1, b2, rfl⟩ := inR_n (a := 1) (b := 100000) ha.2.1.1 ha.2.1.2
  obtain ⟨d, -, d2, rfl⟩ := inR_n (a := 0) (b := 1000) ha.2.2.1 ha.2.2.2
  have ea : cl (nI a) = a := nI_c (by omega)
  have eb : cl (nI b) = b := nI_c (by omega)
  have ed : cl (nI d) = d := nI_c (by omega)
  refine ⟨WFn_cg hn (by simp [nTold, sU]) (by simp [nTold, sU]) (by simp [nTold, sU]) (by funext j; simp [nTold, sU]) (by funext j; simp [nTold, sU]) (by funext j; simp [nTold, sU]), WFc_cg hc (by funext j; simp [nTold, sU]) (by funext j; simp [nTold, sU]) (by funext j; simp [nTold, sU]), WFb_cg hb (by simp [nTold, sU]) (by funext j; simp [nTold, sU]) (by funext j; simp [nTold, sU]) (by funext j; simp [nTold, sU]) (by funext j; simp [nTold, sU]) (by funext j; simp [nTold, sU]) (by funext j; simp [nTold, sU]), ?_⟩
  have e3 : nTold s (nI a) (nI b) (nI d) 49 3 = a := by simp [nTold, sU, ea]
  have e4 : nTold s (nI a) (nI b) (nI d) 49 4 = b := by simp [nTold, sU, eb]
  have e5 : nTold s (nI a) (nI b) (nI d) 49 5 = d := by simp [nTold, sU, ed]
  have e17 : nTold s (nI a) (nI b) (nI d) 49 17 = s 49 17 := by simp [nTold, sU]
  have e19 : nTold s (nI a) (nI b) (nI d) 49 19 = 0 := by simp [nTold, sU]
  have e23 : nTold s (nI a) (nI b) (nI d) 49 23 = s 49 23 := by simp [nTold, sU]
  have h61 : nTold s (nI a) (nI b) (nI d) 61 = s 61 := by funext j; simp [nTold, sU]
  have h62 : nTold s (nI a) (nI b) (nI d) 62 = s 62 := by funext j; simp [nTold, sU]
  have h63 : nTold s (nI a) (nI b) (nI d) 63 = s 63 := by funext j; simp [nTold, sU]
  have h64 : nTold s (nI a) (nI b) (nI d) 64 = s 64 := by funext j; simp [nTold, sU]
  unfold WFr mg lm la hg hr sn op dk st go at *
  rw [e3, e4, e5, e17, e19, e23, h61, h62, h63, h64]
  obtain ⟨a1', a2', a3', a4', a5', a6', a7', a8', a9', a10', a11'⟩ := hr0
  exact ⟨a1, a2, b1, b2, d2, a6', by omega, a8', a9', fun q => by omega, a11'⟩
theorem wf_run {k p f : Int32} (h : WF s) : WF (nRun s k p f) := by
  obtain ⟨hn, hc, hb, hr0⟩ := h
  unfold nRun
  have e := rnN_eq (s := s) (k := cl k) (p := cl p) (f := cl f) (n := kn s)
  obtain ⟨s2, es⟩ : ∃ s2, s2 = rnN s (cl k) (cl p) (cl f) (kn s) := ⟨_, rfl⟩
  have h61 : s2 61 = s 61 := by
    rw [es]; funext j; unfold rnN
    rw [if_neg (by omega), if_neg (by omega), if_neg (by omega)]
  have h64 : s2 64 = s 64 := by
    rw [es]; funext j; unfold rnN
    rw [if_neg (by omega), if_neg (by omega), if_neg (by omega)]
  have e17 : s2 49 17 = s 49 17 := by
    rw [es]; unfold rnN
    rw [if_neg (by omega), if_neg (by omega), if_neg (by omega)]
  have e19 : s2 49 19 = 1 := by
    rw [es]; unfold rnN
    rw [if_neg (by omega), if_neg (by omega), if_pos ⟨rfl, rfl⟩]
  have e23 : s2 49 23 = s 49 23 := by
    rw [es]; unfold rnN
    rw [if_neg (by omega), if_neg (by omega), if_neg (by omega)]
  have h62 : ∀ j, s2 62 j = if j < kn s then opN s (cl k) (cl p) (cl f) j else s 62 j := by
    intro j
    rw [es]; unfold rnN
    by_cases q : j < kn s
    · rw [if_pos ⟨rfl, q⟩, if_pos q]
    · rw [if_neg (fun z => q z.2), if_neg (by omega), if_neg (by omega), if_neg q]
  have h63 : ∀ j, s2 63 j = if j < kn s then dkN s (cl k) (cl p) (cl f) j else s 63 j := by
    intro j
    rw [es]; unfold rnN
    by_cases q : j < kn s
    · rw [if_neg (by omega), if_pos ⟨rfl, q⟩, if_pos q]
    · rw [if_neg (by omega), if_neg (fun z => q z.2), if_neg (by omega), if_neg q]
  rw [← es] at e ⊢
  have k49 : ∀ j, j ≠ 17 → j ≠ 19 → j ≠ 23 → s2 49 j = s 49 j := e.1
  have kp : ∀ p, 50 ≤ p → p ≤ 60 → s2 p = s p := e.2
  refine ⟨WFn_cg hn (k49 0 (by omega) (by omega) (by omega)) (k49 1 (by omega) (by omega) (by omega)) (k49 2 (by omega) (by omega) (by omega)) (kp 50 (by omega) (by omega)) (kp 51 (by omega) (by omega)) (kp 52 (by omega) (by omega)), WFc_cg hc (kp 53 (by omega) (by omega)) (kp 54 (by omega) (by omega)) (kp 55 (by omega) (by omega)), WFb_cg hb (k49 0 (by omega) (by omega) (by omega)) (kp 56 (by omega) (by omega)) (kp 57 (by omega) (by omega)) (kp 58 (by omega) (by omega)) (kp 59 (by omega) (by omega)) (kp 60 (by omega) (by omega)) h61, ?_⟩
  have hway : ∀ x, way s2 x = way s x := fun x => way_cg (kp 50 (by omega) (by omega)) x
  unfold WFr mg lm la hg hr sn op dk st go at *
  obtain ⟨a1, a2, a3, a4, a5, a6, a7, a8, a9, a10, a11⟩ := hr0
  rw [k49 3 (by omega) (by omega) (by omega), k49 4 (by omega) (by omega) (by omega), k49 5 (by omega) (by omega) (by omega), e17, e19, e23, h61, h64]
  refine ⟨a1, a2, a3, a4, a5, a6, by omega, a8, fun j => ⟨?_, ?_, (a9 j).2.2⟩, fun _ b hb => ?_, a11⟩
  · rw [h62]
    split
    · rcases opN_01 (s := s) (k := cl k) (p := cl p) (f := cl f) (j := j) with q | q <;> omega
    · exact (a9 j).1
  · rw [h63]
    split
    · unfold dkN; split <;> omega
    · exact (a9 j).2.1
  · have hb : b < s2 49 0 := hb
    rw [k49 0 (by omega) (by omega) (by omega)] at hb
    rw [h63, if_pos hb, hway]
    have : ∀ x, x ∈ way s b → s2 62 x = opN s (cl k) (cl p) (cl f) x := by
      intro x hx
      have h1 := (way_le hx).2
      have hb : b < kn s := hb
      rw [h62, if_pos (by omega)]
    unfold dkN
    constructor
    · intro q
      split at q
      · next hq =>
        obtain ⟨x, h1, h2⟩ := hq
        exact ⟨x, h1, by rw [this x h1]; exact h2⟩
      · cases q
    · rintro ⟨x, h1, h2⟩
      rw [this x h1] at h2
      rw [if_pos ⟨x, h1, h2⟩]
theorem wf_goal (h : WF s) : WF (nGoal s) := by
  obtain ⟨hn, hc, hb, hr0⟩ := h
  have e49 : ∀ j, j ≠ 17 → nGoal s 49 j = s 49 j := fun j hj => by
    unfold nGoal glN
    rw [if_neg (by omega), if_neg (by omega)]
  have ep : ∀ p, p ≠ 61 → p ≠ 49 → nGoal s p = s p := fun p h1 h2 => by funext j; exact glN_p h1 h2
  have e17 : nGoal s 49 17 = 1 := by
    unfold nGoal glN
    rw [if_neg (by omega), if_pos ⟨rfl, rfl⟩]
  have h61 : ∀ j, nGoal s 61 j = if j < 30 then (if hs s j = 1 then dl s j else 0) else s 61 j := by
    intro j
    unfold nGoal glN
    by_cases q : j < 30
    · rw [if_pos ⟨rfl, q⟩, if_pos q]
    · rw [if_neg (fun z => q z.2), if_neg (by omega), if_neg q]
  refine ⟨WFn_cg hn (e49 0 (by omega)) (e49 1 (by omega)) (e49 2 (by omega)) (ep 50 (by omega) (by omega)) (ep 51 (by omega) (by omega)) (ep 52 (by omega) (by omega)), WFc_cg hc (ep 53 (by omega) (by omega)) (ep 54 (by omega) (by omega)) (ep 55 (by omega) (by omega)), ?_, ?_⟩
  · unfold WFb hs fl cu dl pk go kn at *
    rw [e49 0 (by omega), ep 56 (by omega) (by omega), ep 57 (by omega) (by omega), ep 58 (by omega) (by omega), ep 59 (by omega) (by omega), ep 60 (by omega) (by omega)]
    refine ⟨fun j => ?_, hb.2.1, fun j hj => ?_⟩
    · have := hb.1 j
      rw [h61]
      refine ⟨this.1, this.2.1, this.2.2.1, this.2.2.2.1, this.2.2.2.2.1, ?_⟩
      split
      · split
        · exact this.2.2.2.1
        · omega
      · exact this.2.2.2.2.2
    · rw [h61] at hj
      split at hj
      · split at hj
        · next q => exact q
        · exact absurd rfl hj
      · exact hb.2.2 j hj
  · have hway : ∀ x, way (nGoal s) x = way s x := fun x => way_cg (ep 50 (by omega) (by omega)) x
    unfold WFr mg lm la hg hr sn op dk st go kn at *
    obtain ⟨a1, a2, a3, a4, a5, a6, a7, a8, a9, a10, a11⟩ := hr0
    rw [e49 3 (by omega), e49 4 (by omega), e49 5 (by omega), e17, e49 19 (by omega), e49 23 (by omega), e49 0 (by omega), ep 62 (by omega) (by omega), ep 63 (by omega) (by omega), ep 64 (by omega) (by omega)]
    refine ⟨a1, a2, a3, a4, a5, by omega, a7, a8, a9, fun q b hb => ?_, fun q => by omega⟩
    rw [hway]
    exact a10 q b hb
theorem wf_fit {d : Nat → Nat} (h : WF s) (hF : FitYes s d) : WF (nFit s d) := by
  have h40 : ∀ x, d x ≤ 40 := fun x => by
    by_cases q : hs s x = 1
    · exact (hF.2.1 x q).2
    · rw [hF.2.2.2 x q]; exact (h.b.1 x).2.2.2.1
  obtain ⟨hn, hc, hb, hr0⟩ := dS_WF h h40 fun x hx => (hF.2.1 x hx).1
  have e49 : ∀ j, j ≠ 19 → nFit s d 49 j = dS s d 49 j := fun j hj => by unfold nFit; rw [sU_k hj]
  have ep : ∀ p, p ≠ 49 → nFit s d p = dS s d p := fun p hp => by unfold nFit; rw [sU_n hp]
  exact ⟨WFn_cg hn (e49 0 (by omega)) (e49 1 (by omega)) (e49 2 (by omega)) (ep 50 (by omega)) (ep 51 (by omega)) (ep 52 (by omega)), WFc_cg hc (ep 53 (by omega)) (ep 54 (by omega)) (ep 55 (by omega)), WFb_cg hb (e49 0 (by omega)) (ep 56 (by omega)) (ep 57 (by omega)) (ep 58 (by omega)) (ep 59 (by omega)) (ep 60 (by omega)) (ep 61 (by omega)), WFr_no hr0 (by unfold nFit; rw [sU_s]) (e49 3 (by omega)) (e49 4 (by omega)) (e49 5 (by omega)) (e49 17 (by omega)) (e49 23 (by omega)) (fun k => Or.inl (by rw [ep 61 (by omega)])) (ep 62 (by omega)) (ep 63 (by omega)) (ep 64 (by omega))⟩
theorem gp_in {s : NN} : ∀ {js : List Nat} {m : Nat}, gp s m js → ∀ j ∈ js, j < on s
  | [], _, _, j, hj => by cases hj
  | i :: t, m, h, j, hj => by
    rcases List.mem_cons.mp hj with rfl | hj
    · exact h.1
    · exact gp_in h.2.2.2.2 j hj
theorem gp_len {s : NN} : ∀ {js : List Nat} {m : Nat}, gp s m js → js.length + cb m (on s) ≤ on s
  | [], m, _ => by have := cb_le (m := m) (on s); simpa using this
  | i :: t, m, h => by
    have := gp_len h.2.2.2.2
    rw [cb_or h.2.1, if_pos h.1] at this
    rw [List.length_cons]
    omega
theorem wf_change {js : List Nat} (h : WF s) (hJ : ChJ s js) : WF (nChange s (js.map (oj s))) := by
  obtain ⟨hn, hc, hb, hr0⟩ := h
  have hlen : js.length ≤ 10 := by
    have := gp_len hJ.2
    have := hJ.1.2.1
    omega
  have e49 : ∀ j, j ≠ 23 → nChange s (js.map (oj s)) 49 j = s 49 j := fun j hj => by
    unfold nChange
    rw [if_neg (by omega), if_neg (fun q => hj q.2)]
  have ep : ∀ p, p ≠ 64 → p ≠ 49 → nChange s (js.map (oj s)) p = s p := fun p h1 h2 => by
    funext j
    unfold nChange
    rw [if_neg (fun q => h1 q.1), if_neg (fun q => h2 q.1)]
  have e23 : nChange s (js.map (oj s)) 49 23 = js.length := by
    unfold nChange
    rw [if_neg (by omega), if_pos ⟨rfl, rfl⟩, List.length_map]
  have h64 : ∀ j, nChange s (js.map (oj s)) 64 j < 30 := by
    intro j
    unfold nChange
    by_cases q : j < (js.map (oj s)).length
    · rw [if_pos ⟨rfl, q⟩, List.getD, List.getElem?_eq_getElem q, Option.getD_some, List.getElem_map]
      exact oj_30 ⟨hn, hc, hb, hr0⟩ (gp_in hJ.2 _ (List.getElem_mem _))
    · rw [if_neg (fun z => q z.2), if_neg (by omega)]
      exact (hr0.2.2.2.2.2.2.2.2.1 j).2.2
  refine ⟨WFn_cg hn (e49 0 (by omega)) (e49 1 (by omega)) (e49 2 (by omega)) (ep 50 (by omega) (by omega)) (ep 51 (by omega) (by omega)) (ep 52 (by omega) (by omega)), WFc_cg hc (ep 53 (by omega) (by omega)) (ep 54 (by omega) (by omega)) (ep 55 (by omega) (by omega)), WFb_cg hb (e49 0 (by omega)) (ep 56 (by omega) (by omega)) (ep 57 (by omega) (by omega)) (ep 58 (by omega) (by omega)) (ep 59 (by omega) (by omega)) (ep 60 (by omega) (by omega)) (ep 61 (by omega) (by omega)), ?_⟩
  have hway : ∀ x, way (nChange s (js.map (oj s))) x = way s x := fun x => way_cg (ep 50 (by omega) (by omega)) x
  unfold WFr mg lm la hg hr sn op dk st go kn at *
  obtain ⟨a1, a2, a3, a4, a5, a6, a7, a8, a9, a10, a11⟩ := hr0
  rw [e49 3 (by omega), e49 4 (by omega), e49 5 (by omega), e49 17 (by omega), e49 19 (by omega), e23, e49 0 (by omega), ep 61 (by omega) (by omega), ep 62 (by omega) (by omega), ep 63 (by omega) (by omega)]
  refine ⟨a1, a2, a3, a4, a5, a6, a7, hlen, fun j => ⟨(a9 j).1, (a9 j).2.1, h64 j⟩, fun q b hb => ?_, a11⟩
  rw [hway]
  exact a10 q b hb
end WFS
