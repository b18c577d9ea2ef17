/-! ===== written by gen_a31.py: behind a day; what can be so stays so ===== -/
theorem dayA_lo {A : Row} (hn : A 2 ≤ 12) {i : Nat} (hi : i < 85) : dayA A i = A i := by
  unfold dayA comes; rw [if_neg (by omega)]; show (if _ then _ else _) = _; rw [if_neg (by omega), if_neg (by omega), if_neg (by omega), if_neg (by omega), if_neg (by omega)]
theorem dayA_day {A : Row} (hn : A 2 ≤ 12) : dayA A 85 = A 85 + 1 := by
  unfold dayA comes; grind
theorem dayA_lent {A : Row} (hn : A 2 ≤ 12) {i : Nat} (hi : i < 9) : dayA A (86 + i) = A (86 + i) := by
  unfold dayA comes; grind
theorem dayA_lier {A : Row} (hn : A 2 ≤ 12) {i : Nat} (hi : i < 9) : dayA A (95 + i) = A (95 + i) := by
  unfold dayA comes; grind
theorem dayA_air {A : Row} (hn : A 2 ≤ 12) {i : Nat} (hi : i < 9) : dayA A (104 + i) = if 0 < A (104 + i) then A (104 + i) - 1 else A (104 + i) := by
  unfold dayA comes; grind
theorem dayA_had {A : Row} (hn : A 2 ≤ 12) {i : Nat} (hi : i < 36) : dayA A (113 + i) = A (113 + i) := by
  unfold dayA comes; grind
theorem dayA_rest {A : Row} (hn : A 2 ≤ 12) {i : Nat} (hi : i < 5) : dayA A (149 + i) = if 0 < A (149 + i) then A (149 + i) - 1 else A (149 + i) := by
  unfold dayA comes; grind
theorem dayA_lat {A : Row} (hn : A 2 ≤ 12) {i : Nat} (hi : i < 5) : dayA A (154 + i) = A (154 + i) := by
  unfold dayA comes; grind
theorem dayA_laidm {A : Row} (hn : A 2 ≤ 12) {i : Nat} (hi : i < 5) : dayA A (159 + i) = A (159 + i) := by
  unfold dayA comes; grind
theorem dayA_how {A : Row} (hn : A 2 ≤ 12) {i : Nat} (hi : i < 12) : dayA A (164 + i) = if (i : Int) < A 2 ∧ A (164 + i) = 0 ∧ A (41 + i) = A 85 + 1 then 1 else A (164 + i) := by
  unfold dayA comes; grind
theorem dayA_inb {A : Row} (hn : A 2 ≤ 12) {i : Nat} (hi : i < 12) : dayA A (176 + i) = A (176 + i) := by
  unfold dayA comes; grind
theorem dayA_inp {A : Row} (hn : A 2 ≤ 12) {i : Nat} (hi : i < 12) : dayA A (188 + i) = A (188 + i) := by
  unfold dayA comes; grind
theorem dayA_wait {A : Row} (hn : A 2 ≤ 12) {i : Nat} (hi : i < 12) : dayA A (200 + i) = if (i : Int) < A 2 ∧ A (164 + i) = 1 then A (200 + i) + 1 else A (200 + i) := by
  unfold dayA comes; grind
theorem dayA_lain {A : Row} (hn : A 2 ≤ 12) {i : Nat} (hi : i < 12) : dayA A (212 + i) = if (i : Int) < A 2 ∧ A (164 + i) = 2 then A (212 + i) + 1 else A (212 + i) := by
  unfold dayA comes; grind
theorem WFv_cg {A B : Row} (h : WFv A) (he : ∀ k, k < 85 → B k = A k) : WFv B := by
  obtain ⟨h0, h1, h2, h3, h4, h5, h6, h7, h8, h9, h10⟩ := h
  have e0 := he 0 (by omega)
  have e1 := he 1 (by omega)
  have e2 := he 2 (by omega)
  have e3 := he 3 (by omega)
  have e4 := he 4 (by omega)
  have e5 := he 5 (by omega)
  refine ⟨by rw [e0]; exact h0, by rw [e1]; exact h1, by rw [e2]; exact h2, by rw [e3]; exact h3, by rw [e4]; exact h4, by rw [e5]; exact h5, ?_, ?_, ?_, ?_, ?_⟩
  · intro b hb; rw [e0] at hb; rw [he (6 + b) (by omega), he (15 + b) (by omega)]; exact h6 b hb
  · intro b hb; rw [e1] at hb; rw [he (24 + b) (by omega)]; exact h7 b hb
  · intro b hb; rw [e2] at hb; rw [he (29 + b) (by omega), he (41 + b) (by omega), he (53 + b) (by omega), he (65 + b) (by omega), e0]; exact h8 b hb
  · intro b hb; rw [e2] at hb; rw [he (53 + b) (by omega), e2]; exact h9 b hb
  · intro b hb; rw [e4] at hb; rw [he (77 + b) (by omega), he (81 + b) (by omega)]; exact h10 b hb
theorem VR_cg {s : mS} {t : Nat} {A B : Row} (h : VR s t A) (hv : WFv A) (he : ∀ k, k < 85 → B k = A k) : VR s t B := by
  obtain ⟨h0, h1, h2, h3, h4, h5, h6, h7, h8, h10, h11⟩ := h
  have w0 := WFv_boxes hv
  have w1 := WFv_plots hv
  have w2 := WFv_dead hv
  have w4 := WFv_frosts hv
  have e0 := he 0 (by omega)
  have e1 := he 1 (by omega)
  have e2 := he 2 (by omega)
  have e3 := he 3 (by omega)
  have e4 := he 4 (by omega)
  have e5 := he 5 (by omega)
  refine ⟨by rw [e0]; exact h0, by rw [e1]; exact h1, by rw [e2]; exact h2, by rw [e3]; exact h3, by rw [e4]; exact h4, by rw [e5]; exact h5, ?_, ?_, ?_, ?_, h11⟩
  · intro b hb; rw [e0] at hb; rw [he (6 + b) (by omega), he (15 + b) (by omega)]; exact h6 b hb
  · intro b hb; rw [e1] at hb; rw [he (24 + b) (by omega)]; exact h7 b hb
  · intro b hb; rw [e2] at hb; rw [he (29 + b) (by omega), he (41 + b) (by omega), he (53 + b) (by omega), he (65 + b) (by omega)]; exact h8 b hb
  · intro b hb; rw [e4] at hb; rw [he (77 + b) (by omega), he (81 + b) (by omega)]; exact h10 b hb
theorem WFs_cg {A B : Row} (h : WFs A) (hv : WFv A) (he : ∀ k, k < 224 → B k = A k) : WFs B := by
  have w0 := WFv_boxes hv
  have w1 := WFv_plots hv
  have w2 := WFv_dead hv
  obtain ⟨h0, h1, h2, h3, h4, h5, h6, h7, h8⟩ := h
  have e0 := he 0 (by omega)
  have e1 := he 1 (by omega)
  have e2 := he 2 (by omega)
  have e85 := he 85 (by omega)
  refine ⟨by rw [e85]; exact h0, ?_, ?_, ?_, ?_, ?_, ?_, ?_, ?_⟩
  · intro b hb; rw [e0] at hb; rw [he (86 + b) (by omega), he (15 + b) (by omega), he (104 + b) (by omega)]; exact h1 b hb
  · intro b hb; rw [e0] at hb
    have := h2 b hb
    rw [he (95 + b) (by omega), e2]
    rcases this with q | ⟨q1, q2, q3, q4⟩
    · exact Or.inl q
    · right; rw [he (164 + _) (by omega), he (176 + _) (by omega)]; exact ⟨q1, q2, q3, q4⟩
  · intro b hb; rw [e1] at hb; rw [he (154 + b) (by omega), he (149 + b) (by omega), e2]; exact h3 b hb
  · intro b hb; rw [e2] at hb; rw [he (164 + b) (by omega), he (200 + b) (by omega), he (212 + b) (by omega), he (41 + b) (by omega), e85]; exact h4 b hb
  · intro b hb; rw [e2] at hb; rw [he (164 + b) (by omega), he (176 + b) (by omega), e0]
    intro q
    have := h5 b hb q
    rw [he (95 + _) (by omega)]; exact this
  · intro b hb; rw [e2] at hb; rw [he (164 + b) (by omega), he (176 + b) (by omega)]; exact h6 b hb
  · intro b hb; rw [e2] at hb; rw [he (164 + b) (by omega), he (188 + b) (by omega), e1]; exact h7 b hb
  · intro b hb; rw [e2] at hb; rw [he (164 + b) (by omega), he (188 + b) (by omega)]; exact h8 b hb
theorem SR_cg {s : mS} {t : Nat} {A B : Row} (h : SR s t A) (hv : WFv A) (he : ∀ k, k < 224 → B k = A k) : SR s t B := by
  have w0 := WFv_boxes hv
  have w1 := WFv_plots hv
  have w2 := WFv_dead hv
  obtain ⟨h0, h1, h2, h3, h4⟩ := h
  have e0 := he 0 (by omega)
  have e1 := he 1 (by omega)
  have e2 := he 2 (by omega)
  have e85 := he 85 (by omega)
  refine ⟨by rw [e85]; exact h0, ?_, ?_, ?_, ?_⟩
  · intro b hb; rw [e0] at hb; rw [he (86 + b) (by omega), he (95 + b) (by omega), he (104 + b) (by omega), e85]; exact h1 b hb
  · intro b hb; rw [e0] at hb; rw [he (113 + b) (by omega)]; exact h2 b hb
  · intro b hb; rw [e1] at hb; rw [he (154 + b) (by omega), he (149 + b) (by omega), he (159 + b) (by omega), e85]; exact h3 b hb
  · intro b hb; rw [e2] at hb; rw [he (164 + b) (by omega), he (176 + b) (by omega), he (188 + b) (by omega), he (200 + b) (by omega), he (212 + b) (by omega)]; exact h4 b hb
theorem WFs_dayA {A : Row} (hv : WFv A) (h : WFs A) (h4 : A 85 < 400) : WFs (dayA A) := by
  have w0 := WFv_boxes hv
  have w1 := WFv_plots hv
  have w2 := WFv_dead hv
  have hn : A 2 ≤ 12 := w2.2
  have e0 := dayA_lo hn (i := 0) (by omega)
  have e1 := dayA_lo hn (i := 1) (by omega)
  have e2 := dayA_lo hn (i := 2) (by omega)
  have hd := h.1
  refine ⟨by rw [dayA_day hn]; omega, ?_, ?_, ?_, ?_, ?_, ?_, ?_, ?_⟩
  · intro b hb; rw [e0] at hb
    have := WFs_box h hb
    rw [dayA_lent hn (by omega), dayA_air hn (by omega), dayA_lo hn (by omega)]; grind
  · intro b hb; rw [e0] at hb
    have q := WFs_lier h hb
    rw [dayA_lier hn (by omega), e2]
    rcases q with q | ⟨q1, q2, q3, q4⟩
    · exact Or.inl q
    · right; rw [dayA_how hn (by omega), dayA_inb hn (by omega)]; exact ⟨q1, q2, by rw [if_neg (by omega)]; exact q3, q4⟩
  · intro b hb; rw [e1] at hb
    have := WFs_plot h hb
    rw [dayA_lat hn (by omega), dayA_rest hn (by omega), e2]; grind
  · intro b hb; rw [e2] at hb
    have := WFs_dead h hb
    have := WFv_one hv hb
    rw [dayA_how hn (by omega), dayA_wait hn (by omega), dayA_lain hn (by omega), dayA_day hn, dayA_lo hn (by omega)]; grind
  · intro b hb; rw [e2] at hb
    rw [dayA_how hn (by omega), dayA_inb hn (by omega), e0]
    intro q
    have q' : A (164 + b) = 2 := by grind
    have := WFs_inb h hb q'
    rw [dayA_lier hn (by omega)]; exact this
  · intro b hb; rw [e2] at hb
    rw [dayA_how hn (by omega), dayA_inb hn (by omega)]
    have := WFs_nob h hb
    intro q; grind
  · intro b hb; rw [e2] at hb
    rw [dayA_how hn (by omega), dayA_inp hn (by omega), e1]
    have := WFs_inp h hb
    intro q; grind
  · intro b hb; rw [e2] at hb
    rw [dayA_how hn (by omega), dayA_inp hn (by omega)]
    have := WFs_nop h hb
    intro q; grind
theorem WFs_lends {A : Row} (hv : WFv A) (h : WFs A) {d b : Nat} (hd : (d : Int) < A 2) (hb : (b : Int) < A 0) (hy : whyLend A d b = 0) : WFs (lends A d b) := by
  have w0 := WFv_boxes hv
  have w1 := WFv_plots hv
  have w2 := WFv_dead hv
  have c1 : A (164 + d) = 1 := by unfold whyLend at hy; grind
  have c2 : freeA A b = true := by unfold whyLend at hy; grind
  have c3 : A (86 + b) < A (15 + b) := by have := WFs_box h hb; unfold whyLend at hy; grind
  have c4 : A (95 + b) = -1 := by unfold freeA at c2; simp at c2; exact c2.1
  have h12 : d < 12 := by omega
  have h9 : b < 9 := by omega
  have e0 := lends_lo (A := A) h12 h9 (i := 0) (by omega)
  have e1 := lends_lo (A := A) h12 h9 (i := 1) (by omega)
  have e2 := lends_lo (A := A) h12 h9 (i := 2) (by omega)
  refine ⟨by rw [lends_day h12 h9]; exact h.1, ?_, ?_, ?_, ?_, ?_, ?_, ?_, ?_⟩
  · intro i hi; rw [e0] at hi
    have := WFs_box h hi
    rw [lends_lent h12 h9 (by omega), lends_air h12 h9 (by omega), lends_lo h12 h9 (by omega)]; grind
  · intro i hi; rw [e0] at hi
    have q := WFs_lier h hi
    rw [lends_lier h12 h9 (by omega), e2]
    by_cases hib : i = b
    · subst hib; rw [if_pos rfl]; right
      simp only [Int.toNat_natCast]
      rw [lends_how h12 h9 (by omega), lends_inb h12 h9 (by omega), if_pos rfl, if_pos rfl]; omega
    · rw [if_neg hib]
      rcases q with q | ⟨q1, q2, q3, q4⟩
      · exact Or.inl q
      · right; rw [lends_how h12 h9 (by omega), lends_inb h12 h9 (by omega)]
        have : ¬ (A (95 + i)).toNat = d := by intro hh; rw [hh] at q3; omega
        rw [if_neg this, if_neg this]; exact ⟨q1, q2, q3, q4⟩
  · intro i hi; rw [e1] at hi
    have := WFs_plot h hi
    rw [lends_lat h12 h9 (by omega), lends_rest h12 h9 (by omega), e2]; exact this
  · intro i hi; rw [e2] at hi
    have := WFs_dead h hi
    rw [lends_how h12 h9 (by omega), lends_wait h12 h9 (by omega), lends_lain h12 h9 (by omega), lends_day h12 h9, lends_lo h12 h9 (by omega)]; grind
  · intro i hi; rw [e2] at hi
    rw [lends_how h12 h9 (by omega), lends_inb h12 h9 (by omega), e0]
    by_cases hid : i = d
    · subst hid; rw [if_pos rfl, if_pos rfl]; intro _
      simp only [Int.toNat_natCast]
      rw [lends_lier h12 h9 (by omega), if_pos rfl]; omega
    · rw [if_neg hid, if_neg hid]; intro q
      have q5 := WFs_inb h hi q
      rw [lends_lier h12 h9 (by omega)]
      have : ¬ (A (176 + i)).toNat = b := by intro hh; rw [hh] at q5; omega
      rw [if_neg this]; exact q5
  · intro i hi; rw [e2] at hi
    rw [lends_how h12 h9 (by omega), lends_inb h12 h9 (by omega)]
    have := WFs_nob h hi
    intro q; grind
  · intro i hi; rw [e2] at hi
    rw [lends_how h12 h9 (by omega), lends_inp h12 h9 (by omega), e1]
    have := WFs_inp h hi
    intro q; grind
  · intro i hi; rw [e2] at hi
    rw [lends_how h12 h9 (by omega), lends_inp h12 h9 (by omega)]
    have := WFs_nop h hi
    intro q; grind
theorem WFs_lays {A : Row} (hv : WFv A) (h : WFs A) {d p : Nat} (hd : (d : Int) < A 2) (hp : (p : Int) < A 1) (hy : whyLay A d p = 0) : WFs (lays A d p) := by
  have w0 := WFv_boxes hv
  have w1 := WFv_plots hv
  have w2 := WFv_dead hv
  have w5 := WFv_airn hv
  have hpr := WFv_plot hv hp
  have c1 : A (164 + d) = 2 := by unfold whyLay at hy; grind
  obtain ⟨g1, g2, g3⟩ := WFs_inb h hd c1
  have h12 : d < 12 := by omega
  have h5 : p < 5 := by omega
  have h9 : (A (176 + d)).toNat < 9 := by omega
  have e0 := lays_lo (A := A) h12 h5 h9 (i := 0) (by omega)
  have e1 := lays_lo (A := A) h12 h5 h9 (i := 1) (by omega)
  have e2 := lays_lo (A := A) h12 h5 h9 (i := 2) (by omega)
  refine ⟨by rw [lays_day h12 h5 h9]; exact h.1, ?_, ?_, ?_, ?_, ?_, ?_, ?_, ?_⟩
  · intro i hi; rw [e0] at hi
    have := WFs_box h hi
    rw [lays_lent h12 h5 h9 (by omega), lays_air h12 h5 h9 (by omega), lays_lo h12 h5 h9 (by omega)]; grind
  · intro i hi; rw [e0] at hi
    have q := WFs_lier h hi
    rw [lays_lier h12 h5 h9 (by omega), e2]
    by_cases hib : i = (A (176 + d)).toNat
    · rw [if_pos hib]; exact Or.inl rfl
    · rw [if_neg hib]
      rcases q with q | ⟨q1, q2, q3, q4⟩
      · exact Or.inl q
      · right; rw [lays_how h12 h5 h9 (by omega), lays_inb h12 h5 h9 (by omega)]
        have : ¬ (A (95 + i)).toNat = d := by intro hh; rw [hh] at q4; omega
        rw [if_neg this, if_neg this]; exact ⟨q1, q2, q3, q4⟩
  · intro i hi; rw [e1] at hi
    have := WFs_plot h hi
    rw [lays_lat h12 h5 h9 (by omega), lays_rest h12 h5 h9 (by omega), e2]; grind
  · intro i hi; rw [e2] at hi
    have := WFs_dead h hi
    rw [lays_how h12 h5 h9 (by omega), lays_wait h12 h5 h9 (by omega), lays_lain h12 h5 h9 (by omega), lays_day h12 h5 h9, lays_lo h12 h5 h9 (by omega)]; grind
  · intro i hi; rw [e2] at hi
    rw [lays_how h12 h5 h9 (by omega), lays_inb h12 h5 h9 (by omega), e0]
    by_cases hid : i = d
    · subst hid; rw [if_pos rfl]; intro q; omega
    · rw [if_neg hid, if_neg hid]; intro q
      have q5 := WFs_inb h hi q
      rw [lays_lier h12 h5 h9 (by omega)]
      have : ¬ (A (176 + i)).toNat = (A (176 + d)).toNat := by intro hh; rw [hh] at q5; omega
      rw [if_neg this]; exact q5
  · intro i hi; rw [e2] at hi
    rw [lays_how h12 h5 h9 (by omega), lays_inb h12 h5 h9 (by omega)]
    have := WFs_nob h hi
    intro q; grind
  · intro i hi; rw [e2] at hi
    rw [lays_how h12 h5 h9 (by omega), lays_inp h12 h5 h9 (by omega), e1]
    have := WFs_inp h hi
    intro q; grind
  · intro i hi; rw [e2] at hi
    rw [lays_how h12 h5 h9 (by omega), lays_inp h12 h5 h9 (by omega)]
    have := WFs_nop h hi
    intro q; grind
theorem WFs_swaps {A : Row} (hv : WFv A) (h : WFs A) {d e : Nat} (hd : (d : Int) < A 2) (he : (e : Int) < A 2) (hde : d ≠ e) (hy : whySwap A d e = 0) : WFs (swaps A d e) := by
  have w0 := WFv_boxes hv
  have w1 := WFv_plots hv
  have w2 := WFv_dead hv
  have c1 : A (164 + d) = 2 := by unfold whySwap at hy; grind
  have c2 : A (164 + e) = 2 := by unfold whySwap at hy; grind
  obtain ⟨g1, g2, g3⟩ := WFs_inb h hd c1
  obtain ⟨k1, k2, k3⟩ := WFs_inb h he c2
  have h12 : d < 12 := by omega
  have h12' : e < 12 := by omega
  have h9 : (A (176 + d)).toNat < 9 := by omega
  have h9' : (A (176 + e)).toNat < 9 := by omega
  have hbc : (A (176 + d)).toNat ≠ (A (176 + e)).toNat := by intro hh; rw [hh] at g3; omega
  have e0 := swaps_lo (A := A) h12 h12' h9 h9' (i := 0) (by omega)
  have e1 := swaps_lo (A := A) h12 h12' h9 h9' (i := 1) (by omega)
  have e2 := swaps_lo (A := A) h12 h12' h9 h9' (i := 2) (by omega)
  refine ⟨by rw [swaps_day h12 h12' h9 h9']; exact h.1, ?_, ?_, ?_, ?_, ?_, ?_, ?_, ?_⟩
  · intro i hi; rw [e0] at hi
    have := WFs_box h hi
    rw [swaps_lent h12 h12' h9 h9' (by omega), swaps_air h12 h12' h9 h9' (by omega), swaps_lo h12 h12' h9 h9' (by omega)]; exact this
  · intro i hi; rw [e0] at hi
    have q := WFs_lier h hi
    rw [swaps_lier h12 h12' h9 h9' (by omega), e2]
    by_cases hib : i = (A (176 + e)).toNat
    · rw [if_pos hib]; right
      simp only [Int.toNat_natCast]
      rw [swaps_how h12 h12' h9 h9' (by omega), swaps_inb h12 h12' h9 h9' (by omega), if_pos rfl]; omega
    · rw [if_neg hib]
      by_cases hic : i = (A (176 + d)).toNat
      · rw [if_pos hic]; right
        simp only [Int.toNat_natCast]
        rw [swaps_how h12 h12' h9 h9' (by omega), swaps_inb h12 h12' h9 h9' (by omega), if_neg (by omega), if_pos rfl]; omega
      · rw [if_neg hic]
        rcases q with q | ⟨q1, q2, q3, q4⟩
        · exact Or.inl q
        · right; rw [swaps_how h12 h12' h9 h9' (by omega), swaps_inb h12 h12' h9 h9' (by omega)]
          have n1 : ¬ (A (95 + i)).toNat = d := by intro hh; rw [hh] at q4; omega
          have n2 : ¬ (A (95 + i)).toNat = e := by intro hh; rw [hh] at q4; omega
          rw [if_neg n1, if_neg n2]; exact ⟨q1, q2, q3, q4⟩
  · intro i hi; rw [e1] at hi
    have := WFs_plot h hi
    rw [swaps_lat h12 h12' h9 h9' (by omega), swaps_rest h12 h12' h9 h9' (by omega), e2]; exact this
  · intro i hi; rw [e2] at hi
    have := WFs_dead h hi
    rw [swaps_how h12 h12' h9 h9' (by omega), swaps_wait h12 h12' h9 h9' (by omega), swaps_lain h12 h12' h9 h9' (by omega), swaps_day h12 h12' h9 h9', swaps_lo h12 h12' h9 h9' (by omega)]; exact this
  · intro i hi; rw [e2] at hi
    rw [swaps_how h12 h12' h9 h9' (by omega), swaps_inb h12 h12' h9 h9' (by omega), e0]
    intro q
    by_cases hid : i = d
    · subst hid; rw [if_pos rfl, swaps_lier h12 h12' h9 h9' (by omega), if_pos rfl]; omega
    · rw [if_neg hid]
      by_cases hie : i = e
      · subst hie; rw [if_pos rfl, swaps_lier h12 h12' h9 h9' (by omega), if_neg (by omega), if_pos rfl]; omega
      · rw [if_neg hie]
        have q5 := WFs_inb h hi q
        rw [swaps_lier h12 h12' h9 h9' (by omega)]
        have n1 : ¬ (A (176 + i)).toNat = (A (176 + d)).toNat := by intro hh; rw [hh] at q5; omega
        have n2 : ¬ (A (176 + i)).toNat = (A (176 + e)).toNat := by intro hh; rw [hh] at q5; omega
        rw [if_neg n2, if_neg n1]; exact q5
  · intro i hi; rw [e2] at hi
    rw [swaps_how h12 h12' h9 h9' (by omega), swaps_inb h12 h12' h9 h9' (by omega)]
    have := WFs_nob h hi
    intro q; grind
  · intro i hi; rw [e2] at hi
    rw [swaps_how h12 h12' h9 h9' (by omega), swaps_inp h12 h12' h9 h9' (by omega), e1]
    exact WFs_inp h hi
  · intro i hi; rw [e2] at hi
    rw [swaps_how h12 h12' h9 h9' (by omega), swaps_inp h12 h12' h9 h9' (by omega)]
    exact WFs_nop h hi
theorem WFs_mends {A : Row} (hv : WFv A) (h : WFs A) {b : Nat} (hb : (b : Int) < A 0) : WFs (mends A b) := by
  have w0 := WFv_boxes hv
  have w1 := WFv_plots hv
  have w2 := WFv_dead hv
  have h9 : b < 9 := by omega
  have hx := WFv_box hv hb
  have e0 := mends_lo (A := A) h9 (i := 0) (by omega)
  have e1 := mends_lo (A := A) h9 (i := 1) (by omega)
  have e2 := mends_lo (A := A) h9 (i := 2) (by omega)
  refine ⟨by rw [mends_day h9]; exact h.1, ?_, ?_, ?_, ?_, ?_, ?_, ?_, ?_⟩
  · intro i hi; rw [e0] at hi
    have := WFs_box h hi
    rw [mends_lent h9 (by omega), mends_air h9 (by omega), mends_lo h9 (by omega)]; grind
  · intro i hi; rw [e0] at hi
    have q := WFs_lier h hi
    rw [mends_lier h9 (by omega), e2]
    rcases q with q | ⟨q1, q2, q3, q4⟩
    · exact Or.inl q
    · right; rw [mends_how h9 (by omega), mends_inb h9 (by omega)]; exact ⟨q1, q2, q3, q4⟩
  · intro i hi; rw [e1] at hi
    rw [mends_lat h9 (by omega), mends_rest h9 (by omega), e2]; exact WFs_plot h hi
  · intro i hi; rw [e2] at hi
    rw [mends_how h9 (by omega), mends_wait h9 (by omega), mends_lain h9 (by omega), mends_day h9, mends_lo h9 (by omega)]; exact WFs_dead h hi
  · intro i hi; rw [e2] at hi
    rw [mends_how h9 (by omega), mends_inb h9 (by omega), e0]
    intro q
    have q5 := WFs_inb h hi q
    rw [mends_lier h9 (by omega)]; exact q5
  · intro i hi; rw [e2] at hi
    rw [mends_how h9 (by omega), mends_inb h9 (by omega)]; exact WFs_nob h hi
  · intro i hi; rw [e2] at hi
    rw [mends_how h9 (by omega), mends_inp h9 (by omega), e1]; exact WFs_inp h hi
  · intro i hi; rw [e2] at hi
    rw [mends_how h9 (by omega), mends_inp h9 (by omega)]; exact WFs_nop h hi
