/-! ===== written by gen_a35.py: the class: what a state answers, acts ===== -/
theorem C_boxFree_17 {s : mS} {A : Row} (hs : SR s 17 A) (hv : WFv A) {b : Nat} (hb : (b : Int) < A 0) (m : Nat) : f_St_boxFree_17 m (b : Int) s = some (if freeA A b = true then 1 else 0, s) := by
  have h1 := SR17_lier hs hb
  obtain ⟨h2, h3, h4⟩ := SR17_air hs hb
  have h0 := SR17_day hs
  have hn := WFv_boxes hv
  rw [f_St_boxFree_17_eq, inR_pos (by omega) (by omega), inR_pos (by omega) (by omega)]
  simp only [Int.toNat_natCast, h1, h0, freeA, Bool.and_eq_true, decide_eq_true_eq]
  by_cases c1 : A (95 + b) = -1
  · by_cases c2 : A 85 < s.1 20 b
    · rw [if_pos c1, if_pos c2, if_neg (by omega)]
    · rw [if_pos c1, if_neg c2, if_pos (by omega)]
  · rw [if_neg c1, if_neg (by omega)]
theorem C_plotFree_17 {s : mS} {A : Row} (hs : SR s 17 A) (hv : WFv A) {p : Nat} (hp : (p : Int) < A 1) (m : Nat) : f_St_plotFree_17 m (p : Int) s = some (if 0 < A (149 + p) then 0 else 1, s) := by
  obtain ⟨h2, h3, h4⟩ := SR17_rest hs hp
  have h0 := SR17_day hs
  have hn := WFv_plots hv
  rw [f_St_plotFree_17_eq, inR_pos (by omega) (by omega)]
  simp only [Int.toNat_natCast, h0]
  by_cases c2 : A 85 < s.1 23 p
  · rw [if_pos c2, if_pos (by omega)]
  · rw [if_neg c2, if_neg (by omega)]
theorem C_whyLend_17 {s : mS} {A : Row} (hs : SR s 17 A) (hr : VR s 4 A) (hv : WFv A) (hw : WFs A) {d b : Nat} (hd : (d : Int) < A 2) (hb : (b : Int) < A 0) (m : Nat) : f_St_whyNotLent_17_4 m (d : Int) (b : Int) s = some (whyLend A d b, s) := by
  have hn := WFv_boxes hv
  have hn2 := WFv_dead hv
  have hx := WFs_box hw hb
  rw [f_St_whyNotLent_17_4_eq, C_boxFree_17 hs hv hb]
  simp (disch := omega) only [inR_pos, Int.toNat_natCast, Option.bind_some, SR17_how hs hd, SR17_lent hs hb, VR4_blong hr hb, VR4_blast hr hb, VR4_dlong hr hd, whyLend]
  by_cases c1 : A (164 + d) = 1
  · rw [if_pos c1, if_pos c1]
    by_cases c2 : freeA A b = true
    · simp only [c2, if_true]
      by_cases c3 : A (6 + b) < A (29 + d)
      · simp [c3]
      · by_cases c4 : A (86 + b) = A (15 + b)
        · simp [c3, c4]
        · have : A (86 + b) < A (15 + b) := by omega
          simp [c3, c4, this]
    · simp [c2]
  · rw [if_neg c1, if_neg c1]

theorem C_boxFree_206 {s : mS} {A : Row} (hs : SR s 206 A) (hv : WFv A) {b : Nat} (hb : (b : Int) < A 0) (m : Nat) : f_St_boxFree_206 m (b : Int) s = some (if freeA A b = true then 1 else 0, s) := by
  have h1 := SR206_lier hs hb
  obtain ⟨h2, h3, h4⟩ := SR206_air hs hb
  have h0 := SR206_day hs
  have hn := WFv_boxes hv
  rw [f_St_boxFree_206_eq, inR_pos (by omega) (by omega), inR_pos (by omega) (by omega)]
  simp only [Int.toNat_natCast, h1, h0, freeA, Bool.and_eq_true, decide_eq_true_eq]
  by_cases c1 : A (95 + b) = -1
  · by_cases c2 : A 85 < s.1 209 b
    · rw [if_pos c1, if_pos c2, if_neg (by omega)]
    · rw [if_pos c1, if_neg c2, if_pos (by omega)]
  · rw [if_neg c1, if_neg (by omega)]
theorem C_plotFree_206 {s : mS} {A : Row} (hs : SR s 206 A) (hv : WFv A) {p : Nat} (hp : (p : Int) < A 1) (m : Nat) : f_St_plotFree_206 m (p : Int) s = some (if 0 < A (149 + p) then 0 else 1, s) := by
  obtain ⟨h2, h3, h4⟩ := SR206_rest hs hp
  have h0 := SR206_day hs
  have hn := WFv_plots hv
  rw [f_St_plotFree_206_eq, inR_pos (by omega) (by omega)]
  simp only [Int.toNat_natCast, h0]
  by_cases c2 : A 85 < s.1 212 p
  · rw [if_pos c2, if_pos (by omega)]
  · rw [if_neg c2, if_neg (by omega)]
theorem C_whyLend_206 {s : mS} {A : Row} (hs : SR s 206 A) (hr : VR s 4 A) (hv : WFv A) (hw : WFs A) {d b : Nat} (hd : (d : Int) < A 2) (hb : (b : Int) < A 0) (m : Nat) : f_St_whyNotLent_206_4 m (d : Int) (b : Int) s = some (whyLend A d b, s) := by
  have hn := WFv_boxes hv
  have hn2 := WFv_dead hv
  have hx := WFs_box hw hb
  rw [f_St_whyNotLent_206_4_eq, C_boxFree_206 hs hv hb]
  simp (disch := omega) only [inR_pos, Int.toNat_natCast, Option.bind_some, SR206_how hs hd, SR206_lent hs hb, VR4_blong hr hb, VR4_blast hr hb, VR4_dlong hr hd, whyLend]
  by_cases c1 : A (164 + d) = 1
  · rw [if_pos c1, if_pos c1]
    by_cases c2 : freeA A b = true
    · simp only [c2, if_true]
      by_cases c3 : A (6 + b) < A (29 + d)
      · simp [c3]
      · by_cases c4 : A (86 + b) = A (15 + b)
        · simp [c3, c4]
        · have : A (86 + b) < A (15 + b) := by omega
          simp [c3, c4, this]
    · simp [c2]
  · rw [if_neg c1, if_neg c1]

