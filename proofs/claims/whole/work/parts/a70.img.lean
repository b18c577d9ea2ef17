/-! ===== written by gen_a70.py: image, restore ===== -/
theorem cpyJ_ne {s : mS} {a sp c dp n x : Nat} (h : x ≠ c) : (cpyJ s a sp c dp n).2 x = s.2 x := by funext j; rw [cpyJ_2, if_neg (by omega)]
theorem cpyJ_c {s : mS} {a c n j : Nat} (h : j < n) : (cpyJ s a 0 c 0 n).2 c j = s.2 a j := by
  rw [cpyJ_2, if_pos ⟨rfl, by omega, by omega⟩, Nat.zero_add, Nat.sub_zero]
/-- a vestry copied -/
def cpV (s : mS) (x y : Nat) : mS := cpyI (cpyI (cpyI (cpyI (cpyI (cpyI (cpyJ (cpyI (cpyJ (cpyI (cpyI (cpyJ (wI (wI (wI (wI (wI (wI (wI s x 0 (s.1 y 0)) x 1 (s.1 y 1)) x 2 (s.1 y 2)) x 3 (s.1 y 3)) x 4 (s.1 y 4)) x 5 (s.1 y 5)) x 6 (s.1 y 6)) (y + 1) 0 (x + 1) 0 9) (y + 2) 0 (x + 2) 0 9) (y + 3) 0 (x + 3) 0 9) (y + 4) 0 (x + 4) 0 5) (y + 5) 0 (x + 5) 0 5) (y + 6) 0 (x + 6) 0 12) (y + 7) 0 (x + 7) 0 12) (y + 8) 0 (x + 8) 0 12) (y + 9) 0 (x + 9) 0 12) (y + 10) 0 (x + 10) 0 12) (y + 11) 0 (x + 11) 0 4) (y + 12) 0 (x + 12) 0 4
theorem cpV_1 (s : mS) (x y : Nat) {c : Nat} (hc : c < x ∨ x + 13 ≤ c) : (cpV s x y).1 c = s.1 c := by
  unfold cpV
  simp (disch := omega) only [cpyI_ne, cpyJ_1, wI_ne]
theorem cpV_2 (s : mS) (x y : Nat) {c : Nat} (hc : c < x ∨ x + 13 ≤ c) : (cpV s x y).2 c = s.2 c := by
  unfold cpV
  simp (disch := omega) only [cpyJ_ne, cpyI_2, wI_2]
theorem cpV_VR {s : mS} {x y : Nat} {A : Row} (h : VR s y A) (hv : WFv A) (hd : x + 13 ≤ y ∨ y + 13 ≤ x) : VR (cpV s x y) x A := by
  have w0 := WFv_boxes hv
  have w1 := WFv_plots hv
  have w2 := WFv_dead hv
  have w4 := WFv_frosts hv
  obtain ⟨h0, h1, h2, h3, h4, h5, h6, h7, h8, h9, h10⟩ := h
  have base : (cpV s x y).1 x = (wI (wI (wI (wI (wI (wI (wI s x 0 (s.1 y 0)) x 1 (s.1 y 1)) x 2 (s.1 y 2)) x 3 (s.1 y 3)) x 4 (s.1 y 4)) x 5 (s.1 y 5)) x 6 (s.1 y 6)).1 x := by
    unfold cpV; simp (disch := omega) only [cpyI_ne, cpyJ_1]
  have f0 : (cpV s x y).1 x 0 = s.1 y 0 := by rw [base, wI_f (by decide), wI_f (by decide), wI_f (by decide), wI_f (by decide), wI_f (by decide), wI_f (by decide), wI_at]
  have f1 : (cpV s x y).1 x 1 = s.1 y 1 := by rw [base, wI_f (by decide), wI_f (by decide), wI_f (by decide), wI_f (by decide), wI_f (by decide), wI_at]
  have f2 : (cpV s x y).1 x 2 = s.1 y 2 := by rw [base, wI_f (by decide), wI_f (by decide), wI_f (by decide), wI_f (by decide), wI_at]
  have f3 : (cpV s x y).1 x 3 = s.1 y 3 := by rw [base, wI_f (by decide), wI_f (by decide), wI_f (by decide), wI_at]
  have f4 : (cpV s x y).1 x 4 = s.1 y 4 := by rw [base, wI_f (by decide), wI_f (by decide), wI_at]
  have f5 : (cpV s x y).1 x 5 = s.1 y 5 := by rw [base, wI_f (by decide), wI_at]
  have f6 : (cpV s x y).1 x 6 = s.1 y 6 := by rw [base, wI_at]
  refine ⟨by rw [f0]; exact h0, by rw [f1]; exact h1, by rw [f2]; exact h2, by rw [f3]; exact h3, by rw [f4]; exact h4, by rw [f5]; exact h5, fun b hb => ?_, fun b hb => ?_, fun b hb => ?_, fun b hb => ?_, by rw [f6]; exact h10⟩
  · rw [show (cpV s x y).1 (x + 2) b = s.1 (y + 2) b from by unfold cpV; simp (disch := omega) only [cpyI_ne, cpyJ_1, cpyI_c, wI_ne], show (cpV s x y).1 (x + 3) b = s.1 (y + 3) b from by unfold cpV; simp (disch := omega) only [cpyI_ne, cpyJ_1, cpyI_c, wI_ne]]; exact h6 b hb
  · rw [show (cpV s x y).1 (x + 5) b = s.1 (y + 5) b from by unfold cpV; simp (disch := omega) only [cpyI_ne, cpyJ_1, cpyI_c, wI_ne]]; exact h7 b hb
  · rw [show (cpV s x y).1 (x + 7) b = s.1 (y + 7) b from by unfold cpV; simp (disch := omega) only [cpyI_ne, cpyJ_1, cpyI_c, wI_ne], show (cpV s x y).1 (x + 8) b = s.1 (y + 8) b from by unfold cpV; simp (disch := omega) only [cpyI_ne, cpyJ_1, cpyI_c, wI_ne], show (cpV s x y).1 (x + 9) b = s.1 (y + 9) b from by unfold cpV; simp (disch := omega) only [cpyI_ne, cpyJ_1, cpyI_c, wI_ne], show (cpV s x y).1 (x + 10) b = s.1 (y + 10) b from by unfold cpV; simp (disch := omega) only [cpyI_ne, cpyJ_1, cpyI_c, wI_ne]]; exact h8 b hb
  · rw [show (cpV s x y).1 (x + 11) b = s.1 (y + 11) b from by unfold cpV; simp (disch := omega) only [cpyI_ne, cpyJ_1, cpyI_c, wI_ne], show (cpV s x y).1 (x + 12) b = s.1 (y + 12) b from by unfold cpV; simp (disch := omega) only [cpyI_ne, cpyJ_1, cpyI_c, wI_ne]]; exact h9 b hb
theorem cpV_VN {s : mS} {x y : Nat} {A N : Row} (h : VN s y A N) (hv : WFv A) (hd : x + 13 ≤ y ∨ y + 13 ≤ x) : VN (cpV s x y) x A N := by
  have w0 := WFv_boxes hv
  have w1 := WFv_plots hv
  have w2 := WFv_dead hv
  obtain ⟨h1, h2, h3⟩ := h
  refine ⟨fun b hb => ?_, fun b hb => ?_, fun b hb => ?_⟩
  · rw [show (cpV s x y).2 (x + 1) b = s.2 (y + 1) b from by unfold cpV; simp (disch := omega) only [cpyJ_ne, cpyI_2, cpyJ_c, wI_2]]; exact h1 b hb
  · rw [show (cpV s x y).2 (x + 4) b = s.2 (y + 4) b from by unfold cpV; simp (disch := omega) only [cpyJ_ne, cpyI_2, cpyJ_c, wI_2]]; exact h2 b hb
  · rw [show (cpV s x y).2 (x + 6) b = s.2 (y + 6) b from by unfold cpV; simp (disch := omega) only [cpyJ_ne, cpyI_2, cpyJ_c, wI_2]]; exact h3 b hb
/-- a sentence copied -/
def cpQ (s : mS) (x y : Nat) : mS := cpyI (cpyI (cpyI (wI (wI s x 0 (s.1 y 0)) x 1 (s.1 y 1)) (y + 1) 0 (x + 1) 0 40) (y + 2) 0 (x + 2) 0 40) (y + 3) 0 (x + 3) 0 40
theorem cpQ_1 (s : mS) (x y : Nat) {c : Nat} (hc : c < x ∨ x + 4 ≤ c) : (cpQ s x y).1 c = s.1 c := by
  unfold cpQ
  simp (disch := omega) only [cpyI_ne, wI_ne]
theorem cpQ_2 (s : mS) (x y : Nat) : (cpQ s x y).2 = s.2 := rfl
theorem PN_rows {P S V P' S' V' A : Row} {st : Nat → Nat} {i : Nat} (h : PN P S V A st i) (h1 : P' i = P i) (h2 : S' i = S i) (h3 : V' i = V i) : PN P' S' V' A st i := by
  unfold PN; rw [h1, h2, h3]; exact h
theorem cpQ_QR {s : mS} {x y : Nat} {A : Row} (h : QR s y A) (hd : x + 4 ≤ y ∨ y + 4 ≤ x) : QR (cpQ s x y) x A := by
  have base : (cpQ s x y).1 x = (wI (wI s x 0 (s.1 y 0)) x 1 (s.1 y 1)).1 x := by unfold cpQ; simp (disch := omega) only [cpyI_ne]
  have f0 : (cpQ s x y).1 x 0 = s.1 y 0 := by rw [base, wI_f (by decide), wI_at]
  have f1 : (cpQ s x y).1 x 1 = s.1 y 1 := by rw [base, wI_at]
  unfold QR
  rw [f0, f1]
  rcases h with h | ⟨a1, a2, a3, a4, a5, st, a6, a7⟩
  · exact Or.inl h
  · refine Or.inr ⟨a1, a2, a3, a4, a5, st, fun i hi => PN_rows (a6 i hi) ?_ ?_ ?_, a7⟩
    · unfold cpQ; simp (disch := omega) only [cpyI_ne, cpyI_c, wI_ne]
    · unfold cpQ; simp (disch := omega) only [cpyI_ne, cpyI_c, wI_ne]
    · unfold cpQ; simp (disch := omega) only [cpyI_ne, cpyI_c, wI_ne]
theorem cpV_37_4 (m : Nat) {s : mS} (h : s.1 4 6 = 0 ∨ s.1 4 6 = 1) : f_Vs_copyOf_37_4 m s = some (0, cpV s 37 4) := by
  rw [f_Vs_copyOf_37_4_eq]
  simp (disch := decide) only [wI_ne]
  rw [if_pos h]; rfl
theorem cpV_69_4 (m : Nat) {s : mS} (h : s.1 4 6 = 0 ∨ s.1 4 6 = 1) : f_Vs_copyOf_69_4 m s = some (0, cpV s 69 4) := by
  rw [f_Vs_copyOf_69_4_eq]
  simp (disch := decide) only [wI_ne]
  rw [if_pos h]; rfl
theorem cpV_4_37 (m : Nat) {s : mS} (h : s.1 37 6 = 0 ∨ s.1 37 6 = 1) : f_Vs_copyOf_4_37 m s = some (0, cpV s 4 37) := by
  rw [f_Vs_copyOf_4_37_eq]
  simp (disch := decide) only [wI_ne]
  rw [if_pos h]; rfl
theorem cpV_4_69 (m : Nat) {s : mS} (h : s.1 69 6 = 0 ∨ s.1 69 6 = 1) : f_Vs_copyOf_4_69 m s = some (0, cpV s 4 69) := by
  rw [f_Vs_copyOf_4_69_eq]
  simp (disch := decide) only [wI_ne]
  rw [if_pos h]; rfl
theorem cpV_4_219 (m : Nat) {s : mS} (h : s.1 219 6 = 0 ∨ s.1 219 6 = 1) : f_Vs_copyOf_4_219 m s = some (0, cpV s 4 219) := by
  rw [f_Vs_copyOf_4_219_eq]
  simp (disch := decide) only [wI_ne]
  rw [if_pos h]; rfl
theorem cpQ_63_30 (m : Nat) (s : mS) : f_Sn_copyOf_63_30 m s = some (0, cpQ s 63 30) := by
  rw [f_Sn_copyOf_63_30_eq]
  simp (disch := decide) only [wI_ne]
  rfl
theorem cpQ_95_30 (m : Nat) (s : mS) : f_Sn_copyOf_95_30 m s = some (0, cpQ s 95 30) := by
  rw [f_Sn_copyOf_95_30_eq]
  simp (disch := decide) only [wI_ne]
  rfl
theorem cpQ_30_63 (m : Nat) (s : mS) : f_Sn_copyOf_30_63 m s = some (0, cpQ s 30 63) := by
  rw [f_Sn_copyOf_30_63_eq]
  simp (disch := decide) only [wI_ne]
  rfl
theorem cpQ_30_95 (m : Nat) (s : mS) : f_Sn_copyOf_30_95 m s = some (0, cpQ s 30 95) := by
  rw [f_Sn_copyOf_30_95_eq]
  simp (disch := decide) only [wI_ne]
  rfl
theorem cpQ_30_232 (m : Nat) (s : mS) : f_Sn_copyOf_30_232 m s = some (0, cpQ s 30 232) := by
  rw [f_Sn_copyOf_30_232_eq]
  simp (disch := decide) only [wI_ne]
  rfl
/-- a world copied: x out of y -/
def cpW (s : mS) (xv yv xs ys xq yq : Nat) : mS := cpQ (cpS (cpV s xv yv) xs ys) xq yq
theorem cpW_36_3 (m : Nat) {s : mS} (h : s.1 4 6 = 0 ∨ s.1 4 6 = 1) : f_Wd_copyOf_36_3 m s = some (0, cpW s 37 4 50 17 63 30) := by
  rw [f_Wd_copyOf_36_3_eq, cpV_37_4 m h, Option.bind_some, cpS_50_17, Option.bind_some, cpQ_63_30, Option.bind_some]
  rfl
theorem cpW_36_3_W {s : mS} {A N : Row} (h : World s 4 17 30 A N) : World (cpW s 37 4 50 17 63 30) 37 50 63 A N := by
  obtain ⟨h1, h2, h3, h4, h5⟩ := h
  have o := cpS_only (cpV s 37 4) 50 17
  have a1 := cpV_VR (x := 37) h2 h1.1 (by omega)
  have a2 : SR (cpV s 37 4) 17 A := SR_keep h3 (fun c a b => cpV_1 s 37 4 (by omega))
  have a3 := cpS_SR (x := 50) a2 h1.1 (by omega)
  have a4 := cpV_VN (x := 37) h4 h1.1 (by omega)
  have a5 : QR (cpS (cpV s 37 4) 50 17) 30 A := QR_keep h5 (fun c a b => by rw [o.1 c (by omega), cpV_1 s 37 4 (by omega)])
  refine ⟨h1, VR_keep a1 (fun c a b => ?_), SR_keep a3 (fun c a b => ?_), VN_keep a4 (fun c a b => ?_), cpQ_QR (x := 63) a5 (by omega)⟩
  · unfold cpW; rw [cpQ_1 _ _ _ (by omega), o.1 c (by omega)]
  · unfold cpW; rw [cpQ_1 _ _ _ (by omega)]
  · unfold cpW; rw [cpQ_2, o.2]
theorem cpW_36_3_1 (s : mS) {c : Nat} (hc : ¬ (37 ≤ c ∧ c < 37 + 30)) : (cpW s 37 4 50 17 63 30).1 c = s.1 c := by
  have o := cpS_only (cpV s 37 4) 50 17
  unfold cpW; rw [cpQ_1 _ _ _ (by omega), o.1 c (by omega), cpV_1 _ _ _ (by omega)]
theorem cpW_36_3_2 (s : mS) {c : Nat} (hc : ¬ (37 ≤ c ∧ c < 37 + 13)) : (cpW s 37 4 50 17 63 30).2 c = s.2 c := by
  have o := cpS_only (cpV s 37 4) 50 17
  unfold cpW; rw [cpQ_2, o.2, cpV_2 _ _ _ (by omega)]
theorem cpW_68_3 (m : Nat) {s : mS} (h : s.1 4 6 = 0 ∨ s.1 4 6 = 1) : f_Wd_copyOf_68_3 m s = some (0, cpW s 69 4 82 17 95 30) := by
  rw [f_Wd_copyOf_68_3_eq, cpV_69_4 m h, Option.bind_some, cpS_82_17, Option.bind_some, cpQ_95_30, Option.bind_some]
  rfl
theorem cpW_68_3_W {s : mS} {A N : Row} (h : World s 4 17 30 A N) : World (cpW s 69 4 82 17 95 30) 69 82 95 A N := by
  obtain ⟨h1, h2, h3, h4, h5⟩ := h
  have o := cpS_only (cpV s 69 4) 82 17
  have a1 := cpV_VR (x := 69) h2 h1.1 (by omega)
  have a2 : SR (cpV s 69 4) 17 A := SR_keep h3 (fun c a b => cpV_1 s 69 4 (by omega))
  have a3 := cpS_SR (x := 82) a2 h1.1 (by omega)
  have a4 := cpV_VN (x := 69) h4 h1.1 (by omega)
  have a5 : QR (cpS (cpV s 69 4) 82 17) 30 A := QR_keep h5 (fun c a b => by rw [o.1 c (by omega), cpV_1 s 69 4 (by omega)])
  refine ⟨h1, VR_keep a1 (fun c a b => ?_), SR_keep a3 (fun c a b => ?_), VN_keep a4 (fun c a b => ?_), cpQ_QR (x := 95) a5 (by omega)⟩
  · unfold cpW; rw [cpQ_1 _ _ _ (by omega), o.1 c (by omega)]
  · unfold cpW; rw [cpQ_1 _ _ _ (by omega)]
  · unfold cpW; rw [cpQ_2, o.2]
theorem cpW_68_3_1 (s : mS) {c : Nat} (hc : ¬ (69 ≤ c ∧ c < 69 + 30)) : (cpW s 69 4 82 17 95 30).1 c = s.1 c := by
  have o := cpS_only (cpV s 69 4) 82 17
  unfold cpW; rw [cpQ_1 _ _ _ (by omega), o.1 c (by omega), cpV_1 _ _ _ (by omega)]
theorem cpW_68_3_2 (s : mS) {c : Nat} (hc : ¬ (69 ≤ c ∧ c < 69 + 13)) : (cpW s 69 4 82 17 95 30).2 c = s.2 c := by
  have o := cpS_only (cpV s 69 4) 82 17
  unfold cpW; rw [cpQ_2, o.2, cpV_2 _ _ _ (by omega)]
theorem cpW_3_36 (m : Nat) {s : mS} (h : s.1 37 6 = 0 ∨ s.1 37 6 = 1) : f_Wd_copyOf_3_36 m s = some (0, cpW s 4 37 17 50 30 63) := by
  rw [f_Wd_copyOf_3_36_eq, cpV_4_37 m h, Option.bind_some, cpS_17_50, Option.bind_some, cpQ_30_63, Option.bind_some]
  rfl
theorem cpW_3_36_W {s : mS} {A N : Row} (h : World s 37 50 63 A N) : World (cpW s 4 37 17 50 30 63) 4 17 30 A N := by
  obtain ⟨h1, h2, h3, h4, h5⟩ := h
  have o := cpS_only (cpV s 4 37) 17 50
  have a1 := cpV_VR (x := 4) h2 h1.1 (by omega)
  have a2 : SR (cpV s 4 37) 50 A := SR_keep h3 (fun c a b => cpV_1 s 4 37 (by omega))
  have a3 := cpS_SR (x := 17) a2 h1.1 (by omega)
  have a4 := cpV_VN (x := 4) h4 h1.1 (by omega)
  have a5 : QR (cpS (cpV s 4 37) 17 50) 63 A := QR_keep h5 (fun c a b => by rw [o.1 c (by omega), cpV_1 s 4 37 (by omega)])
  refine ⟨h1, VR_keep a1 (fun c a b => ?_), SR_keep a3 (fun c a b => ?_), VN_keep a4 (fun c a b => ?_), cpQ_QR (x := 30) a5 (by omega)⟩
  · unfold cpW; rw [cpQ_1 _ _ _ (by omega), o.1 c (by omega)]
  · unfold cpW; rw [cpQ_1 _ _ _ (by omega)]
  · unfold cpW; rw [cpQ_2, o.2]
theorem cpW_3_36_1 (s : mS) {c : Nat} (hc : ¬ (4 ≤ c ∧ c < 4 + 30)) : (cpW s 4 37 17 50 30 63).1 c = s.1 c := by
  have o := cpS_only (cpV s 4 37) 17 50
  unfold cpW; rw [cpQ_1 _ _ _ (by omega), o.1 c (by omega), cpV_1 _ _ _ (by omega)]
theorem cpW_3_36_2 (s : mS) {c : Nat} (hc : ¬ (4 ≤ c ∧ c < 4 + 13)) : (cpW s 4 37 17 50 30 63).2 c = s.2 c := by
  have o := cpS_only (cpV s 4 37) 17 50
  unfold cpW; rw [cpQ_2, o.2, cpV_2 _ _ _ (by omega)]
theorem cpW_3_68 (m : Nat) {s : mS} (h : s.1 69 6 = 0 ∨ s.1 69 6 = 1) : f_Wd_copyOf_3_68 m s = some (0, cpW s 4 69 17 82 30 95) := by
  rw [f_Wd_copyOf_3_68_eq, cpV_4_69 m h, Option.bind_some, cpS_17_82, Option.bind_some, cpQ_30_95, Option.bind_some]
  rfl
theorem cpW_3_68_W {s : mS} {A N : Row} (h : World s 69 82 95 A N) : World (cpW s 4 69 17 82 30 95) 4 17 30 A N := by
  obtain ⟨h1, h2, h3, h4, h5⟩ := h
  have o := cpS_only (cpV s 4 69) 17 82
  have a1 := cpV_VR (x := 4) h2 h1.1 (by omega)
  have a2 : SR (cpV s 4 69) 82 A := SR_keep h3 (fun c a b => cpV_1 s 4 69 (by omega))
  have a3 := cpS_SR (x := 17) a2 h1.1 (by omega)
  have a4 := cpV_VN (x := 4) h4 h1.1 (by omega)
  have a5 : QR (cpS (cpV s 4 69) 17 82) 95 A := QR_keep h5 (fun c a b => by rw [o.1 c (by omega), cpV_1 s 4 69 (by omega)])
  refine ⟨h1, VR_keep a1 (fun c a b => ?_), SR_keep a3 (fun c a b => ?_), VN_keep a4 (fun c a b => ?_), cpQ_QR (x := 30) a5 (by omega)⟩
  · unfold cpW; rw [cpQ_1 _ _ _ (by omega), o.1 c (by omega)]
  · unfold cpW; rw [cpQ_1 _ _ _ (by omega)]
  · unfold cpW; rw [cpQ_2, o.2]
theorem cpW_3_68_1 (s : mS) {c : Nat} (hc : ¬ (4 ≤ c ∧ c < 4 + 30)) : (cpW s 4 69 17 82 30 95).1 c = s.1 c := by
  have o := cpS_only (cpV s 4 69) 17 82
  unfold cpW; rw [cpQ_1 _ _ _ (by omega), o.1 c (by omega), cpV_1 _ _ _ (by omega)]
theorem cpW_3_68_2 (s : mS) {c : Nat} (hc : ¬ (4 ≤ c ∧ c < 4 + 13)) : (cpW s 4 69 17 82 30 95).2 c = s.2 c := by
  have o := cpS_only (cpV s 4 69) 17 82
  unfold cpW; rw [cpQ_2, o.2, cpV_2 _ _ _ (by omega)]
