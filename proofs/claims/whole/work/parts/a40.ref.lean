/-! ===== layer 3: the reference: what it answers of a row, acts ===== -/
theorem sr_ext {s : mS} {c : Nat} {f g : Row} (h : ∀ k, f k = g k) : sr s c f = sr s c g := by rw [funext h]
theorem R_isIn (m : Nat) (x a b : Int) (s : mS) : f_R_isIn m x a b s = some (if a ≤ x ∧ x ≤ b then 1 else 0, s) := by
  rw [f_R_isIn_eq]
  by_cases c1 : x < a
  · rw [if_pos c1, if_neg (by omega)]
  · by_cases c2 : b < x
    · rw [if_neg c1, if_pos c2, if_neg (by omega)]
    · rw [if_neg c1, if_neg c2, if_pos (by omega)]
theorem R_isBox {s : mS} {A : Row} (hA : s.1 251 = A) (hv : WFv A) (m : Nat) (x : Int) : f_R_isBox m x s = some (if 0 ≤ x ∧ x < A 0 then 1 else 0, s) := by
  have := WFv_boxes hv
  rw [f_R_isBox_eq, R_isIn, hA, w32_in (by omega) (by omega)]
  simp only [Option.bind_some]
  have e : (0 ≤ x ∧ x ≤ A 0 - 1) ↔ (0 ≤ x ∧ x < A 0) := by omega
  simp only [e]
  by_cases c : 0 ≤ x ∧ x < A 0
  · simp only [if_pos c]; rfl
  · simp only [if_neg c]; rfl
theorem R_isPlot {s : mS} {A : Row} (hA : s.1 251 = A) (hv : WFv A) (m : Nat) (x : Int) : f_R_isPlot m x s = some (if 0 ≤ x ∧ x < A 1 then 1 else 0, s) := by
  have := WFv_plots hv
  rw [f_R_isPlot_eq, R_isIn, hA, w32_in (by omega) (by omega)]
  simp only [Option.bind_some]
  have e : (0 ≤ x ∧ x ≤ A 1 - 1) ↔ (0 ≤ x ∧ x < A 1) := by omega
  simp only [e]
  by_cases c : 0 ≤ x ∧ x < A 1
  · simp only [if_pos c]; rfl
  · simp only [if_neg c]; rfl
theorem R_isDead {s : mS} {A : Row} (hA : s.1 251 = A) (hv : WFv A) (m : Nat) (x : Int) : f_R_isDead m x s = some (if 0 ≤ x ∧ x < A 2 then 1 else 0, s) := by
  have := WFv_dead hv
  rw [f_R_isDead_eq, R_isIn, hA, w32_in (by omega) (by omega)]
  simp only [Option.bind_some]
  have e : (0 ≤ x ∧ x ≤ A 2 - 1) ↔ (0 ≤ x ∧ x < A 2) := by omega
  simp only [e]
  by_cases c : 0 ≤ x ∧ x < A 2
  · simp only [if_pos c]; rfl
  · simp only [if_neg c]; rfl
theorem up_eq (A : Row) (k : Nat) (v : Int) : up A k v k = v := by unfold up; rw [if_pos rfl]
theorem up_ne {A : Row} {k : Nat} {v : Int} {j : Nat} (h : j ≠ k) : up A k v j = A j := by unfold up; rw [if_neg h]
/-- an index beside a base -/
theorem ixn {k : Nat} {d : Nat} (h : k + d < 100000) : (w32 ((k : Int) + (d : Int))).toNat = k + d := by rw [w32_in (by omega) (by omega)]; omega
theorem R_free {s : mS} {A : Row} (hA : s.1 251 = A) (m : Nat) {b : Nat} (hb : b < 9) : f_R_isFree m (b : Int) s = some (if freeA A b = true then 1 else 0, s) := by
  rw [f_R_isFree_eq, hA]
  simp (disch := omega) only [w32_in, inR_pos, Int.toNat_add_nat, Int.reduceToNat, freeA, Bool.and_eq_true, decide_eq_true_eq]
  by_cases c1 : A (95 + b) = -1
  · by_cases c2 : A (104 + b) = 0
    · rw [if_pos c1, if_pos c2, if_pos ⟨c1, c2⟩]
    · rw [if_pos c1, if_neg c2, if_neg (fun h => c2 h.2)]
  · rw [if_neg c1, if_neg (fun h => c1 h.1)]
theorem R_fits {s : mS} {A : Row} (hA : s.1 251 = A) (m : Nat) {d b : Nat} (hd : d < 12) (hb : b < 9) : f_R_fits m (d : Int) (b : Int) s = some (if A (6 + b) < A (29 + d) then 0 else 1, s) := by
  rw [f_R_fits_eq, hA]
  simp (disch := omega) only [w32_in, inR_pos, Int.toNat_add_nat, Int.reduceToNat]
  split <;> rfl
theorem R_has (m : Nat) (s : mS) {a k : Nat} (ha : a < 2147483648) (hk : k < 32) : f_R_has m (a : Int) (k : Int) s = some (if a.testBit k = true then 1 else 0, s) := by
  rw [f_R_has_eq, bit_nat ha hk]
  cases a.testBit k <;> rfl
theorem R_frostL {s : mS} {A : Row} (hA : s.1 251 = A) (hv : WFv A) {day : Int} (h0 : 0 ≤ day) (h1 : day ≤ 1000) (m : Nat) : ∀ (k n i : Nat), i + k = (A 4).toNat → k < n → l_R_isFrost_L2 m n day (i : Int) s = some (if ff (frostB A day) i k = -1 then 0 else 1, s) := by
  have hn := WFv_frosts hv
  intro k
  induction k with
  | zero =>
    intro n i hi hkn
    obtain ⟨n, rfl⟩ : ∃ n', n = n' + 1 := ⟨n - 1, by omega⟩
    rw [l_R_isFrost_L2_eq, hA, if_neg (by omega)]
    rfl
  | succ k ih =>
    intro n i hi hkn
    obtain ⟨n, rfl⟩ : ∃ n', n = n' + 1 := ⟨n - 1, by omega⟩
    have hf : (i : Int) < A 4 := by omega
    have hx := WFv_frost hv hf
    have ih1 := ih n (i + 1) (by omega) (by omega)
    have e1 : w32 ((i : Int) + 1) = ((i + 1 : Nat) : Int) := by rw [w32_in (by omega) (by omega)]; rfl
    rw [l_R_isFrost_L2_eq, hA, if_pos hf, e1, R_isIn]
    simp (disch := omega) only [inR_pos, w32_in, Int.toNat_add_nat, Int.reduceToNat, Option.bind_some, ih1, ff, frostB, decide_eq_true_eq]
    by_cases c2 : A (77 + i) ≤ day ∧ day < A (77 + i) + A (81 + i)
    · have c3 : ¬ ((i : Int) = -1) := by omega
      have c4 : (0 ≤ day - A (77 + i) ∧ day - A (77 + i) ≤ A (81 + i) - 1) := by omega
      simp [c2, c3, c4]
    · have c4 : ¬ (0 ≤ day - A (77 + i) ∧ day - A (77 + i) ≤ A (81 + i) - 1) := by omega
      simp only [c2, c4, if_false]; rfl
theorem R_frost {s : mS} {A : Row} (hA : s.1 251 = A) (hv : WFv A) {day : Int} (h0 : 0 ≤ day) (h1 : day ≤ 1000) {m : Nat} (hm : 1000 ≤ m) : f_R_isFrost m day s = some (if frostA A day = -1 then 0 else 1, s) := by
  have hn := WFv_frosts hv
  rw [f_R_isFrost_eq]
  exact R_frostL hA hv h0 h1 m (A 4).toNat m 0 (by omega) (by omega)
theorem R_byKin {s : mS} {A : Row} (hA : s.1 251 = A) (hv : WFv A) (hw : WFs A) (m : Nat) {d p : Nat} (hd : (d : Int) < A 2) (hp : (p : Int) < A 1) : f_R_isByKin m (d : Int) (p : Int) s = some (if byKin A d p = true then 1 else 0, s) := by
  have w1 := WFv_plots hv
  have w2 := WFv_dead hv
  have hx := WFs_plot hw hp
  have ho := WFv_one hv hd
  rw [f_R_isByKin_eq, hA]
  simp (disch := omega) only [inR_pos, w32_in, Int.toNat_add_nat, Int.reduceToNat]
  by_cases c : A (154 + p) = -1
  · simp [byKin, c]
  · obtain ⟨k, hk⟩ : ∃ k : Nat, A (154 + p) = (k : Int) := ⟨(A (154 + p)).toNat, by omega⟩
    obtain ⟨a, ha⟩ : ∃ a : Nat, A (53 + d) = (a : Int) := ⟨(A (53 + d)).toNat, by omega⟩
    rw [if_neg c, hk, ha, R_has m s (by omega) (by omega)]
    have : ¬ (k : Int) = -1 := by omega
    simp only [byKin, hk, ha, Option.bind_some, Int.toNat_natCast]
    cases h : a.testBit k <;> simp [this]
theorem R_whyLend {s : mS} {A : Row} (hA : s.1 251 = A) (hv : WFv A) (m : Nat) {d b : Nat} (hd : (d : Int) < A 2) (hb : (b : Int) < A 0) : f_R_whyLend m (d : Int) (b : Int) s = some (whyLend A d b, s) := by
  have w0 := WFv_boxes hv
  have w2 := WFv_dead hv
  rw [f_R_whyLend_eq, hA, R_free hA m (by omega)]
  simp only [Option.bind_some]
  rw [R_fits hA m (by omega) (by omega)]
  simp (disch := omega) only [inR_pos, w32_in, Int.toNat_add_nat, Int.reduceToNat, Option.bind_some, whyLend, hA]
  by_cases c1 : A (164 + d) = 1
  · by_cases c2 : freeA A b = true
    · by_cases c3 : A (6 + b) < A (29 + d)
      · simp [c1, c2, c3]
      · by_cases c4 : A (86 + b) = A (15 + b)
        · simp [c1, c2, c3, c4]
        · simp [c1, c2, c3, c4]
    · simp [c1, c2]
  · simp [c1]
theorem R_whyLay {s : mS} {A : Row} (hA : s.1 251 = A) (hv : WFv A) (hw : WFs A) {m : Nat} (hm : 1000 ≤ m) {d p : Nat} (hd : (d : Int) < A 2) (hp : (p : Int) < A 1) : f_R_whyLay m (d : Int) (p : Int) s = some (whyLay A d p, s) := by
  have w1 := WFv_plots hv
  have w2 := WFv_dead hv
  have hdy := WFs_day hw
  rw [f_R_whyLay_eq, hA, R_frost hA hv (by omega) (by omega) hm]
  simp only [Option.bind_some]
  rw [R_byKin hA hv hw m hd hp]
  simp (disch := omega) only [inR_pos, w32_in, Int.toNat_add_nat, Int.reduceToNat, Option.bind_some, whyLay, hA]
  by_cases c1 : A (164 + d) = 2
  · by_cases c2 : frostA A (A 85) = -1
    · by_cases c3 : 0 < A (149 + p)
      · simp [c1, c2, c3]
      · by_cases c4 : byKin A d p = true
        · simp [c1, c2, c3, c4]
        · simp [c1, c2, c3, c4]
    · simp [c1, c2]
  · simp [c1]
theorem R_whySwap {s : mS} {A : Row} (hA : s.1 251 = A) (hv : WFv A) (hw : WFs A) (m : Nat) {d e : Nat} (hd : (d : Int) < A 2) (he : (e : Int) < A 2) : f_R_whySwap m (d : Int) (e : Int) s = some (whySwap A d e, s) := by
  have w0 := WFv_boxes hv
  have w2 := WFv_dead hv
  rw [f_R_whySwap_eq, hA]
  simp (disch := omega) only [inR_pos, w32_in, Int.toNat_add_nat, Int.reduceToNat, whySwap]
  by_cases c1 : A (164 + d) = 2
  · by_cases c2 : A (164 + e) = 2
    · obtain ⟨g1, g2, g3⟩ := WFs_inb hw hd c1
      obtain ⟨k1, k2, k3⟩ := WFs_inb hw he c2
      obtain ⟨b, hb⟩ : ∃ b : Nat, A (176 + d) = (b : Int) := ⟨(A (176 + d)).toNat, by omega⟩
      obtain ⟨c, hc⟩ : ∃ c : Nat, A (176 + e) = (c : Int) := ⟨(A (176 + e)).toNat, by omega⟩
      rw [if_pos c1, if_pos c2, hc, R_fits hA m (by omega) (by omega)]
      simp only [Option.bind_some, hA, hb]
      rw [R_fits hA m (by omega) (by omega)]
      simp only [Option.bind_some, Int.toNat_natCast]
      by_cases c3 : A (6 + c) < A (29 + d)
      · simp [c1, c2, c3]
      · by_cases c4 : A (6 + b) < A (29 + e)
        · simp [c1, c2, c3, c4]
        · simp [c1, c2, c3, c4]
    · simp [c1, c2]
  · simp [c1]
theorem R_lies {s : mS} {A : Row} (hA : s.1 251 = A) (m : Nat) {d b : Nat} (hd : d < 12) (hb : b < 9) : f_R_lies m (d : Int) (b : Int) s = some (0, sr s 251 (up (up A (176 + d) b) (95 + b) d)) := by
  rw [f_R_lies_eq]
  simp (disch := omega) only [inR_pos, w32_in, Int.toNat_add_nat, Int.reduceToNat, wI_sr, sr_eq, sr_sr, hA]
theorem R_lends {s : mS} {A : Row} (hA : s.1 251 = A) (m : Nat) (hm : 1000 ≤ m) {d b : Nat} (hd : d < 12) (hb : b < 9) (hl : 0 ≤ A (86 + b)) (hl2 : A (86 + b) ≤ 99) : f_R_lends m (d : Int) (b : Int) s = some (0, sr s 251 (lends A d b)) := by
  rw [f_R_lends_eq]
  simp (disch := omega) only [inR_pos, w32_in, Int.toNat_add_nat, Int.reduceToNat, wI_sr, sr_eq, sr_sr, hA]
  rw [R_lies (A := up (up A (164 + d) 2) (86 + b) (w32 (up A (164 + d) 2 (86 + b) + 1))) (sr_eq _ _ _) m hd hb]
  simp only [Option.bind_some, sr_sr]
  obtain ⟨n, hmn⟩ : ∃ n, m = n + 4 := ⟨m - 4, by omega⟩
  rw [show l_R_lends_L32 m m = l_R_lends_L32 m (n + 1 + 1 + 1 + 1) from by rw [← hmn]]
  have z3 : ((113 : Int) + 4 * (b : Int) + 3).toNat = 116 + 4 * b := by omega
  have z2 : ((113 : Int) + 4 * (b : Int) + 2).toNat = 115 + 4 * b := by omega
  have z1 : ((113 : Int) + 4 * (b : Int) + 1).toNat = 114 + 4 * b := by omega
  have y3 : ((113 : Int) + 4 * (b : Int) + 3 - 1).toNat = 115 + 4 * b := by omega
  have y2 : ((113 : Int) + 4 * (b : Int) + 2 - 1).toNat = 114 + 4 * b := by omega
  have y1 : ((113 : Int) + 4 * (b : Int) + 1 - 1).toNat = 113 + 4 * b := by omega
  have z0 : ((113 : Int) + 4 * (b : Int)).toNat = 113 + 4 * b := by omega
  have u1 : up A (164 + d) 2 (86 + b) = A (86 + b) := by unfold up; grind
  simp (disch := omega) only [inR_pos, w32_in, l_R_lends_L32_eq, if_true, if_false, Int.reduceLT, Int.reduceAdd, Int.reduceNeg, Int.reduceSub, z3, z2, z1, z0, y3, y2, y1, wI_sr, sr_eq, sr_sr, u1]
  congr 2
  refine sr_ext (fun k => ?_)
  simp (disch := omega) only [up_ne, up_eq]
  clear z3 z2 z1 y3 y2 y1 z0 u1 hA hl hl2 hmn hm
  simp only [lends, up_at]
  (repeat' split) <;> first | rfl | (exfalso; omega)
theorem R_lays {s : mS} {A : Row} (hA : s.1 251 = A) (m : Nat) {d p : Nat} (hd : d < 12) (hp : p < 5) (hb0 : 0 ≤ A (176 + d)) (hb : A (176 + d) < 9) : f_R_lays m (d : Int) (p : Int) s = some (0, sr s 251 (lays A d p)) := by
  obtain ⟨b, hbb⟩ : ∃ b : Nat, A (176 + d) = (b : Int) := ⟨(A (176 + d)).toNat, by omega⟩
  rw [f_R_lays_eq]
  simp (disch := omega) only [inR_pos, w32_in, Int.toNat_add_nat, Int.reduceToNat, wI_sr, sr_eq, sr_sr, hA, hbb]
  congr 2
  refine sr_ext (fun k => ?_)
  have hbn : (A (176 + d)).toNat = b := by omega
  have hb9 : b < 9 := by omega
  simp (disch := omega) only [up_ne, up_eq]
  simp only [lays, up_at, hbn]
  clear hA hb0 hb hbb hbn
  (repeat' split) <;> first | rfl | (exfalso; omega)
theorem R_mends {s : mS} {A : Row} (hA : s.1 251 = A) (m : Nat) {b : Nat} (hb : b < 9) (y : Int) : f_R_live m 3 (b : Int) y s = some (0, sr s 251 (mends A b)) := by
  rw [f_R_live_eq]
  have n0 : ¬ (3 : Int) = 0 := by decide
  have n1 : ¬ (3 : Int) = 1 := by decide
  have n2 : ¬ (3 : Int) = 2 := by decide
  simp only [n0, n1, n2, if_false]
  simp (disch := omega) only [inR_pos, w32_in, Int.toNat_add_nat, Int.reduceToNat, wI_sr, hA]
  rfl
theorem R_whyMend {s : mS} {A : Row} (hA : s.1 251 = A) (m : Nat) {b : Nat} (hb : b < 9) (y : Int) : f_R_why m 3 (b : Int) y s = some (whyMend A b, s) := by
  rw [f_R_why_eq]
  have n0 : ¬ (3 : Int) = 0 := by decide
  have n1 : ¬ (3 : Int) = 1 := by decide
  have n2 : ¬ (3 : Int) = 2 := by decide
  simp only [n0, n1, n2, if_false, hA]
  simp (disch := omega) only [inR_pos, w32_in, Int.toNat_add_nat, Int.reduceToNat, whyMend]
  by_cases c1 : A (86 + b) = 0
  · simp [c1]
  · by_cases c2 : A (95 + b) = -1 <;> simp [c1, c2]
