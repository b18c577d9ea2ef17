/-! ===== written by gen_a43.py: the reference: days go by, rows put aside and brought back ===== -/
/-- n places of a row from another one -/
def rowPut (F : Row) (o : Nat) (G : Row) (p n : Nat) : Row := fun q => if o ≤ q ∧ q < o + n then G (p + (q - o)) else F q
theorem rowPut_zero (F : Row) (o : Nat) (G : Row) (p : Nat) (q : Nat) : rowPut F o G p 0 q = F q := by unfold rowPut; rw [if_neg (by omega)]
theorem rowPut_step (C G : Row) (o p k q : Nat) : rowPut (up C o (G p)) (o + 1) G (p + 1) k q = rowPut C o G p (k + 1) q := by
  unfold rowPut
  by_cases h : q = o
  · subst h
    rw [if_neg (by omega), up_eq, if_pos (by omega)]
    congr 1; omega
  · by_cases h2 : o + 1 ≤ q ∧ q < o + 1 + k
    · rw [if_pos h2, if_pos (by omega)]
      congr 1; omega
    · rw [if_neg h2, if_neg (by omega), up_ne h]
/-- boxes aired, plots at rest: none for long -/
def WFx (A : Row) : Prop := (∀ b : Nat, b < 9 → A (104 + b) ≤ 9) ∧ ∀ p : Nat, p < 5 → A (149 + p) ≤ 60
theorem WFx_lends {A : Row} (h : WFx A) {d b : Nat} (hd : d < 12) (hb : b < 9) : WFx (lends A d b) := ⟨fun i hi => by rw [lends_air hd hb hi]; exact h.1 i hi, fun i hi => by rw [lends_rest hd hb hi]; exact h.2 i hi⟩
theorem WFx_swaps {A : Row} (h : WFx A) {d e : Nat} (hd : d < 12) (he : e < 12) (hb : (A (176 + d)).toNat < 9) (hc : (A (176 + e)).toNat < 9) : WFx (swaps A d e) := ⟨fun i hi => by rw [swaps_air hd he hb hc hi]; exact h.1 i hi, fun i hi => by rw [swaps_rest hd he hb hc hi]; exact h.2 i hi⟩
theorem WFx_mends {A : Row} (h : WFx A) {b : Nat} (hb : b < 9) : WFx (mends A b) := ⟨fun i hi => by rw [mends_air hb hi]; exact h.1 i hi, fun i hi => by rw [mends_rest hb hi]; exact h.2 i hi⟩
theorem WFx_lays {A : Row} (h : WFx A) (h5 : A 5 ≤ 9) {d p : Nat} (hd : d < 12) (hp : p < 5) (hb : (A (176 + d)).toNat < 9) (hr : A (24 + p) ≤ 60) : WFx (lays A d p) := ⟨fun i hi => by rw [lays_air hd hp hb hi]; have := h.1 i hi; split <;> omega, fun i hi => by rw [lays_rest hd hp hb hi]; have := h.2 i hi; split <;> omega⟩
theorem WFx_dayA {A : Row} (h : WFx A) (hn : A 2 ≤ 12) : WFx (dayA A) := ⟨fun i hi => by rw [dayA_air hn hi]; have := h.1 i hi; split <;> omega, fun i hi => by rw [dayA_rest hn hi]; have := h.2 i hi; split <;> omega⟩
theorem WFx_cg {A B : Row} (h : WFx A) (he : ∀ k, 85 ≤ k → k < 224 → B k = A k) : WFx B := ⟨fun i hi => by rw [he _ (by omega) (by omega)]; exact h.1 i hi, fun i hi => by rw [he _ (by omega) (by omega)]; exact h.2 i hi⟩
/-- all that is told and is so, as it can be -/
def WF (A : Row) : Prop := WFv A ∧ WFs A ∧ WFx A
theorem WF_dayA {A : Row} (h : WF A) (h4 : A 85 < 400) : WF (dayA A) := ⟨WFv_cg h.1 (fun k hk => dayA_lo (WFv_dead h.1).2 hk), WFs_dayA h.1 h.2.1 h4, WFx_dayA h.2.2 (WFv_dead h.1).2⟩
theorem WF_lends {A : Row} (h : WF A) {d b : Nat} (hd : (d : Int) < A 2) (hb : (b : Int) < A 0) (hy : whyLend A d b = 0) : WF (lends A d b) := by
  have w0 := WFv_boxes h.1
  have w2 := WFv_dead h.1
  exact ⟨WFv_cg h.1 (fun k hk => lends_lo (by omega) (by omega) hk), WFs_lends h.1 h.2.1 hd hb hy, WFx_lends h.2.2 (by omega) (by omega)⟩
theorem WF_mends {A : Row} (h : WF A) {b : Nat} (hb : (b : Int) < A 0) : WF (mends A b) := by
  have w0 := WFv_boxes h.1
  exact ⟨WFv_cg h.1 (fun k hk => mends_lo (by omega) hk), WFs_mends h.1 h.2.1 hb, WFx_mends h.2.2 (by omega)⟩
theorem WF_lays {A : Row} (h : WF A) {d p : Nat} (hd : (d : Int) < A 2) (hp : (p : Int) < A 1) (hy : whyLay A d p = 0) : WF (lays A d p) := by
  have w0 := WFv_boxes h.1
  have w1 := WFv_plots h.1
  have w2 := WFv_dead h.1
  have w5 := WFv_airn h.1
  have c1 : A (164 + d) = 2 := by unfold whyLay at hy; grind
  have g := WFs_inb h.2.1 hd c1
  have hp2 := WFv_plot h.1 hp
  exact ⟨WFv_cg h.1 (fun k hk => lays_lo (by omega) (by omega) (by omega) hk), WFs_lays h.1 h.2.1 hd hp hy, WFx_lays h.2.2 w5.2 (by omega) (by omega) (by omega) hp2.2⟩
theorem WF_swaps {A : Row} (h : WF A) {d e : Nat} (hd : (d : Int) < A 2) (he : (e : Int) < A 2) (hde : d ≠ e) (hy : whySwap A d e = 0) : WF (swaps A d e) := by
  have w0 := WFv_boxes h.1
  have w2 := WFv_dead h.1
  have c1 : A (164 + d) = 2 := by unfold whySwap at hy; grind
  have c2 : A (164 + e) = 2 := by unfold whySwap at hy; grind
  have g := WFs_inb h.2.1 hd c1
  have g2 := WFs_inb h.2.1 he c2
  exact ⟨WFv_cg h.1 (fun k hk => swaps_lo (by omega) (by omega) (by omega) (by omega) hk), WFs_swaps h.1 h.2.1 hd he hde hy, WFx_swaps h.2.2 (by omega) (by omega) (by omega) (by omega)⟩
theorem WF_daysA : ∀ (n : Nat) {A : Row}, WF A → A 85 + n ≤ 400 → WF (daysA n A) ∧ daysA n A 85 = A 85 + n
  | 0, A, h, _ => ⟨h, by show A 85 = A 85 + 0; omega⟩
  | n + 1, A, h, h4 => by
    have hd := dayA_day (A := A) (WFv_dead h.1).2
    have := WF_daysA n (WF_dayA h (by omega)) (by rw [hd]; omega)
    refine ⟨this.1, ?_⟩
    show daysA n (dayA A) 85 = _
    rw [this.2, hd]; omega
theorem WF_cg {A B : Row} (h : WF A) (he : ∀ k, k < 224 → B k = A k) : WF B := ⟨WFv_cg h.1 (fun k hk => he k (by omega)), WFs_cg h.2.1 h.1 he, WFx_cg h.2.2 (fun k _ hk => he k hk)⟩
theorem R_dayW {s : mS} {A : Row} (hA : s.1 251 = A) (h : WF A) {m : Nat} (hm : 1000 ≤ m) : f_R_oneDay m s = some (0, sr s 251 (dayA A)) :=
  R_day hA h.1 h.2.1 (fun b hb => by have := h.2.2.1 b hb; omega) (fun b hb => by have := h.2.2.2 b hb; omega) hm
theorem R_daysL {s : mS} {m : Nat} (hm : 1000 ≤ m) (x2 : Int) (hx : x2 ≤ 400) : ∀ (k n i : Nat) (A : Row), WF A → (i : Int) + k = x2 → k < n → A 85 + k ≤ 400 →
    l_R_passDays_L18 m n x2 (i : Int) (sr s 251 A) = some (x2, sr s 251 (daysA k A)) := by
  intro k
  induction k with
  | zero =>
    intro n i A h hi hkn h4
    obtain ⟨n, rfl⟩ : ∃ n', n = n' + 1 := ⟨n - 1, by omega⟩
    rw [l_R_passDays_L18_eq, if_neg (by omega)]; rfl
  | succ k ih =>
    intro n i A h hi hkn h4
    obtain ⟨n, rfl⟩ : ∃ n', n = n' + 1 := ⟨n - 1, by omega⟩
    have e1 : w32 ((i : Int) + 1) = ((i + 1 : Nat) : Int) := by rw [w32_in (by omega) (by omega)]; rfl
    have hd := dayA_day (A := A) (WFv_dead h.1).2
    rw [l_R_passDays_L18_eq, if_pos (by omega), e1, R_dayW (sr_eq s 251 A) h hm, Option.bind_some]
    rw [sr_sr, ih n (i + 1) (dayA A) (WF_dayA h (by omega)) (by omega) (by omega) (by rw [hd]; omega)]
    rfl
theorem R_days {s : mS} {A : Row} (hA : s.1 251 = A) (h : WF A) {m : Nat} (hm : 10000 ≤ m) {n : Int} (h0 : 0 ≤ n) (h1 : n ≤ 400) : f_R_passDays m n s = some (min n (400 - A 85), sr s 251 (daysA (min n (400 - A 85)).toNat A)) := by
  have hdy := WFs_day h.2.1
  have e : sr s 251 A = s := by rw [← hA]; exact sr_self s 251
  have q : f_R_least m n (w32 (400 - s.1 251 85)) s = some (min n (400 - A 85), s) := by
    rw [f_R_least_eq, hA, w32_in (by omega) (by omega)]
    by_cases c : n < 400 - A 85
    · rw [if_pos c, show min n (400 - A 85) = n from by omega]
    · rw [if_neg c, show min n (400 - A 85) = 400 - A 85 from by omega]
  rw [f_R_passDays_eq, q, Option.bind_some]
  have := R_daysL (s := s) (m := m) (by omega) (min n (400 - A 85)) (by omega) (min n (400 - A 85)).toNat m 0 A h (by omega) (by omega) (by omega)
  rw [e] at this
  exact this
theorem R_saveL_254 {s : mS} {m : Nat} {o : Nat} (ho : o + 139 ≤ 1112) : ∀ (k n i : Nat) (C : Row), i + k = 139 → k < n →
    l_R_save_249_254_L2 m n (o : Int) (i : Int) (sr s 254 C) = some (0, sr s 254 (rowPut C (o + i) (s.1 251) (85 + i) k)) := by
  intro k
  induction k with
  | zero =>
    intro n i C hi hkn
    obtain ⟨n, rfl⟩ : ∃ n', n = n' + 1 := ⟨n - 1, by omega⟩
    rw [l_R_save_249_254_L2_eq, if_neg (by omega), sr_ext (rowPut_zero C (o + i) (s.1 251) (85 + i))]
  | succ k ih =>
    intro n i C hi hkn
    obtain ⟨n, rfl⟩ : ∃ n', n = n' + 1 := ⟨n - 1, by omega⟩
    have e1 : w32 ((i : Int) + 1) = ((i + 1 : Nat) : Int) := by rw [w32_in (by omega) (by omega)]; rfl
    have e2 : w32 ((o : Int) + (i : Int)) = ((o + i : Nat) : Int) := by rw [w32_in (by omega) (by omega)]; omega
    have e3 : w32 (85 + (i : Int)) = ((85 + i : Nat) : Int) := by rw [w32_in (by omega) (by omega)]; omega
    rw [l_R_save_249_254_L2_eq, if_pos (by omega), e1, e2, e3, inR_pos (by omega) (by omega), inR_pos (by omega) (by omega), Int.toNat_natCast, Int.toNat_natCast, sr_ne s 254 C (by decide : 251 ≠ 254), w_sr]
    rw [ih n (i + 1) _ (by omega) (by omega)]
    rw [show o + (i + 1) = o + i + 1 from by omega, show 85 + (i + 1) = 85 + i + 1 from by omega, sr_ext (rowPut_step C (s.1 251) (o + i) (85 + i) k)]
theorem R_save_254 (s : mS) {m : Nat} (hm : 1000 ≤ m) {o : Nat} (ho : o + 139 ≤ 1112) : f_R_save_249_254 m (o : Int) s = some (0, sr s 254 (rowPut (s.1 254) o (s.1 251) 85 139)) := by
  rw [f_R_save_249_254_eq]
  have := R_saveL_254 (s := s) (m := m) ho 139 m 0 (s.1 254) (by omega) (by omega)
  rw [sr_self] at this
  exact this
theorem R_backL_254 {s : mS} {m : Nat} {o : Nat} (ho : o + 139 ≤ 1112) : ∀ (k n i : Nat) (C : Row), i + k = 139 → k < n →
    l_R_comeBack_249_254_L2 m n (o : Int) (i : Int) (sr s 251 C) = some (0, sr s 251 (rowPut C (85 + i) (s.1 254) (o + i) k)) := by
  intro k
  induction k with
  | zero =>
    intro n i C hi hkn
    obtain ⟨n, rfl⟩ : ∃ n', n = n' + 1 := ⟨n - 1, by omega⟩
    rw [l_R_comeBack_249_254_L2_eq, if_neg (by omega), sr_ext (rowPut_zero C (85 + i) (s.1 254) (o + i))]
  | succ k ih =>
    intro n i C hi hkn
    obtain ⟨n, rfl⟩ : ∃ n', n = n' + 1 := ⟨n - 1, by omega⟩
    have e1 : w32 ((i : Int) + 1) = ((i + 1 : Nat) : Int) := by rw [w32_in (by omega) (by omega)]; rfl
    have e2 : w32 ((o : Int) + (i : Int)) = ((o + i : Nat) : Int) := by rw [w32_in (by omega) (by omega)]; omega
    have e3 : w32 (85 + (i : Int)) = ((85 + i : Nat) : Int) := by rw [w32_in (by omega) (by omega)]; omega
    rw [l_R_comeBack_249_254_L2_eq, if_pos (by omega), e1, e2, e3, inR_pos (by omega) (by omega), inR_pos (by omega) (by omega), Int.toNat_natCast, Int.toNat_natCast, sr_ne s 251 C (by decide : 254 ≠ 251), w_sr]
    rw [ih n (i + 1) _ (by omega) (by omega)]
    rw [show o + (i + 1) = o + i + 1 from by omega, show 85 + (i + 1) = 85 + i + 1 from by omega, sr_ext (rowPut_step C (s.1 254) (85 + i) (o + i) k)]
theorem R_back_254 (s : mS) {m : Nat} (hm : 1000 ≤ m) {o : Nat} (ho : o + 139 ≤ 1112) : f_R_comeBack_249_254 m (o : Int) s = some (0, sr s 251 (rowPut (s.1 251) 85 (s.1 254) o 139)) := by
  rw [f_R_comeBack_249_254_eq]
  have := R_backL_254 (s := s) (m := m) ho 139 m 0 (s.1 251) (by omega) (by omega)
  rw [sr_self] at this
  exact this
theorem R_saveL_255 {s : mS} {m : Nat} {o : Nat} (ho : o + 139 ≤ 139) : ∀ (k n i : Nat) (C : Row), i + k = 139 → k < n →
    l_R_save_249_255_L2 m n (o : Int) (i : Int) (sr s 255 C) = some (0, sr s 255 (rowPut C (o + i) (s.1 251) (85 + i) k)) := by
  intro k
  induction k with
  | zero =>
    intro n i C hi hkn
    obtain ⟨n, rfl⟩ : ∃ n', n = n' + 1 := ⟨n - 1, by omega⟩
    rw [l_R_save_249_255_L2_eq, if_neg (by omega), sr_ext (rowPut_zero C (o + i) (s.1 251) (85 + i))]
  | succ k ih =>
    intro n i C hi hkn
    obtain ⟨n, rfl⟩ : ∃ n', n = n' + 1 := ⟨n - 1, by omega⟩
    have e1 : w32 ((i : Int) + 1) = ((i + 1 : Nat) : Int) := by rw [w32_in (by omega) (by omega)]; rfl
    have e2 : w32 ((o : Int) + (i : Int)) = ((o + i : Nat) : Int) := by rw [w32_in (by omega) (by omega)]; omega
    have e3 : w32 (85 + (i : Int)) = ((85 + i : Nat) : Int) := by rw [w32_in (by omega) (by omega)]; omega
    rw [l_R_save_249_255_L2_eq, if_pos (by omega), e1, e2, e3, inR_pos (by omega) (by omega), inR_pos (by omega) (by omega), Int.toNat_natCast, Int.toNat_natCast, sr_ne s 255 C (by decide : 251 ≠ 255), w_sr]
    rw [ih n (i + 1) _ (by omega) (by omega)]
    rw [show o + (i + 1) = o + i + 1 from by omega, show 85 + (i + 1) = 85 + i + 1 from by omega, sr_ext (rowPut_step C (s.1 251) (o + i) (85 + i) k)]
theorem R_save_255 (s : mS) {m : Nat} (hm : 1000 ≤ m) {o : Nat} (ho : o + 139 ≤ 139) : f_R_save_249_255 m (o : Int) s = some (0, sr s 255 (rowPut (s.1 255) o (s.1 251) 85 139)) := by
  rw [f_R_save_249_255_eq]
  have := R_saveL_255 (s := s) (m := m) ho 139 m 0 (s.1 255) (by omega) (by omega)
  rw [sr_self] at this
  exact this
theorem R_backL_255 {s : mS} {m : Nat} {o : Nat} (ho : o + 139 ≤ 139) : ∀ (k n i : Nat) (C : Row), i + k = 139 → k < n →
    l_R_comeBack_249_255_L2 m n (o : Int) (i : Int) (sr s 251 C) = some (0, sr s 251 (rowPut C (85 + i) (s.1 255) (o + i) k)) := by
  intro k
  induction k with
  | zero =>
    intro n i C hi hkn
    obtain ⟨n, rfl⟩ : ∃ n', n = n' + 1 := ⟨n - 1, by omega⟩
    rw [l_R_comeBack_249_255_L2_eq, if_neg (by omega), sr_ext (rowPut_zero C (85 + i) (s.1 255) (o + i))]
  | succ k ih =>
    intro n i C hi hkn
    obtain ⟨n, rfl⟩ : ∃ n', n = n' + 1 := ⟨n - 1, by omega⟩
    have e1 : w32 ((i : Int) + 1) = ((i + 1 : Nat) : Int) := by rw [w32_in (by omega) (by omega)]; rfl
    have e2 : w32 ((o : Int) + (i : Int)) = ((o + i : Nat) : Int) := by rw [w32_in (by omega) (by omega)]; omega
    have e3 : w32 (85 + (i : Int)) = ((85 + i : Nat) : Int) := by rw [w32_in (by omega) (by omega)]; omega
    rw [l_R_comeBack_249_255_L2_eq, if_pos (by omega), e1, e2, e3, inR_pos (by omega) (by omega), inR_pos (by omega) (by omega), Int.toNat_natCast, Int.toNat_natCast, sr_ne s 251 C (by decide : 255 ≠ 251), w_sr]
    rw [ih n (i + 1) _ (by omega) (by omega)]
    rw [show o + (i + 1) = o + i + 1 from by omega, show 85 + (i + 1) = 85 + i + 1 from by omega, sr_ext (rowPut_step C (s.1 255) (85 + i) (o + i) k)]
theorem R_back_255 (s : mS) {m : Nat} (hm : 1000 ≤ m) {o : Nat} (ho : o + 139 ≤ 139) : f_R_comeBack_249_255 m (o : Int) s = some (0, sr s 251 (rowPut (s.1 251) 85 (s.1 255) o 139)) := by
  rw [f_R_comeBack_249_255_eq]
  have := R_backL_255 (s := s) (m := m) ho 139 m 0 (s.1 251) (by omega) (by omega)
  rw [sr_self] at this
  exact this
theorem R_saveL_256 {s : mS} {m : Nat} {o : Nat} (ho : o + 139 ≤ 139) : ∀ (k n i : Nat) (C : Row), i + k = 139 → k < n →
    l_R_save_249_256_L2 m n (o : Int) (i : Int) (sr s 256 C) = some (0, sr s 256 (rowPut C (o + i) (s.1 251) (85 + i) k)) := by
  intro k
  induction k with
  | zero =>
    intro n i C hi hkn
    obtain ⟨n, rfl⟩ : ∃ n', n = n' + 1 := ⟨n - 1, by omega⟩
    rw [l_R_save_249_256_L2_eq, if_neg (by omega), sr_ext (rowPut_zero C (o + i) (s.1 251) (85 + i))]
  | succ k ih =>
    intro n i C hi hkn
    obtain ⟨n, rfl⟩ : ∃ n', n = n' + 1 := ⟨n - 1, by omega⟩
    have e1 : w32 ((i : Int) + 1) = ((i + 1 : Nat) : Int) := by rw [w32_in (by omega) (by omega)]; rfl
    have e2 : w32 ((o : Int) + (i : Int)) = ((o + i : Nat) : Int) := by rw [w32_in (by omega) (by omega)]; omega
    have e3 : w32 (85 + (i : Int)) = ((85 + i : Nat) : Int) := by rw [w32_in (by omega) (by omega)]; omega
    rw [l_R_save_249_256_L2_eq, if_pos (by omega), e1, e2, e3, inR_pos (by omega) (by omega), inR_pos (by omega) (by omega), Int.toNat_natCast, Int.toNat_natCast, sr_ne s 256 C (by decide : 251 ≠ 256), w_sr]
    rw [ih n (i + 1) _ (by omega) (by omega)]
    rw [show o + (i + 1) = o + i + 1 from by omega, show 85 + (i + 1) = 85 + i + 1 from by omega, sr_ext (rowPut_step C (s.1 251) (o + i) (85 + i) k)]
theorem R_save_256 (s : mS) {m : Nat} (hm : 1000 ≤ m) {o : Nat} (ho : o + 139 ≤ 139) : f_R_save_249_256 m (o : Int) s = some (0, sr s 256 (rowPut (s.1 256) o (s.1 251) 85 139)) := by
  rw [f_R_save_249_256_eq]
  have := R_saveL_256 (s := s) (m := m) ho 139 m 0 (s.1 256) (by omega) (by omega)
  rw [sr_self] at this
  exact this
theorem R_backL_256 {s : mS} {m : Nat} {o : Nat} (ho : o + 139 ≤ 139) : ∀ (k n i : Nat) (C : Row), i + k = 139 → k < n →
    l_R_comeBack_249_256_L2 m n (o : Int) (i : Int) (sr s 251 C) = some (0, sr s 251 (rowPut C (85 + i) (s.1 256) (o + i) k)) := by
  intro k
  induction k with
  | zero =>
    intro n i C hi hkn
    obtain ⟨n, rfl⟩ : ∃ n', n = n' + 1 := ⟨n - 1, by omega⟩
    rw [l_R_comeBack_249_256_L2_eq, if_neg (by omega), sr_ext (rowPut_zero C (85 + i) (s.1 256) (o + i))]
  | succ k ih =>
    intro n i C hi hkn
    obtain ⟨n, rfl⟩ : ∃ n', n = n' + 1 := ⟨n - 1, by omega⟩
    have e1 : w32 ((i : Int) + 1) = ((i + 1 : Nat) : Int) := by rw [w32_in (by omega) (by omega)]; rfl
    have e2 : w32 ((o : Int) + (i : Int)) = ((o + i : Nat) : Int) := by rw [w32_in (by omega) (by omega)]; omega
    have e3 : w32 (85 + (i : Int)) = ((85 + i : Nat) : Int) := by rw [w32_in (by omega) (by omega)]; omega
    rw [l_R_comeBack_249_256_L2_eq, if_pos (by omega), e1, e2, e3, inR_pos (by omega) (by omega), inR_pos (by omega) (by omega), Int.toNat_natCast, Int.toNat_natCast, sr_ne s 251 C (by decide : 256 ≠ 251), w_sr]
    rw [ih n (i + 1) _ (by omega) (by omega)]
    rw [show o + (i + 1) = o + i + 1 from by omega, show 85 + (i + 1) = 85 + i + 1 from by omega, sr_ext (rowPut_step C (s.1 256) (85 + i) (o + i) k)]
theorem R_back_256 (s : mS) {m : Nat} (hm : 1000 ≤ m) {o : Nat} (ho : o + 139 ≤ 139) : f_R_comeBack_249_256 m (o : Int) s = some (0, sr s 251 (rowPut (s.1 251) 85 (s.1 256) o 139)) := by
  rw [f_R_comeBack_249_256_eq]
  have := R_backL_256 (s := s) (m := m) ho 139 m 0 (s.1 251) (by omega) (by omega)
  rw [sr_self] at this
  exact this
/-- the rows put aside, the oldest given up -/
def shiftR (C : Row) (i : Nat) : Row := fun q => if i ≤ q ∧ q < 973 then C (q + 139) else C q
theorem R_shiftL {s : mS} {m : Nat} : ∀ (k n i : Nat) (C : Row), i + k = 973 → k < n →
    l_R_snap_L11 m n (i : Int) (sr s 254 C) = l_R_snap_L11 m (n - k) 973 (sr s 254 (shiftR C i)) := by
  intro k
  induction k with
  | zero =>
    intro n i C hi hkn
    have e : i = 973 := by omega
    subst e
    rw [sr_ext (f := shiftR C 973) (g := C) (fun q => by unfold shiftR; rw [if_neg (by omega)])]
    rfl
  | succ k ih =>
    intro n i C hi hkn
    obtain ⟨n, rfl⟩ : ∃ n', n = n' + 1 := ⟨n - 1, by omega⟩
    have e1 : w32 ((i : Int) + 1) = ((i + 1 : Nat) : Int) := by rw [w32_in (by omega) (by omega)]; rfl
    have e2 : w32 ((i : Int) + 139) = ((i + 139 : Nat) : Int) := by rw [w32_in (by omega) (by omega)]; omega
    have en : n + 1 - (k + 1) = n - k := by omega
    rw [l_R_snap_L11_eq, if_pos (by omega), e1, e2, inR_pos (by omega) (by omega), inR_pos (by omega) (by omega), Int.toNat_natCast, Int.toNat_natCast, sr_eq, w_sr, en]
    rw [ih n (i + 1) _ (by omega) (by omega)]
    refine congrArg (fun z => l_R_snap_L11 m (n - k) 973 z) (sr_ext (fun q => ?_))
    unfold shiftR
    by_cases h : q = i
    · subst h; rw [if_neg (by omega), up_eq, if_pos (by omega)]
    · by_cases h2 : i + 1 ≤ q ∧ q < 973
      · rw [if_pos h2, if_pos (by omega), up_ne (by omega)]
      · rw [if_neg h2, if_neg (by omega), up_ne h]
theorem R_snap {s : mS} {m : Nat} (hm : 10000 ≤ m) (h0 : 0 ≤ s.1 249 25) (h8 : s.1 249 25 ≤ 8) : f_R_snap m s = some (0, sr (sr s 254 (if s.1 249 25 = 8 then rowPut (shiftR (s.1 254) 0) 973 (s.1 251) 85 139 else rowPut (s.1 254) (139 * (s.1 249 25).toNat) (s.1 251) 85 139)) 249 (up (s.1 249) 25 (min 8 (s.1 249 25 + 1)))) := by
  rw [f_R_snap_eq]
  by_cases c : s.1 249 25 = 8
  · rw [if_pos c, if_pos c]
    have h := R_shiftL (s := s) (m := m) 973 m 0 (s.1 254) (by omega) (by omega)
    rw [sr_self, show ((0 : Nat) : Int) = 0 from rfl] at h
    rw [h]
    obtain ⟨n, hn⟩ : ∃ n', m - 973 = n' + 1 := ⟨m - 974, by omega⟩
    rw [hn, l_R_snap_L11_eq, if_neg (by omega)]
    have a1 : (sr s 254 (shiftR (s.1 254) 0)).1 249 = s.1 249 := sr_ne _ _ _ (by decide)
    rw [a1, c, show w32 (8 - 1) = 8 - 1 from by decide]
    have a2 : (wI (sr s 254 (shiftR (s.1 254) 0)) 249 25 (8 - 1)).1 249 25 = 7 := by rw [wI_1, if_pos ⟨rfl, rfl⟩]; rfl
    rw [a2, w32_in (by omega) (by omega)]
    have h2 := R_save_254 (wI (sr s 254 (shiftR (s.1 254) 0)) 249 25 (8 - 1)) (m := m) (by omega) (o := 973) (by omega)
    rw [show (139 * 7 : Int) = ((973 : Nat) : Int) from rfl, h2, Option.bind_some]
    rw [wI_sr _ 249 25 (8 - 1)]
    rw [a1]
    have a3 : (sr (sr s 254 (shiftR (s.1 254) 0)) 249 (up (s.1 249) 25 (8 - 1))).1 254 = shiftR (s.1 254) 0 := by rw [sr_ne _ _ _ (by decide), sr_eq]
    have a4 : (sr (sr s 254 (shiftR (s.1 254) 0)) 249 (up (s.1 249) 25 (8 - 1))).1 251 = s.1 251 := by rw [sr_ne _ _ _ (by decide), sr_ne _ _ _ (by decide)]
    rw [a3, a4]
    rw [sr_cm (sr s 254 (shiftR (s.1 254) 0)) 249 254 _ _ (by decide), sr_sr]
    rw [sr_eq, up_eq, wI_sr, sr_eq, sr_sr]
    refine congrArg (fun z => some ((0 : Int), z)) (sr_ext (fun q => ?_))
    rw [w32_in (by omega) (by omega)]
    unfold up; split <;> rfl
  · rw [if_neg c, if_neg c]
    obtain ⟨k, hk⟩ : ∃ k : Nat, s.1 249 25 = (k : Int) := ⟨(s.1 249 25).toNat, by omega⟩
    have h2 := R_save_254 s (m := m) (by omega) (o := 139 * k) (by omega)
    rw [hk, w32_in (by omega) (by omega), show (139 * (k : Int)) = ((139 * k : Nat) : Int) from by omega, h2, Option.bind_some]
    rw [wI_sr, sr_ne _ _ _ (by decide), hk, w32_in (by omega) (by omega), Int.toNat_natCast, show min 8 ((k : Int) + 1) = (k : Int) + 1 from by omega]
