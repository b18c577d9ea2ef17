/-! ===== written by gen_a38.py: the class: days ===== -/
def tickA (A : Row) : Row := fun k => if k = 85 then A 85 + 1 else if 200 ≤ k ∧ k < 200 + (A 2).toNat ∧ A (k - 36) = 1 then A k + 1 else if 212 ≤ k ∧ k < 212 + (A 2).toNat ∧ A (k - 48) = 2 then A k + 1 else if 104 ≤ k ∧ k < 113 ∧ 0 < A k then A k - 1 else if 149 ≤ k ∧ k < 154 ∧ 0 < A k then A k - 1 else A k
theorem dayA_eq (A : Row) : dayA A = comes (tickA A) := rfl
theorem tickA_lo {A : Row} (hn : A 2 ≤ 12) {i : Nat} (hi : i < 85) : tickA A i = A i := by
  unfold tickA; rw [if_neg (by omega), if_neg (by omega), if_neg (by omega), if_neg (by omega), if_neg (by omega)]
theorem tickA_day {A : Row} (hn : A 2 ≤ 12) : tickA A 85 = A 85 + 1 := by
  unfold tickA; rw [if_pos rfl]
theorem tickA_lent {A : Row} (hn : A 2 ≤ 12) {i : Nat} (hi : i < 9) : tickA A (86 + i) = A (86 + i) := by
  unfold tickA; rw [if_neg (by omega), if_neg (by omega), if_neg (by omega), if_neg (by omega), if_neg (by omega)]
theorem tickA_lier {A : Row} (hn : A 2 ≤ 12) {i : Nat} (hi : i < 9) : tickA A (95 + i) = A (95 + i) := by
  unfold tickA; rw [if_neg (by omega), if_neg (by omega), if_neg (by omega), if_neg (by omega), if_neg (by omega)]
theorem tickA_air {A : Row} (hn : A 2 ≤ 12) {i : Nat} (hi : i < 9) : tickA A (104 + i) = if 0 < A (104 + i) then A (104 + i) - 1 else A (104 + i) := by
  unfold tickA; grind
theorem tickA_had {A : Row} (hn : A 2 ≤ 12) {i : Nat} (hi : i < 36) : tickA A (113 + i) = A (113 + i) := by
  unfold tickA; rw [if_neg (by omega), if_neg (by omega), if_neg (by omega), if_neg (by omega), if_neg (by omega)]
theorem tickA_rest {A : Row} (hn : A 2 ≤ 12) {i : Nat} (hi : i < 5) : tickA A (149 + i) = if 0 < A (149 + i) then A (149 + i) - 1 else A (149 + i) := by
  unfold tickA; grind
theorem tickA_lat {A : Row} (hn : A 2 ≤ 12) {i : Nat} (hi : i < 5) : tickA A (154 + i) = A (154 + i) := by
  unfold tickA; rw [if_neg (by omega), if_neg (by omega), if_neg (by omega), if_neg (by omega), if_neg (by omega)]
theorem tickA_laidm {A : Row} (hn : A 2 ≤ 12) {i : Nat} (hi : i < 5) : tickA A (159 + i) = A (159 + i) := by
  unfold tickA; rw [if_neg (by omega), if_neg (by omega), if_neg (by omega), if_neg (by omega), if_neg (by omega)]
theorem tickA_how {A : Row} (hn : A 2 ≤ 12) {i : Nat} (hi : i < 12) : tickA A (164 + i) = A (164 + i) := by
  unfold tickA; rw [if_neg (by omega), if_neg (by omega), if_neg (by omega), if_neg (by omega), if_neg (by omega)]
theorem tickA_inb {A : Row} (hn : A 2 ≤ 12) {i : Nat} (hi : i < 12) : tickA A (176 + i) = A (176 + i) := by
  unfold tickA; rw [if_neg (by omega), if_neg (by omega), if_neg (by omega), if_neg (by omega), if_neg (by omega)]
theorem tickA_inp {A : Row} (hn : A 2 ≤ 12) {i : Nat} (hi : i < 12) : tickA A (188 + i) = A (188 + i) := by
  unfold tickA; rw [if_neg (by omega), if_neg (by omega), if_neg (by omega), if_neg (by omega), if_neg (by omega)]
theorem tickA_wait {A : Row} (hn : A 2 ≤ 12) {i : Nat} (hi : i < 12) : tickA A (200 + i) = if (i : Int) < A 2 ∧ A (164 + i) = 1 then A (200 + i) + 1 else A (200 + i) := by
  unfold tickA; grind
theorem tickA_lain {A : Row} (hn : A 2 ≤ 12) {i : Nat} (hi : i < 12) : tickA A (212 + i) = if (i : Int) < A 2 ∧ A (164 + i) = 2 then A (212 + i) + 1 else A (212 + i) := by
  unfold tickA; grind
theorem C_arriveL_17 {B : Row} (hn : B 2 ≤ 12) (hc : ∀ d : Nat, (d : Int) < B 2 → B (164 + d) = 0 → B 85 ≤ B (41 + d)) (m : Nat) : ∀ (k n i : Nat) (s : mS), i + k = (B 2).toNat → k < n →
    s.1 17 0 = B 85 → s.1 4 2 = B 2 → (∀ j : Nat, (j : Int) < B 2 → s.1 12 j = B (41 + j)) → (∀ j : Nat, (j : Int) < B 2 → s.1 25 j = if j < i then comes B (164 + j) else B (164 + j)) →
    wp (l_St_arrive_17_4_L2 m n (i : Int) s) (fun _ s' => (∀ j : Nat, (j : Int) < B 2 → s'.1 25 j = comes B (164 + j)) ∧ only s s' 25 26) := by
  intro k
  induction k with
  | zero =>
    intro n i s hi hkn h1 h2 h3 h4
    obtain ⟨n, rfl⟩ : ∃ n', n = n' + 1 := ⟨n - 1, by omega⟩
    rw [l_St_arrive_17_4_L2_eq, h2, if_neg (by omega), wp_some]
    refine ⟨fun j hj => ?_, only_rf _ _ _⟩
    rw [h4 j hj, if_pos (by omega)]
  | succ k ih =>
    intro n i s hi hkn h1 h2 h3 h4
    obtain ⟨n, rfl⟩ : ∃ n', n = n' + 1 := ⟨n - 1, by omega⟩
    have hd : (i : Int) < B 2 := by omega
    have e1 : w32 ((i : Int) + 1) = ((i + 1 : Nat) : Int) := by rw [w32_in (by omega) (by omega)]; rfl
    have hci := hc i hd
    have q4 := h4 i hd
    rw [if_neg (by omega)] at q4
    have qc := comes_how (A := B) hn (i := i) (by omega)
    rw [l_St_arrive_17_4_L2_eq, h2, if_pos hd]
    simp (disch := omega) only [inR_pos, Int.toNat_natCast, q4, h3 i hd, e1, h1]
    by_cases c1 : B (164 + i) = 0
    · by_cases c2 : B 85 < B (41 + i)
      · rw [if_pos c1, if_pos c2]
        refine ih n (i + 1) s (by omega) (by omega) h1 h2 h3 (fun j hj => ?_)
        rw [h4 j hj]
        by_cases hji : j = i
        · subst hji; rw [if_neg (by omega), if_pos (by omega), qc, if_neg (by omega)]
        · by_cases hl : j < i
          · rw [if_pos hl, if_pos (by omega)]
          · rw [if_neg hl, if_neg (by omega)]
      · rw [if_pos c1, if_neg c2]
        refine wp_mono (ih n (i + 1) (wI s 25 i 1) (by omega) (by omega) ?_ ?_ ?_ ?_) ?_
        · simp only [wI_1]; grind
        · simp only [wI_1]; grind
        · intro j hj; simp only [wI_1]; grind
        · intro j hj
          simp only [wI_1]
          by_cases hji : j = i
          · subst hji; rw [if_pos (by simp), if_pos (by omega), qc, if_pos (by omega)]
          · rw [if_neg (by omega), h4 j hj]
            by_cases hl : j < i
            · rw [if_pos hl, if_pos (by omega)]
            · rw [if_neg hl, if_neg (by omega)]
        · intro r s' ⟨a1, a2⟩
          exact ⟨a1, only_tr (only_wI (by omega) (by omega)) a2⟩
    · rw [if_neg c1]
      refine ih n (i + 1) s (by omega) (by omega) h1 h2 h3 (fun j hj => ?_)
      rw [h4 j hj]
      by_cases hji : j = i
      · subst hji; rw [if_neg (by omega), if_pos (by omega), qc, if_neg (by omega)]
      · by_cases hl : j < i
        · rw [if_pos hl, if_pos (by omega)]
        · rw [if_neg hl, if_neg (by omega)]
theorem C_arrive_17 {s : mS} {B : Row} (hs : SR s 17 B) (hr : VR s 4 B) (hv : WFv B) (hc : ∀ d : Nat, (d : Int) < B 2 → B (164 + d) = 0 → B 85 ≤ B (41 + d)) {m : Nat} (hm : 1000 ≤ m) :
    wp (f_St_arrive_17_4 m s) (fun _ s' => SR s' 17 (comes B) ∧ only s s' 25 26) := by
  have w0 := WFv_boxes hv
  have w1 := WFv_plots hv
  have w2 := WFv_dead hv
  have hn : B 2 ≤ 12 := w2.2
  rw [f_St_arrive_17_4_eq]
  refine wp_mono (C_arriveL_17 hn hc m (B 2).toNat m 0 s (by omega) (by omega) (SR17_day hs) (VR4_dead hr) (fun j hj => VR4_dday hr hj) (fun j hj => by rw [if_neg (by omega)]; exact SR17_how hs hj)) ?_
  intro r s' ⟨a1, a2⟩
  refine ⟨?_, a2⟩
  have e0 := comes_lo hn (i := 0) (by omega)
  have e1 := comes_lo hn (i := 1) (by omega)
  have e2 := comes_lo hn (i := 2) (by omega)
  have k0 := a2.1 17 (by omega)
  have k1 := a2.1 18 (by omega)
  have k2 := a2.1 19 (by omega)
  have k3 := a2.1 20 (by omega)
  have k4 := a2.1 21 (by omega)
  have k5 := a2.1 22 (by omega)
  have k6 := a2.1 23 (by omega)
  have k7 := a2.1 24 (by omega)
  have k9 := a2.1 26 (by omega)
  have k10 := a2.1 27 (by omega)
  have k11 := a2.1 28 (by omega)
  have k12 := a2.1 29 (by omega)
  refine ⟨?_, ?_, ?_, ?_, ?_⟩
  · rw [k0, comes_day hn]; exact hs.1
  · intro i hi; rw [e0] at hi
    rw [comes_lent hn (by omega), comes_lier hn (by omega), comes_air hn (by omega), comes_day hn]
    show s'.1 18 i = _ ∧ s'.1 19 i = _ ∧ _ = max 0 (s'.1 20 i - _) ∧ 0 ≤ s'.1 20 i ∧ s'.1 20 i ≤ 500
    rw [k1, k2, k3]; exact hs.2.1 i hi
  · intro i hi; rw [e0] at hi
    rw [comes_had hn (by omega)]
    show s'.1 21 i = _
    rw [k4]; exact hs.2.2.1 i hi
  · intro i hi; rw [e1] at hi
    rw [comes_lat hn (by omega), comes_rest hn (by omega), comes_laidm hn (by omega), comes_day hn]
    show s'.1 22 i = _ ∧ _ = max 0 (s'.1 23 i - _) ∧ 0 ≤ s'.1 23 i ∧ s'.1 23 i ≤ 500 ∧ s'.1 24 i = _
    rw [k5, k6, k7]; exact hs.2.2.2.1 i hi
  · intro i hi; rw [e2] at hi
    rw [comes_inb hn (by omega), comes_inp hn (by omega), comes_wait hn (by omega), comes_lain hn (by omega)]
    show s'.1 25 i = _ ∧ s'.1 26 i = _ ∧ s'.1 27 i = _ ∧ s'.1 28 i = _ ∧ s'.1 29 i = _
    rw [k9, k10, k11, k12]
    exact ⟨a1 i hi, (hs.2.2.2.2 i hi).2⟩

theorem C_arriveL_206 {B : Row} (hn : B 2 ≤ 12) (hc : ∀ d : Nat, (d : Int) < B 2 → B (164 + d) = 0 → B 85 ≤ B (41 + d)) (m : Nat) : ∀ (k n i : Nat) (s : mS), i + k = (B 2).toNat → k < n →
    s.1 206 0 = B 85 → s.1 4 2 = B 2 → (∀ j : Nat, (j : Int) < B 2 → s.1 12 j = B (41 + j)) → (∀ j : Nat, (j : Int) < B 2 → s.1 214 j = if j < i then comes B (164 + j) else B (164 + j)) →
    wp (l_St_arrive_206_4_L2 m n (i : Int) s) (fun _ s' => (∀ j : Nat, (j : Int) < B 2 → s'.1 214 j = comes B (164 + j)) ∧ only s s' 214 215) := by
  intro k
  induction k with
  | zero =>
    intro n i s hi hkn h1 h2 h3 h4
    obtain ⟨n, rfl⟩ : ∃ n', n = n' + 1 := ⟨n - 1, by omega⟩
    rw [l_St_arrive_206_4_L2_eq, h2, if_neg (by omega), wp_some]
    refine ⟨fun j hj => ?_, only_rf _ _ _⟩
    rw [h4 j hj, if_pos (by omega)]
  | succ k ih =>
    intro n i s hi hkn h1 h2 h3 h4
    obtain ⟨n, rfl⟩ : ∃ n', n = n' + 1 := ⟨n - 1, by omega⟩
    have hd : (i : Int) < B 2 := by omega
    have e1 : w32 ((i : Int) + 1) = ((i + 1 : Nat) : Int) := by rw [w32_in (by omega) (by omega)]; rfl
    have hci := hc i hd
    have q4 := h4 i hd
    rw [if_neg (by omega)] at q4
    have qc := comes_how (A := B) hn (i := i) (by omega)
    rw [l_St_arrive_206_4_L2_eq, h2, if_pos hd]
    simp (disch := omega) only [inR_pos, Int.toNat_natCast, q4, h3 i hd, e1, h1]
    by_cases c1 : B (164 + i) = 0
    · by_cases c2 : B 85 < B (41 + i)
      · rw [if_pos c1, if_pos c2]
        refine ih n (i + 1) s (by omega) (by omega) h1 h2 h3 (fun j hj => ?_)
        rw [h4 j hj]
        by_cases hji : j = i
        · subst hji; rw [if_neg (by omega), if_pos (by omega), qc, if_neg (by omega)]
        · by_cases hl : j < i
          · rw [if_pos hl, if_pos (by omega)]
          · rw [if_neg hl, if_neg (by omega)]
      · rw [if_pos c1, if_neg c2]
        refine wp_mono (ih n (i + 1) (wI s 214 i 1) (by omega) (by omega) ?_ ?_ ?_ ?_) ?_
        · simp only [wI_1]; grind
        · simp only [wI_1]; grind
        · intro j hj; simp only [wI_1]; grind
        · intro j hj
          simp only [wI_1]
          by_cases hji : j = i
          · subst hji; rw [if_pos (by simp), if_pos (by omega), qc, if_pos (by omega)]
          · rw [if_neg (by omega), h4 j hj]
            by_cases hl : j < i
            · rw [if_pos hl, if_pos (by omega)]
            · rw [if_neg hl, if_neg (by omega)]
        · intro r s' ⟨a1, a2⟩
          exact ⟨a1, only_tr (only_wI (by omega) (by omega)) a2⟩
    · rw [if_neg c1]
      refine ih n (i + 1) s (by omega) (by omega) h1 h2 h3 (fun j hj => ?_)
      rw [h4 j hj]
      by_cases hji : j = i
      · subst hji; rw [if_neg (by omega), if_pos (by omega), qc, if_neg (by omega)]
      · by_cases hl : j < i
        · rw [if_pos hl, if_pos (by omega)]
        · rw [if_neg hl, if_neg (by omega)]
theorem C_arrive_206 {s : mS} {B : Row} (hs : SR s 206 B) (hr : VR s 4 B) (hv : WFv B) (hc : ∀ d : Nat, (d : Int) < B 2 → B (164 + d) = 0 → B 85 ≤ B (41 + d)) {m : Nat} (hm : 1000 ≤ m) :
    wp (f_St_arrive_206_4 m s) (fun _ s' => SR s' 206 (comes B) ∧ only s s' 214 215) := by
  have w0 := WFv_boxes hv
  have w1 := WFv_plots hv
  have w2 := WFv_dead hv
  have hn : B 2 ≤ 12 := w2.2
  rw [f_St_arrive_206_4_eq]
  refine wp_mono (C_arriveL_206 hn hc m (B 2).toNat m 0 s (by omega) (by omega) (SR206_day hs) (VR4_dead hr) (fun j hj => VR4_dday hr hj) (fun j hj => by rw [if_neg (by omega)]; exact SR206_how hs hj)) ?_
  intro r s' ⟨a1, a2⟩
  refine ⟨?_, a2⟩
  have e0 := comes_lo hn (i := 0) (by omega)
  have e1 := comes_lo hn (i := 1) (by omega)
  have e2 := comes_lo hn (i := 2) (by omega)
  have k0 := a2.1 206 (by omega)
  have k1 := a2.1 207 (by omega)
  have k2 := a2.1 208 (by omega)
  have k3 := a2.1 209 (by omega)
  have k4 := a2.1 210 (by omega)
  have k5 := a2.1 211 (by omega)
  have k6 := a2.1 212 (by omega)
  have k7 := a2.1 213 (by omega)
  have k9 := a2.1 215 (by omega)
  have k10 := a2.1 216 (by omega)
  have k11 := a2.1 217 (by omega)
  have k12 := a2.1 218 (by omega)
  refine ⟨?_, ?_, ?_, ?_, ?_⟩
  · rw [k0, comes_day hn]; exact hs.1
  · intro i hi; rw [e0] at hi
    rw [comes_lent hn (by omega), comes_lier hn (by omega), comes_air hn (by omega), comes_day hn]
    show s'.1 207 i = _ ∧ s'.1 208 i = _ ∧ _ = max 0 (s'.1 209 i - _) ∧ 0 ≤ s'.1 209 i ∧ s'.1 209 i ≤ 500
    rw [k1, k2, k3]; exact hs.2.1 i hi
  · intro i hi; rw [e0] at hi
    rw [comes_had hn (by omega)]
    show s'.1 210 i = _
    rw [k4]; exact hs.2.2.1 i hi
  · intro i hi; rw [e1] at hi
    rw [comes_lat hn (by omega), comes_rest hn (by omega), comes_laidm hn (by omega), comes_day hn]
    show s'.1 211 i = _ ∧ _ = max 0 (s'.1 212 i - _) ∧ 0 ≤ s'.1 212 i ∧ s'.1 212 i ≤ 500 ∧ s'.1 213 i = _
    rw [k5, k6, k7]; exact hs.2.2.2.1 i hi
  · intro i hi; rw [e2] at hi
    rw [comes_inb hn (by omega), comes_inp hn (by omega), comes_wait hn (by omega), comes_lain hn (by omega)]
    show s'.1 214 i = _ ∧ s'.1 215 i = _ ∧ s'.1 216 i = _ ∧ s'.1 217 i = _ ∧ s'.1 218 i = _
    rw [k9, k10, k11, k12]
    exact ⟨a1 i hi, (hs.2.2.2.2 i hi).2⟩

theorem daysA_lo : ∀ (n : Nat) {A : Row}, A 2 ≤ 12 → ∀ k, k < 85 → daysA n A k = A k
  | 0, _, _, _, _ => rfl
  | n + 1, A, hn, k, hk => by
    have e2 := dayA_lo hn (i := 2) (by omega)
    unfold daysA; rw [daysA_lo n (by rw [e2]; exact hn) k hk, dayA_lo hn hk]

theorem C_tickL_17 {A : Row} (hn : A 2 ≤ 12) (hw : WFs A) (m : Nat) (x1 x3 : Int) : ∀ (k n i : Nat) (s : mS), i + k = (A 2).toNat → k < n → s.1 4 2 = A 2 → (∀ j : Nat, (j : Int) < A 2 → s.1 25 j = A (164 + j)) →
    (∀ j : Nat, (j : Int) < A 2 → s.1 28 j = if j < i then dayA A (200 + j) else A (200 + j)) → (∀ j : Nat, (j : Int) < A 2 → s.1 29 j = if j < i then dayA A (212 + j) else A (212 + j)) →
    ∃ s', l_St_passDays_17_4_L20 m n x1 x3 (i : Int) s = ((f_St_arrive_17_4 m (wI s' 17 0 (w32 ((s'.1 17 0) + 1)))).bind fun p0 => (l_St_passDays_17_4_L2 m (n - (k + 1)) x1 (w32 (x3 + 1)) p0.2)) ∧
      (∀ j : Nat, (j : Int) < A 2 → s'.1 28 j = dayA A (200 + j)) ∧ (∀ j : Nat, (j : Int) < A 2 → s'.1 29 j = dayA A (212 + j)) ∧ only s s' 28 30 := by
  have hdy := WFs_day hw
  intro k
  induction k with
  | zero =>
    intro n i s hi hkn h2 h3 h4 h5
    obtain ⟨n, rfl⟩ : ∃ n', n = n' + 1 := ⟨n - 1, by omega⟩
    refine ⟨s, ?_, fun j hj => ?_, fun j hj => ?_, only_rf _ _ _⟩
    · rw [l_St_passDays_17_4_L20_eq, h2, if_neg (by omega)]; rfl
    · rw [h4 j hj, if_pos (by omega)]
    · rw [h5 j hj, if_pos (by omega)]
  | succ k ih =>
    intro n i s hi hkn h2 h3 h4 h5
    obtain ⟨n, rfl⟩ : ∃ n', n = n' + 1 := ⟨n - 1, by omega⟩
    have hd : (i : Int) < A 2 := by omega
    have e1 : w32 ((i : Int) + 1) = ((i + 1 : Nat) : Int) := by rw [w32_in (by omega) (by omega)]; rfl
    have g := WFs_dead hw hd
    have q4 := h4 i hd
    rw [if_neg (by omega)] at q4
    have q5 := h5 i hd
    rw [if_neg (by omega)] at q5
    have d1 := dayA_wait hn (i := i) (by omega)
    have d2 := dayA_lain hn (i := i) (by omega)
    have f1 : ∀ v, (wI s 28 i v).1 25 i = A (164 + i) := by intro v; have := h3 i hd; clear ih h3 h4 h5; simp only [wI_1]; grind
    have f2 : ∀ v, (wI s 28 i v).1 29 i = A (212 + i) := by intro v; clear ih h3 h4 h5; simp only [wI_1]; grind
    have key : ∀ v w, v = dayA A (200 + i) → w = dayA A (212 + i) → ∃ s', l_St_passDays_17_4_L20 m n x1 x3 ((i + 1 : Nat) : Int) (wI (wI s 28 i v) 29 i w) = ((f_St_arrive_17_4 m (wI s' 17 0 (w32 ((s'.1 17 0) + 1)))).bind fun p0 => (l_St_passDays_17_4_L2 m (n + 1 - (k + 1 + 1)) x1 (w32 (x3 + 1)) p0.2)) ∧
      (∀ j : Nat, (j : Int) < A 2 → s'.1 28 j = dayA A (200 + j)) ∧ (∀ j : Nat, (j : Int) < A 2 → s'.1 29 j = dayA A (212 + j)) ∧ only s s' 28 30 := by
      intro v w hv hw
      obtain ⟨s', a1, a2, a3, a4⟩ := ih n (i + 1) (wI (wI s 28 i v) 29 i w) (by omega) (by omega) (by clear ih h3 h4 h5; simp only [wI_1]; grind) (by intro j hj; have := h3 j hj; clear ih h3 h4 h5; simp only [wI_1]; grind)
        (by intro j hj; have := h4 j hj; clear ih h3 h4 h5; simp only [wI_1]; grind) (by intro j hj; have := h5 j hj; clear ih h3 h4 h5; simp only [wI_1]; grind)
      refine ⟨s', ?_, a2, a3, only_tr (only_tr (only_wI (by omega) (by omega)) (only_wI (by omega) (by omega))) a4⟩
      have en : n + 1 - (k + 1 + 1) = n - (k + 1) := by omega
      rw [en]; exact a1
    rw [l_St_passDays_17_4_L20_eq, h2, if_pos hd]
    simp (disch := omega) only [inR_pos, Int.toNat_natCast, h3 i hd, q4, f1, f2, e1]
    by_cases c1 : A (164 + i) = 1
    · rw [if_pos c1, if_neg (by omega)]
      exact key _ _ (by rw [w32_in (by omega) (by omega), d1, if_pos ⟨hd, c1⟩]) (by rw [w32_in (by omega) (by omega), d2, if_neg (by omega)]; omega)
    · rw [if_neg c1]
      by_cases c2 : A (164 + i) = 2
      · rw [if_pos c2]
        exact key _ _ (by rw [w32_in (by omega) (by omega), d1, if_neg (by omega)]; omega) (by rw [w32_in (by omega) (by omega), d2, if_pos ⟨hd, c2⟩])
      · rw [if_neg c2]
        exact key _ _ (by rw [w32_in (by omega) (by omega), d1, if_neg (by omega)]; omega) (by rw [w32_in (by omega) (by omega), d2, if_neg (by omega)]; omega)
/-- one day -/
theorem C_day_17 {s : mS} {A : Row} (hs : SR s 17 A) (hr : VR s 4 A) (hv : WFv A) (hw : WFs A) (h4 : A 85 < 400) {m : Nat} (hm : 1000 ≤ m) {n : Nat} (hn : 20 ≤ n) (x1 x3 : Int) (hx : x3 < x1) :
    ∃ s', l_St_passDays_17_4_L2 m n x1 x3 s = l_St_passDays_17_4_L2 m (n - ((A 2).toNat + 2)) x1 (w32 (x3 + 1)) s' ∧ SR s' 17 (dayA A) ∧ only s s' 17 30 := by
  have w0 := WFv_boxes hv
  have w1 := WFv_plots hv
  have w2 := WFv_dead hv
  have hdy := WFs_day hw
  have hn2 : A 2 ≤ 12 := w2.2
  obtain ⟨n, rfl⟩ : ∃ n', n = n' + 1 := ⟨n - 1, by omega⟩
  rw [l_St_passDays_17_4_L2_eq, if_pos hx, SR17_day hs, if_pos h4]
  obtain ⟨s1, a1, a2, a3, a4⟩ := C_tickL_17 hn2 hw m x1 x3 (A 2).toNat n 0 s (by omega) (by omega) (VR4_dead hr) (fun j hj => SR17_how hs hj) (fun j hj => by rw [if_neg (by omega)]; exact SR17_wait hs hj) (fun j hj => by rw [if_neg (by omega)]; exact SR17_lain hs hj)
  rw [show ((0 : Nat) : Int) = 0 from rfl] at a1
  rw [a1]
  have e0 := tickA_lo hn2 (i := 0) (by omega)
  have e1 := tickA_lo hn2 (i := 1) (by omega)
  have e2 := tickA_lo hn2 (i := 2) (by omega)
  have blo : ∀ k, k < 85 → tickA A k = A k := fun k hk => tickA_lo hn2 hk
  have b85 := tickA_day hn2
  have k0 := a4.1 17 (by omega)
  have k1 := a4.1 18 (by omega)
  have k2 := a4.1 19 (by omega)
  have k3 := a4.1 20 (by omega)
  have k4 := a4.1 21 (by omega)
  have k5 := a4.1 22 (by omega)
  have k6 := a4.1 23 (by omega)
  have k7 := a4.1 24 (by omega)
  have k8 := a4.1 25 (by omega)
  have k9 := a4.1 26 (by omega)
  have k10 := a4.1 27 (by omega)
  have kd : w32 (s1.1 17 0 + 1) = A 85 + 1 := by rw [k0, SR17_day hs, w32_in (by omega) (by omega)]
  rw [kd]
  have hsB : SR (wI s1 17 0 (A 85 + 1)) 17 (tickA A) := by
    refine ⟨?_, ?_, ?_, ?_, ?_⟩
    · rw [b85]; simp only [wI_1]; simp
    · intro i hi; rw [e0] at hi
      have q := hs.2.1 i hi
      have q2 := WFs_box hw hi
      rw [tickA_lent hn2 (by omega), tickA_lier hn2 (by omega), tickA_air hn2 (by omega), b85]
      simp only [wI_1]
      simp only [k1, k2, k3]; clear a1 a2 a3 a4 hs hr hv hw blo kd k0 k1 k2 k3 k4 k5 k6 k7 k8 k9 k10; grind
    · intro i hi; rw [e0] at hi
      have q := SR17_had hs hi
      rw [tickA_had hn2 (by omega)]
      simp only [wI_1]; simp only [k4]; clear a1 a2 a3 a4 hs hr hv hw blo kd k0 k1 k2 k3 k4 k5 k6 k7 k8 k9 k10; grind
    · intro i hi; rw [e1] at hi
      have q := hs.2.2.2.1 i hi
      have q2 := WFs_plot hw hi
      rw [tickA_lat hn2 (by omega), tickA_laidm hn2 (by omega), tickA_rest hn2 (by omega), b85]
      simp only [wI_1]
      simp only [k5, k6, k7]; clear a1 a2 a3 a4 hs hr hv hw blo kd k0 k1 k2 k3 k4 k5 k6 k7 k8 k9 k10; grind
    · intro i hi; rw [e2] at hi
      have q := hs.2.2.2.2 i hi
      rw [tickA_how hn2 (by omega), tickA_inb hn2 (by omega), tickA_inp hn2 (by omega), tickA_wait hn2 (by omega), tickA_lain hn2 (by omega)]
      have q1 := a2 i hi
      have q2 := a3 i hi
      rw [dayA_wait hn2 (by omega)] at q1
      rw [dayA_lain hn2 (by omega)] at q2
      simp only [wI_1]
      simp only [k8, k9, k10]; clear a1 a2 a3 a4 hs hr hv hw blo kd k0 k1 k2 k3 k4 k5 k6 k7 k8 k9 k10; grind
  have hrB : VR (wI s1 17 0 (A 85 + 1)) 4 (tickA A) := by
    refine VR_cg (VR_keep hr ?_) hv blo
    intro c h1 h2
    funext j
    rw [wI_1, if_neg (by omega), a4.1 c (by omega)]
  have hvB : WFv (tickA A) := WFv_cg hv blo
  have hcome : ∀ d : Nat, (d : Int) < tickA A 2 → tickA A (164 + d) = 0 → tickA A 85 ≤ tickA A (41 + d) := by
    intro d hd h0
    rw [e2] at hd
    rw [tickA_how hn2 (by omega)] at h0
    rw [b85, blo (41 + d) (by omega)]
    have := (WFs_dead hw hd).2.2.2.2.2.2 h0
    omega
  obtain ⟨r, s2, z1, z2, z3⟩ := C_arrive_17 hsB hrB hvB hcome hm
  rw [z1]
  refine ⟨s2, ?_, z2, ?_⟩
  · show l_St_passDays_17_4_L2 m (n - ((A 2).toNat + 1)) x1 (w32 (x3 + 1)) s2 = _
    congr 1; omega
  · exact only_tr (only_tr (only_wd a4 (by omega) (by omega)) (only_wI (by omega) (by omega))) (only_wd z3 (by omega) (by omega))
theorem C_daysL_17 {m : Nat} (hm : 1000 ≤ m) (x1 : Int) (hx1 : x1 ≤ 400) : ∀ (k n : Nat) (x3 : Int) (s : mS) (A : Row), SR s 17 A → VR s 4 A → WFv A → WFs A → 0 ≤ x3 → x3 ≤ x1 → (min (x1 - x3) (400 - A 85)).toNat = k → 20 * (k + 1) ≤ n →
    wp (l_St_passDays_17_4_L2 m n x1 x3 s) (fun r s' => r = x3 + k ∧ SR s' 17 (daysA k A) ∧ only s s' 17 30) := by
  intro k
  induction k with
  | zero =>
    intro n x3 s A hs hr hv hw h0 h1 hk hkn
    have hdy := WFs_day hw
    obtain ⟨n, rfl⟩ : ∃ n', n = n' + 1 := ⟨n - 1, by omega⟩
    rw [l_St_passDays_17_4_L2_eq, SR17_day hs]
    by_cases c : x3 < x1
    · rw [if_pos c, if_neg (by omega), wp_some]; exact ⟨by omega, hs, only_rf _ _ _⟩
    · rw [if_neg c, wp_some]; exact ⟨by omega, hs, only_rf _ _ _⟩
  | succ k ih =>
    intro n x3 s A hs hr hv hw h0 h1 hk hkn
    have hdy := WFs_day hw
    have w2 := WFv_dead hv
    have hn2 : A 2 ≤ 12 := w2.2
    obtain ⟨s1, a1, a2, a3⟩ := C_day_17 hs hr hv hw (by omega) hm (n := n) (by omega) x1 x3 (by omega)
    rw [a1]
    have e1 : w32 (x3 + 1) = x3 + 1 := w32_in (by omega) (by omega)
    rw [e1]
    have hlo : ∀ k, k < 85 → dayA A k = A k := fun k hk => dayA_lo hn2 hk
    have hr1 : VR s1 4 (dayA A) := VR_cg (VR_keep hr (fun c h1 h2 => a3.1 c (by omega))) hv hlo
    refine wp_mono (ih (n - ((A 2).toNat + 2)) (x3 + 1) s1 (dayA A) a2 hr1 (WFv_cg hv hlo) (WFs_dayA hv hw (by omega)) (by omega) (by omega) (by rw [dayA_day hn2]; omega) (by omega)) ?_
    intro r s' ⟨b1, b2, b3⟩
    exact ⟨by omega, b2, only_tr a3 b3⟩
theorem C_days_17 {s : mS} {A : Row} (hs : SR s 17 A) (hr : VR s 4 A) (hv : WFv A) (hw : WFs A) {m : Nat} (hm : 10000 ≤ m) {n : Int} (hn0 : 0 ≤ n) (hn : n ≤ 400) :
    wp (f_St_passDays_17_4 m n s) (fun r s' => r = min n (400 - A 85) ∧ SR s' 17 (daysA (min n (400 - A 85)).toNat A) ∧ only s s' 17 30) := by
  have hdy := WFs_day hw
  rw [f_St_passDays_17_4_eq]
  refine wp_mono (C_daysL_17 (by omega) n hn (min n (400 - A 85)).toNat m 0 s A hs hr hv hw (by omega) (by omega) (by omega) (by omega)) ?_
  intro r s' ⟨b1, b2, b3⟩
  exact ⟨by omega, b2, b3⟩

theorem C_tickL_206 {A : Row} (hn : A 2 ≤ 12) (hw : WFs A) (m : Nat) (x1 x3 : Int) : ∀ (k n i : Nat) (s : mS), i + k = (A 2).toNat → k < n → s.1 4 2 = A 2 → (∀ j : Nat, (j : Int) < A 2 → s.1 214 j = A (164 + j)) →
    (∀ j : Nat, (j : Int) < A 2 → s.1 217 j = if j < i then dayA A (200 + j) else A (200 + j)) → (∀ j : Nat, (j : Int) < A 2 → s.1 218 j = if j < i then dayA A (212 + j) else A (212 + j)) →
    ∃ s', l_St_passDays_206_4_L20 m n x1 x3 (i : Int) s = ((f_St_arrive_206_4 m (wI s' 206 0 (w32 ((s'.1 206 0) + 1)))).bind fun p0 => (l_St_passDays_206_4_L2 m (n - (k + 1)) x1 (w32 (x3 + 1)) p0.2)) ∧
      (∀ j : Nat, (j : Int) < A 2 → s'.1 217 j = dayA A (200 + j)) ∧ (∀ j : Nat, (j : Int) < A 2 → s'.1 218 j = dayA A (212 + j)) ∧ only s s' 217 219 := by
  have hdy := WFs_day hw
  intro k
  induction k with
  | zero =>
    intro n i s hi hkn h2 h3 h4 h5
    obtain ⟨n, rfl⟩ : ∃ n', n = n' + 1 := ⟨n - 1, by omega⟩
    refine ⟨s, ?_, fun j hj => ?_, fun j hj => ?_, only_rf _ _ _⟩
    · rw [l_St_passDays_206_4_L20_eq, h2, if_neg (by omega)]; rfl
    · rw [h4 j hj, if_pos (by omega)]
    · rw [h5 j hj, if_pos (by omega)]
  | succ k ih =>
    intro n i s hi hkn h2 h3 h4 h5
    obtain ⟨n, rfl⟩ : ∃ n', n = n' + 1 := ⟨n - 1, by omega⟩
    have hd : (i : Int) < A 2 := by omega
    have e1 : w32 ((i : Int) + 1) = ((i + 1 : Nat) : Int) := by rw [w32_in (by omega) (by omega)]; rfl
    have g := WFs_dead hw hd
    have q4 := h4 i hd
    rw [if_neg (by omega)] at q4
    have q5 := h5 i hd
    rw [if_neg (by omega)] at q5
    have d1 := dayA_wait hn (i := i) (by omega)
    have d2 := dayA_lain hn (i := i) (by omega)
    have f1 : ∀ v, (wI s 217 i v).1 214 i = A (164 + i) := by intro v; have := h3 i hd; clear ih h3 h4 h5; simp only [wI_1]; grind
    have f2 : ∀ v, (wI s 217 i v).1 218 i = A (212 + i) := by intro v; clear ih h3 h4 h5; simp only [wI_1]; grind
    have key : ∀ v w, v = dayA A (200 + i) → w = dayA A (212 + i) → ∃ s', l_St_passDays_206_4_L20 m n x1 x3 ((i + 1 : Nat) : Int) (wI (wI s 217 i v) 218 i w) = ((f_St_arrive_206_4 m (wI s' 206 0 (w32 ((s'.1 206 0) + 1)))).bind fun p0 => (l_St_passDays_206_4_L2 m (n + 1 - (k + 1 + 1)) x1 (w32 (x3 + 1)) p0.2)) ∧
      (∀ j : Nat, (j : Int) < A 2 → s'.1 217 j = dayA A (200 + j)) ∧ (∀ j : Nat, (j : Int) < A 2 → s'.1 218 j = dayA A (212 + j)) ∧ only s s' 217 219 := by
      intro v w hv hw
      obtain ⟨s', a1, a2, a3, a4⟩ := ih n (i + 1) (wI (wI s 217 i v) 218 i w) (by omega) (by omega) (by clear ih h3 h4 h5; simp only [wI_1]; grind) (by intro j hj; have := h3 j hj; clear ih h3 h4 h5; simp only [wI_1]; grind)
        (by intro j hj; have := h4 j hj; clear ih h3 h4 h5; simp only [wI_1]; grind) (by intro j hj; have := h5 j hj; clear ih h3 h4 h5; simp only [wI_1]; grind)
      refine ⟨s', ?_, a2, a3, only_tr (only_tr (only_wI (by omega) (by omega)) (only_wI (by omega) (by omega))) a4⟩
      have en : n + 1 - (k + 1 + 1) = n - (k + 1) := by omega
      rw [en]; exact a1
    rw [l_St_passDays_206_4_L20_eq, h2, if_pos hd]
    simp (disch := omega) only [inR_pos, Int.toNat_natCast, h3 i hd, q4, f1, f2, e1]
    by_cases c1 : A (164 + i) = 1
    · rw [if_pos c1, if_neg (by omega)]
      exact key _ _ (by rw [w32_in (by omega) (by omega), d1, if_pos ⟨hd, c1⟩]) (by rw [w32_in (by omega) (by omega), d2, if_neg (by omega)]; omega)
    · rw [if_neg c1]
      by_cases c2 : A (164 + i) = 2
      · rw [if_pos c2]
        exact key _ _ (by rw [w32_in (by omega) (by omega), d1, if_neg (by omega)]; omega) (by rw [w32_in (by omega) (by omega), d2, if_pos ⟨hd, c2⟩])
      · rw [if_neg c2]
        exact key _ _ (by rw [w32_in (by omega) (by omega), d1, if_neg (by omega)]; omega) (by rw [w32_in (by omega) (by omega), d2, if_neg (by omega)]; omega)
/-- one day -/
theorem C_day_206 {s : mS} {A : Row} (hs : SR s 206 A) (hr : VR s 4 A) (hv : WFv A) (hw : WFs A) (h4 : A 85 < 400) {m : Nat} (hm : 1000 ≤ m) {n : Nat} (hn : 20 ≤ n) (x1 x3 : Int) (hx : x3 < x1) :
    ∃ s', l_St_passDays_206_4_L2 m n x1 x3 s = l_St_passDays_206_4_L2 m (n - ((A 2).toNat + 2)) x1 (w32 (x3 + 1)) s' ∧ SR s' 206 (dayA A) ∧ only s s' 206 219 := by
  have w0 := WFv_boxes hv
  have w1 := WFv_plots hv
  have w2 := WFv_dead hv
  have hdy := WFs_day hw
  have hn2 : A 2 ≤ 12 := w2.2
  obtain ⟨n, rfl⟩ : ∃ n', n = n' + 1 := ⟨n - 1, by omega⟩
  rw [l_St_passDays_206_4_L2_eq, if_pos hx, SR206_day hs, if_pos h4]
  obtain ⟨s1, a1, a2, a3, a4⟩ := C_tickL_206 hn2 hw m x1 x3 (A 2).toNat n 0 s (by omega) (by omega) (VR4_dead hr) (fun j hj => SR206_how hs hj) (fun j hj => by rw [if_neg (by omega)]; exact SR206_wait hs hj) (fun j hj => by rw [if_neg (by omega)]; exact SR206_lain hs hj)
  rw [show ((0 : Nat) : Int) = 0 from rfl] at a1
  rw [a1]
  have e0 := tickA_lo hn2 (i := 0) (by omega)
  have e1 := tickA_lo hn2 (i := 1) (by omega)
  have e2 := tickA_lo hn2 (i := 2) (by omega)
  have blo : ∀ k, k < 85 → tickA A k = A k := fun k hk => tickA_lo hn2 hk
  have b85 := tickA_day hn2
  have k0 := a4.1 206 (by omega)
  have k1 := a4.1 207 (by omega)
  have k2 := a4.1 208 (by omega)
  have k3 := a4.1 209 (by omega)
  have k4 := a4.1 210 (by omega)
  have k5 := a4.1 211 (by omega)
  have k6 := a4.1 212 (by omega)
  have k7 := a4.1 213 (by omega)
  have k8 := a4.1 214 (by omega)
  have k9 := a4.1 215 (by omega)
  have k10 := a4.1 216 (by omega)
  have kd : w32 (s1.1 206 0 + 1) = A 85 + 1 := by rw [k0, SR206_day hs, w32_in (by omega) (by omega)]
  rw [kd]
  have hsB : SR (wI s1 206 0 (A 85 + 1)) 206 (tickA A) := by
    refine ⟨?_, ?_, ?_, ?_, ?_⟩
    · rw [b85]; simp only [wI_1]; simp
    · intro i hi; rw [e0] at hi
      have q := hs.2.1 i hi
      have q2 := WFs_box hw hi
      rw [tickA_lent hn2 (by omega), tickA_lier hn2 (by omega), tickA_air hn2 (by omega), b85]
      simp only [wI_1]
      simp only [k1, k2, k3]; clear a1 a2 a3 a4 hs hr hv hw blo kd k0 k1 k2 k3 k4 k5 k6 k7 k8 k9 k10; grind
    · intro i hi; rw [e0] at hi
      have q := SR206_had hs hi
      rw [tickA_had hn2 (by omega)]
      simp only [wI_1]; simp only [k4]; clear a1 a2 a3 a4 hs hr hv hw blo kd k0 k1 k2 k3 k4 k5 k6 k7 k8 k9 k10; grind
    · intro i hi; rw [e1] at hi
      have q := hs.2.2.2.1 i hi
      have q2 := WFs_plot hw hi
      rw [tickA_lat hn2 (by omega), tickA_laidm hn2 (by omega), tickA_rest hn2 (by omega), b85]
      simp only [wI_1]
      simp only [k5, k6, k7]; clear a1 a2 a3 a4 hs hr hv hw blo kd k0 k1 k2 k3 k4 k5 k6 k7 k8 k9 k10; grind
    · intro i hi; rw [e2] at hi
      have q := hs.2.2.2.2 i hi
      rw [tickA_how hn2 (by omega), tickA_inb hn2 (by omega), tickA_inp hn2 (by omega), tickA_wait hn2 (by omega), tickA_lain hn2 (by omega)]
      have q1 := a2 i hi
      have q2 := a3 i hi
      rw [dayA_wait hn2 (by omega)] at q1
      rw [dayA_lain hn2 (by omega)] at q2
      simp only [wI_1]
      simp only [k8, k9, k10]; clear a1 a2 a3 a4 hs hr hv hw blo kd k0 k1 k2 k3 k4 k5 k6 k7 k8 k9 k10; grind
  have hrB : VR (wI s1 206 0 (A 85 + 1)) 4 (tickA A) := by
    refine VR_cg (VR_keep hr ?_) hv blo
    intro c h1 h2
    funext j
    rw [wI_1, if_neg (by omega), a4.1 c (by omega)]
  have hvB : WFv (tickA A) := WFv_cg hv blo
  have hcome : ∀ d : Nat, (d : Int) < tickA A 2 → tickA A (164 + d) = 0 → tickA A 85 ≤ tickA A (41 + d) := by
    intro d hd h0
    rw [e2] at hd
    rw [tickA_how hn2 (by omega)] at h0
    rw [b85, blo (41 + d) (by omega)]
    have := (WFs_dead hw hd).2.2.2.2.2.2 h0
    omega
  obtain ⟨r, s2, z1, z2, z3⟩ := C_arrive_206 hsB hrB hvB hcome hm
  rw [z1]
  refine ⟨s2, ?_, z2, ?_⟩
  · show l_St_passDays_206_4_L2 m (n - ((A 2).toNat + 1)) x1 (w32 (x3 + 1)) s2 = _
    congr 1; omega
  · exact only_tr (only_tr (only_wd a4 (by omega) (by omega)) (only_wI (by omega) (by omega))) (only_wd z3 (by omega) (by omega))
theorem C_daysL_206 {m : Nat} (hm : 1000 ≤ m) (x1 : Int) (hx1 : x1 ≤ 400) : ∀ (k n : Nat) (x3 : Int) (s : mS) (A : Row), SR s 206 A → VR s 4 A → WFv A → WFs A → 0 ≤ x3 → x3 ≤ x1 → (min (x1 - x3) (400 - A 85)).toNat = k → 20 * (k + 1) ≤ n →
    wp (l_St_passDays_206_4_L2 m n x1 x3 s) (fun r s' => r = x3 + k ∧ SR s' 206 (daysA k A) ∧ only s s' 206 219) := by
  intro k
  induction k with
  | zero =>
    intro n x3 s A hs hr hv hw h0 h1 hk hkn
    have hdy := WFs_day hw
    obtain ⟨n, rfl⟩ : ∃ n', n = n' + 1 := ⟨n - 1, by omega⟩
    rw [l_St_passDays_206_4_L2_eq, SR206_day hs]
    by_cases c : x3 < x1
    · rw [if_pos c, if_neg (by omega), wp_some]; exact ⟨by omega, hs, only_rf _ _ _⟩
    · rw [if_neg c, wp_some]; exact ⟨by omega, hs, only_rf _ _ _⟩
  | succ k ih =>
    intro n x3 s A hs hr hv hw h0 h1 hk hkn
    have hdy := WFs_day hw
    have w2 := WFv_dead hv
    have hn2 : A 2 ≤ 12 := w2.2
    obtain ⟨s1, a1, a2, a3⟩ := C_day_206 hs hr hv hw (by omega) hm (n := n) (by omega) x1 x3 (by omega)
    rw [a1]
    have e1 : w32 (x3 + 1) = x3 + 1 := w32_in (by omega) (by omega)
    rw [e1]
    have hlo : ∀ k, k < 85 → dayA A k = A k := fun k hk => dayA_lo hn2 hk
    have hr1 : VR s1 4 (dayA A) := VR_cg (VR_keep hr (fun c h1 h2 => a3.1 c (by omega))) hv hlo
    refine wp_mono (ih (n - ((A 2).toNat + 2)) (x3 + 1) s1 (dayA A) a2 hr1 (WFv_cg hv hlo) (WFs_dayA hv hw (by omega)) (by omega) (by omega) (by rw [dayA_day hn2]; omega) (by omega)) ?_
    intro r s' ⟨b1, b2, b3⟩
    exact ⟨by omega, b2, only_tr a3 b3⟩
theorem C_days_206 {s : mS} {A : Row} (hs : SR s 206 A) (hr : VR s 4 A) (hv : WFv A) (hw : WFs A) {m : Nat} (hm : 10000 ≤ m) {n : Int} (hn0 : 0 ≤ n) (hn : n ≤ 400) :
    wp (f_St_passDays_206_4 m n s) (fun r s' => r = min n (400 - A 85) ∧ SR s' 206 (daysA (min n (400 - A 85)).toNat A) ∧ only s s' 206 219) := by
  have hdy := WFs_day hw
  rw [f_St_passDays_206_4_eq]
  refine wp_mono (C_daysL_206 (by omega) n hn (min n (400 - A 85)).toNat m 0 s A hs hr hv hw (by omega) (by omega) (by omega) (by omega)) ?_
  intro r s' ⟨b1, b2, b3⟩
  exact ⟨by omega, b2, b3⟩

