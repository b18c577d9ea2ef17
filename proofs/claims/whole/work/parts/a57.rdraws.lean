/-! ===== layer 3: the reference's draws; days, undo, drawn, odds ===== -/
def sd (s : mS) (x : Int) : mS := sr s 249 (up (s.1 249) 36 x)
theorem sd_x (s : mS) (x : Int) : (sd s x).1 249 36 = x := by unfold sd; rw [sr_eq, up_eq]
theorem sd_ne (s : mS) (x : Int) {c : Nat} (h : c ≠ 249) : (sd s x).1 c = s.1 c := by unfold sd; rw [sr_ne _ _ _ h]
theorem sd_f (s : mS) (x : Int) {k : Nat} (h : k ≠ 36) : (sd s x).1 249 k = s.1 249 k := by unfold sd; rw [sr_eq, up_ne h]
theorem sd_sd (s : mS) (x y : Int) : sd (sd s x) y = sd s y := by
  unfold sd; rw [sr_eq, sr_sr]; exact sr_ext (fun k => by unfold up; split <;> rfl)
theorem R_draw {s : mS} (m : Nat) {n : Int} (h : n ≠ 0) : f_R_draw m n s = some (dr (s.1 249 36) n, sd s (nx (s.1 249 36))) := by
  rw [f_R_draw_eq, if_neg h, wI_at, wI_sr]; rfl
theorem R_doL {s : mS} {A : Row} (hA : s.1 251 = A) (h : WF A) {m : Nat} (hm : 10000 ≤ m) {d b : Nat} (hd : (d : Int) < A 2) (hb : (b : Int) < A 0) : f_R_doIf m 0 (d : Int) (b : Int) s = some (0, sr s 251 (doL A d b)) := by
  have w0 := WFv_boxes h.1
  have w2 := WFv_dead h.1
  have q : f_R_why m 0 (d : Int) (b : Int) s = some (whyLend A d b, s) := by rw [f_R_why_eq, if_pos rfl, R_whyLend hA h.1 m hd hb]; rfl
  rw [f_R_doIf_eq, q, Option.bind_some]
  unfold doL
  by_cases c : whyLend A d b = 0
  · have hx := WFs_box h.2.1 hb
    have hx2 := WFv_box h.1 hb
    rw [if_pos c, if_pos c, f_R_live_eq, if_pos rfl, R_lends hA m (by omega) (by omega) (by omega) hx.1 (by omega)]; rfl
  · rw [if_neg c, if_neg c, ← hA, sr_self]
theorem R_doY {s : mS} {A : Row} (hA : s.1 251 = A) (h : WF A) {m : Nat} (hm : 10000 ≤ m) {d p : Nat} (hd : (d : Int) < A 2) (hp : (p : Int) < A 1) : f_R_doIf m 1 (d : Int) (p : Int) s = some (0, sr s 251 (doY A d p)) := by
  have w0 := WFv_boxes h.1
  have w1 := WFv_plots h.1
  have w2 := WFv_dead h.1
  have m0 : ¬ (1 : Int) = 0 := by decide
  have q : f_R_why m 1 (d : Int) (p : Int) s = some (whyLay A d p, s) := by rw [f_R_why_eq, if_neg m0, if_pos rfl, R_whyLay hA h.1 h.2.1 (by omega) hd hp]; rfl
  rw [f_R_doIf_eq, q, Option.bind_some]
  unfold doY
  by_cases c : whyLay A d p = 0
  · have c1 : A (164 + d) = 2 := by unfold whyLay at c; grind
    have hx := WFs_inb h.2.1 hd c1
    rw [if_pos c, if_pos c, f_R_live_eq, if_neg m0, if_pos rfl, R_lays hA m (by omega) (by omega) hx.1 (by omega)]; rfl
  · rw [if_neg c, if_neg c, ← hA, sr_self]
theorem R_doW {s : mS} {A : Row} (hA : s.1 251 = A) (h : WF A) {m : Nat} {d e : Nat} (hd : (d : Int) < A 2) (he : (e : Int) < A 2) (hde : d ≠ e) : f_R_doIf m 2 (d : Int) (e : Int) s = some (0, sr s 251 (doW A d e)) := by
  have w0 := WFv_boxes h.1
  have w2 := WFv_dead h.1
  have m0 : ¬ (2 : Int) = 0 := by decide
  have m1 : ¬ (2 : Int) = 1 := by decide
  have q : f_R_why m 2 (d : Int) (e : Int) s = some (whySwap A d e, s) := by rw [f_R_why_eq, if_neg m0, if_neg m1, if_pos rfl, R_whySwap hA h.1 h.2.1 m hd he]; rfl
  rw [f_R_doIf_eq, q, Option.bind_some]
  unfold doW
  by_cases c : whySwap A d e = 0
  · have c1 : A (164 + d) = 2 := by unfold whySwap at c; grind
    have c2 : A (164 + e) = 2 := by unfold whySwap at c; grind
    have hx := WFs_inb h.2.1 hd c1
    have hy := WFs_inb h.2.1 he c2
    have hbc : A (176 + d) ≠ A (176 + e) := by intro hh; rw [hh] at hx; omega
    rw [if_pos c, if_pos c]
    have q2 := R_swaps hA m (by omega) (by omega) hde hx.1 (by omega) hy.1 (by omega) hbc
    rw [q2]; rfl
  · rw [if_neg c, if_neg c, ← hA, sr_self]
theorem R_doM {s : mS} {A : Row} (hA : s.1 251 = A) (h : WF A) {m : Nat} {b : Nat} (hb : (b : Int) < A 0) : f_R_doIf m 3 (b : Int) 0 s = some (0, sr s 251 (doM A b)) := by
  have w0 := WFv_boxes h.1
  rw [f_R_doIf_eq, R_whyMend hA m (by omega), Option.bind_some]
  unfold doM
  by_cases c : whyMend A b = 0
  · rw [if_pos c, if_pos c, R_mends hA m (by omega)]; rfl
  · rw [if_neg c, if_neg c, ← hA, sr_self]
/-- two draws, and an act by them -/
theorem R_two {s : mS} {A : Row} (hA : s.1 251 = A) {m : Nat} (w y : Int) : f_R_drawsTwo m w y s = if A 2 = 0 ∨ y = 0 then some (0, s) else
    (if w = 2 ∧ dr (s.1 249 36) (A 2) = dr (nx (s.1 249 36)) y then some (0, sd s (nx (nx (s.1 249 36)))) else ((f_R_doIf m w (dr (s.1 249 36) (A 2)) (dr (nx (s.1 249 36)) y) (sd s (nx (nx (s.1 249 36))))).bind fun p2 => (some (0, p2.2)))) := by
  rw [f_R_drawsTwo_eq, hA]
  by_cases c1 : A 2 = 0
  · rw [if_pos c1, if_pos (Or.inl c1)]
  · rw [if_neg c1]
    by_cases c2 : y = 0
    · rw [if_pos c2, if_pos (Or.inr c2)]
    · rw [if_neg c2, if_neg (fun h => h.elim c1 c2), R_draw m c1, Option.bind_some, R_draw m c2, Option.bind_some]
      simp only [sd_x, sd_sd]
      by_cases c3 : w = 2
      · rw [if_pos c3]
        by_cases c4 : dr (s.1 249 36) (A 2) = dr (nx (s.1 249 36)) y
        · rw [if_pos c4, if_pos ⟨c3, c4⟩]
        · rw [if_neg c4, if_neg (fun h => c4 h.2)]
      · rw [if_neg c3, if_neg (fun h => c3 h.1)]
theorem R_first {s : mS} {A : Row} (hA : s.1 251 = A) (h : WF A) {m : Nat} (hm : 10000 ≤ m) : f_R_drawsFirst m s = some (0, sr (sd s (actD A (s.1 249 36)).2) 251 (actD A (s.1 249 36)).1) := by
  have w0 := WFv_boxes h.1
  have w1 := WFv_plots h.1
  have w2 := WFv_dead h.1
  obtain ⟨n0, hn0⟩ : ∃ n, m = n + 1 := ⟨m - 1, by omega⟩
  generalize hx : s.1 249 36 = x
  have x8 := dr_in x (n := 8) (by omega)
  have d1 := R_draw (s := s) m (n := 8) (by omega)
  rw [hx] at d1
  have hu : (sd s (nx x)).1 251 = A := by rw [sd_ne _ _ (by decide)]; exact hA
  have hux : (sd s (nx x)).1 249 36 = nx x := sd_x s _
  have idle : sr (sd s (nx x)) 251 A = sd s (nx x) := by rw [← hu, sr_self]
  have t2 : ∀ w y : Int, f_R_drawsTwo m w y (sd s (nx x)) = if A 2 = 0 ∨ y = 0 then some (0, sd s (nx x)) else (if w = 2 ∧ dr (nx x) (A 2) = dr (nx (nx x)) y then some (0, sd s (nx (nx (nx x)))) else ((f_R_doIf m w (dr (nx x) (A 2)) (dr (nx (nx x)) y) (sd s (nx (nx (nx x))))).bind fun p2 => (some (0, p2.2)))) := by
    intro w y; have := R_two (m := m) hu w y; rw [hux, sd_sd] at this; exact this
  have hu3 : (sd s (nx (nx (nx x)))).1 251 = A := by rw [sd_ne _ _ (by decide)]; exact hA
  have hu2 : (sd s (nx (nx x))).1 251 = A := by rw [sd_ne _ _ (by decide)]; exact hA
  have idle3 : sr (sd s (nx (nx (nx x)))) 251 A = sd s (nx (nx (nx x))) := by rw [← hu3, sr_self]
  have d2 : A 0 ≠ 0 → f_R_draw m (A 0) (sd s (nx x)) = some (dr (nx x) (A 0), sd s (nx (nx x))) := by intro hh; have := R_draw (s := sd s (nx x)) m hh; rw [hux, sd_sd] at this; exact this
  rw [f_R_drawsFirst_eq, d1, Option.bind_some]
  simp only [hu]
  have em : l_R_drawsFirst_L44 m m = l_R_drawsFirst_L44 m (n0 + 1) := by rw [← hn0]
  rw [em]
  have L44 : ∀ u : mS, dr x 8 ≠ 5 → dr x 8 ≠ 6 → l_R_drawsFirst_L44 m (n0 + 1) (dr x 8) u = some (0, u) := by
    intro u h5 h6; rw [l_R_drawsFirst_L44_eq, if_neg h5, if_neg h6]
  unfold actD
  by_cases c1 : dr x 8 < 3
  · have c3 : ¬ dr x 8 = 3 := by omega
    have c4 : ¬ dr x 8 = 4 := by omega
    rw [if_pos c1, if_pos c1, t2]
    by_cases z : A 2 = 0 ∨ A 0 = 0
    · rw [if_pos z, if_pos z, Option.bind_some, if_neg c3, if_neg c4, L44 _ (by omega) (by omega), idle]
    · have n2 : ¬ ((0 : Int) = 2 ∧ dr (nx x) (A 2) = dr (nx (nx x)) (A 0)) := by intro hh; omega
      have q1 := dr_in (nx x) (n := A 2) (by omega)
      have q2 := dr_in (nx (nx x)) (n := A 0) (by omega)
      obtain ⟨d, hd⟩ : ∃ d : Nat, dr (nx x) (A 2) = (d : Int) := ⟨(dr (nx x) (A 2)).toNat, by omega⟩
      obtain ⟨b, hb⟩ : ∃ d : Nat, dr (nx (nx x)) (A 0) = (d : Int) := ⟨(dr (nx (nx x)) (A 0)).toNat, by omega⟩
      rw [if_neg z, if_neg z, if_neg n2, hd, hb, R_doL hu3 h hm (by omega) (by omega), Option.bind_some, Option.bind_some, if_neg c3, if_neg c4, L44 _ (by omega) (by omega)]
      rfl
  · rw [if_neg c1, if_neg c1]
    by_cases c2 : dr x 8 = 3 ∨ dr x 8 = 4
    · have n2 : ¬ ((1 : Int) = 2 ∧ dr (nx x) (A 2) = dr (nx (nx x)) (A 1)) := by intro hh; omega
      have key : ((f_R_drawsTwo m 1 (A 1) (sd s (nx x))).bind fun p1 => (l_R_drawsFirst_L44 m (n0 + 1) (dr x 8) p1.2)) = some (0, sr (sd s (if A 2 = 0 ∨ A 1 = 0 then (A, nx x) else (doY A (dr (nx x) (A 2)).toNat (dr (nx (nx x)) (A 1)).toNat, nx (nx (nx x)))).2) 251 (if A 2 = 0 ∨ A 1 = 0 then (A, nx x) else (doY A (dr (nx x) (A 2)).toNat (dr (nx (nx x)) (A 1)).toNat, nx (nx (nx x)))).1) := by
        rw [t2]
        by_cases z : A 2 = 0 ∨ A 1 = 0
        · rw [if_pos z, if_pos z, Option.bind_some, L44 _ (by omega) (by omega), idle]
        · have q1 := dr_in (nx x) (n := A 2) (by omega)
          have q2 := dr_in (nx (nx x)) (n := A 1) (by omega)
          obtain ⟨d, hd⟩ : ∃ d : Nat, dr (nx x) (A 2) = (d : Int) := ⟨(dr (nx x) (A 2)).toNat, by omega⟩
          obtain ⟨b, hb⟩ : ∃ d : Nat, dr (nx (nx x)) (A 1) = (d : Int) := ⟨(dr (nx (nx x)) (A 1)).toNat, by omega⟩
          rw [if_neg z, if_neg z, if_neg n2, hd, hb, R_doY hu3 h hm (by omega) (by omega), Option.bind_some, Option.bind_some, L44 _ (by omega) (by omega)]
          rfl
      rw [if_pos c2]
      by_cases c3 : dr x 8 = 3
      · rw [if_pos c3]; exact key
      · rw [if_neg c3, if_pos (by omega)]; exact key
    · rw [if_neg c2, if_neg (fun hh => c2 (Or.inl hh)), if_neg (fun hh => c2 (Or.inr hh)), l_R_drawsFirst_L44_eq, hu]
      by_cases c5 : dr x 8 = 5
      · rw [if_pos c5, if_pos c5]
        have c6 : ¬ dr x 8 = 6 := by omega
        by_cases z : 0 < A 0
        · have z' : A 0 ≠ 0 := by omega
          have q1 := dr_in (nx x) z
          obtain ⟨b, hb⟩ : ∃ d : Nat, dr (nx x) (A 0) = (d : Int) := ⟨(dr (nx x) (A 0)).toNat, by omega⟩
          rw [if_pos z, if_neg z', d2 z', Option.bind_some, hb, R_doM hu2 h (by omega), Option.bind_some, if_neg c6]
          rfl
        · have z0 : A 0 = 0 := by omega
          rw [if_neg z, if_neg c6, if_pos z0, idle]
      · rw [if_neg c5, if_neg c5]
        by_cases c6 : dr x 8 = 6
        · rw [if_pos c6, if_pos c6, t2]
          by_cases z : A 2 = 0
          · rw [if_pos (Or.inl z), if_pos z, Option.bind_some, idle]
          · rw [if_neg (by omega : ¬ (A 2 = 0 ∨ A 2 = 0)), if_neg z]
            by_cases z2 : dr (nx x) (A 2) = dr (nx (nx x)) (A 2)
            · rw [if_pos ⟨rfl, z2⟩, if_pos z2, Option.bind_some, idle3]
            · have q1 := dr_in (nx x) (n := A 2) (by omega)
              have q2 := dr_in (nx (nx x)) (n := A 2) (by omega)
              rw [if_neg (fun hh => z2 hh.2), if_neg z2]
              obtain ⟨d, hd⟩ : ∃ d : Nat, dr (nx x) (A 2) = (d : Int) := ⟨(dr (nx x) (A 2)).toNat, by omega⟩
              obtain ⟨e, he⟩ : ∃ d : Nat, dr (nx (nx x)) (A 2) = (d : Int) := ⟨(dr (nx (nx x)) (A 2)).toNat, by omega⟩
              rw [hd, he, R_doW hu3 h (by omega) (by omega) (by omega), Option.bind_some, Option.bind_some]
              rfl
        · rw [if_neg c6, if_neg c6, idle]
theorem sd_sr (s : mS) (x : Int) (A : Row) : sd (sr s 251 A) x = sr (sd s x) 251 A := by unfold sd; rw [sr_ne _ _ _ (by decide), sr_cm _ _ _ _ _ (by decide)]
theorem R_drawsL {s : mS} {m : Nat} (hm : 10000 ≤ m) (x3 : Int) (hx : x3 ≤ 400) : ∀ (k n i : Nat) (A : Row) (x : Int), WF A → (i : Int) + k = x3 → k < n → A 85 + k ≤ 400 →
    l_R_drawDays_L24 m n x3 (i : Int) (sr (sd s x) 251 A) = some (x3, sr (sd s (drawsA k (A, x)).2) 251 (drawsA k (A, x)).1) := by
  intro k
  induction k with
  | zero =>
    intro n i A x h hi hkn h4
    obtain ⟨n, rfl⟩ : ∃ n', n = n' + 1 := ⟨n - 1, by omega⟩
    rw [l_R_drawDays_L24_eq, if_neg (by omega)]; rfl
  | succ k ih =>
    intro n i A x h hi hkn h4
    obtain ⟨n, rfl⟩ : ∃ n', n = n' + 1 := ⟨n - 1, by omega⟩
    have e1 : w32 ((i : Int) + 1) = ((i + 1 : Nat) : Int) := by rw [w32_in (by omega) (by omega)]; rfl
    obtain ⟨a1, a2⟩ := actD_ok h x
    have e85 := a2 85 (by omega)
    have hn := (WFv_dead a1.1).2
    have f := R_first (s := sr (sd s x) 251 A) (sr_eq _ _ _) h hm
    have ex : (sr (sd s x) 251 A).1 249 36 = x := by rw [sr_ne _ _ _ (by decide), sd_x]
    rw [ex, sd_sr, sd_sd, sr_sr] at f
    rw [l_R_drawDays_L24_eq, if_pos (by omega), e1, f, Option.bind_some]
    have g := R_dayW (s := sr (sd s (actD A x).2) 251 (actD A x).1) (sr_eq _ _ _) a1 (m := m) (by omega)
    rw [sr_sr] at g
    rw [g, Option.bind_some]
    exact ih n (i + 1) (dayA (actD A x).1) (actD A x).2 (WF_dayA a1 (by omega)) (by omega) (by omega) (by rw [dayA_day hn]; omega)
theorem R_draws {s : mS} {A : Row} (hA : s.1 251 = A) (h : WF A) {m : Nat} (hm : 10000 ≤ m) {n : Int} (h0 : 0 ≤ n) (h1 : n ≤ 400) (x : Int) : f_R_drawDays m n x s = some (min n (400 - A 85), sr (sd s (drawsA (min n (400 - A 85)).toNat (A, x)).2) 251 (drawsA (min n (400 - A 85)).toNat (A, x)).1) := by
  have hdy := WFs_day h.2.1
  have e : wI s 249 36 x = sr (sd s x) 251 A := by rw [wI_sr]; show sd s x = _; rw [← hA, ← sd_ne s x (by decide : 251 ≠ 249), sr_self]
  have q : f_R_least m n (w32 (400 - (wI s 249 36 x).1 251 85)) (wI s 249 36 x) = some (min n (400 - A 85), wI s 249 36 x) := by
    rw [f_R_least_eq, wI_ne (by decide), hA, w32_in (by omega) (by omega)]
    by_cases c : n < 400 - A 85
    · rw [if_pos c, show min n (400 - A 85) = n from by omega]
    · rw [if_neg c, show min n (400 - A 85) = 400 - A 85 from by omega]
  rw [f_R_drawDays_eq, q, Option.bind_some, e]
  exact R_drawsL hm (min n (400 - A 85)) (by omega) (min n (400 - A 85)).toNat m 0 A x h (by omega) (by omega) (by omega)
