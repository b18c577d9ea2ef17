/-! ===== layer 3: crowd, need, longest, soon ===== -/
def ct (p : Nat → Bool) : Nat → Nat
  | 0 => 0
  | n + 1 => ct p n + if p n then 1 else 0
theorem ct_s (p : Nat → Bool) (n : Nat) : ct p (n + 1) = ct p n + if p n then 1 else 0 := rfl
theorem ct_le (p : Nat → Bool) : ∀ n, ct p n ≤ n
  | 0 => Nat.le_refl 0
  | n + 1 => by rw [ct_s]; have := ct_le p n; split <;> omega
theorem ct_y {p : Nat → Bool} {n : Nat} (h : p n = true) (hn : n < 1000) : w32 ((ct p n : Int) + 1) = ((ct p (n + 1) : Nat) : Int) := by
  have := ct_le p n
  rw [w32_in (by omega) (by omega), ct_s, if_pos h]; rfl
theorem ct_n {p : Nat → Bool} {n : Nat} (h : p n = false) : ct p n = ct p (n + 1) := by rw [ct_s, h]; rfl
theorem s1w (i : Nat) (h : i < 100000) : w32 ((i : Int) + 1) = ((i + 1 : Nat) : Int) := by rw [w32_in (by omega) (by omega)]; rfl
def crowdP (A : Row) (n : Int) (d : Nat) : Bool := decide (A (164 + d) = 1) || (decide (A (164 + d) = 0) && decide (A (41 + d) ≤ A 85 + n))
theorem C_crowdL {s : mS} {A : Row} (hs : SR s 17 A) (hr : VR s 4 A) (h : WF A) (m : Nat) {x : Int} (h0 : 0 ≤ x) (h1 : x ≤ 99) : ∀ (k n i : Nat), i + k = (A 2).toNat → k < n →
    l_X_crowd_L16 m n x ((ct (crowdP A x) i : Nat) : Int) (i : Int) s = some (((ct (crowdP A x) (A 2).toNat : Nat) : Int), s) := by
  have w2 := WFv_dead h.1
  have hdy := WFs_day h.2.1
  intro k
  induction k with
  | zero =>
    intro n i hi hkn
    obtain ⟨n, rfl⟩ : ∃ n', n = n' + 1 := ⟨n - 1, by omega⟩
    rw [l_X_crowd_L16_eq, VR4_dead hr, if_neg (by omega), show i = (A 2).toNat from by omega]
  | succ k ih =>
    intro n i hi hkn
    obtain ⟨n, rfl⟩ : ∃ n', n = n' + 1 := ⟨n - 1, by omega⟩
    have hd : (i : Int) < A 2 := by omega
    have ih1 := ih n (i + 1) (by omega) (by omega)
    rw [l_X_crowd_L16_eq, VR4_dead hr, if_pos hd, inR_pos (by omega) (by omega), inR_pos (by omega) (by omega), Int.toNat_natCast, SR17_how hs hd, VR4_dday hr hd, SR17_day hs, w32_in (x := A 85 + x) (by omega) (by omega), s1w i (by omega)]
    by_cases c1 : A (164 + i) = 1
    · have hp : crowdP A x i = true := by simp [crowdP, c1]
      rw [if_pos c1, ct_y hp (by omega)]; exact ih1
    · rw [if_neg c1]
      by_cases c2 : A (164 + i) = 0
      · rw [if_pos c2]
        by_cases c3 : A 85 + x < A (41 + i)
        · have hp : crowdP A x i = false := by simp [crowdP, c2]; omega
          rw [if_pos c3, ct_n hp]; exact ih1
        · have hp : crowdP A x i = true := by simp [crowdP, c2]; omega
          rw [if_neg c3, ct_y hp (by omega)]; exact ih1
      · have hp : crowdP A x i = false := by simp [crowdP, c1, c2]
        rw [if_neg c2, ct_n hp]; exact ih1
theorem R_crowdL {s : mS} {A : Row} (hA : s.1 251 = A) (h : WF A) (m : Nat) {x : Int} (h0 : 0 ≤ x) (h1 : x ≤ 99) : ∀ (k n i : Nat), i + k = (A 2).toNat → k < n →
    l_R_crowd_L21 m n x ((ct (crowdP A x) i : Nat) : Int) (i : Int) s = some (((ct (crowdP A x) (A 2).toNat : Nat) : Int), s) := by
  have w2 := WFv_dead h.1
  have hdy := WFs_day h.2.1
  intro k
  induction k with
  | zero =>
    intro n i hi hkn
    obtain ⟨n, rfl⟩ : ∃ n', n = n' + 1 := ⟨n - 1, by omega⟩
    rw [l_R_crowd_L21_eq, hA, if_neg (by omega), show i = (A 2).toNat from by omega]
  | succ k ih =>
    intro n i hi hkn
    obtain ⟨n, rfl⟩ : ∃ n', n = n' + 1 := ⟨n - 1, by omega⟩
    have hd : (i : Int) < A 2 := by omega
    have ih1 := ih n (i + 1) (by omega) (by omega)
    rw [l_R_crowd_L21_eq, hA, if_pos hd, ix164 (by omega), ix164 (by omega), ix41 (by omega), ix164n (by omega), ix41n (by omega), w32_in (x := A 85 + x) (by omega) (by omega), s1w i (by omega)]
    by_cases c1 : A (164 + i) = 1
    · have hp : crowdP A x i = true := by simp [crowdP, c1]
      rw [if_pos c1, ct_y hp (by omega)]; exact ih1
    · rw [if_neg c1]
      by_cases c2 : A (164 + i) = 0
      · rw [if_pos c2]
        by_cases c3 : A 85 + x < A (41 + i)
        · have hp : crowdP A x i = false := by simp [crowdP, c2]; omega
          rw [if_pos c3, ct_n hp]; exact ih1
        · have hp : crowdP A x i = true := by simp [crowdP, c2]; omega
          rw [if_neg c3, ct_y hp (by omega)]; exact ih1
      · have hp : crowdP A x i = false := by simp [crowdP, c1, c2]
        rw [if_neg c2, ct_n hp]; exact ih1
theorem S_crowd {m : Nat} (hm : 1000 ≤ m) (a : Int) : Sim (f_X_crowd m a) (f_R_crowd m a) := by
  refine Sim_e (fun s hs => ?_)
  obtain ⟨⟨hW, hr, hS, -, -⟩, -⟩ := hs
  have hA : (wI s 249 0 0).1 251 = s.1 251 := th_ne s 0 (by decide)
  have w2 := WFv_dead hW.1
  have n1 : ¬ (1 : Int) = 0 := by decide
  rw [f_X_crowd_eq, f_R_crowd_eq, R_isIn, Option.bind_some]
  by_cases c : 0 ≤ a ∧ a ≤ 99
  · have q1 := C_crowdL hS hr hW m c.1 c.2 (s.1 251 2).toNat m 0 (by omega) (by omega)
    have q2 := R_crowdL hA hW m c.1 c.2 (s.1 251 2).toNat m 0 (by omega) (by omega)
    rw [show ((ct (crowdP (s.1 251) a) 0 : Nat) : Int) = 0 from rfl, show ((0 : Nat) : Int) = 0 from rfl] at q1 q2
    rw [if_neg (by omega), if_neg (by omega), if_pos c]
    simp only [n1, if_false]
    rw [q1, q2]; exact ⟨_, rfl, rfl⟩
  · rw [if_neg c]
    by_cases c1 : a < 0
    · rw [if_pos c1]; exact ⟨_, rfl, rfl⟩
    · rw [if_neg c1, if_pos (by omega)]; exact ⟨_, rfl, rfl⟩
def outP (A : Row) (day len : Int) (d : Nat) : Bool := decide (A (164 + d) ≠ 3) && (decide ((if A (164 + d) = 0 then A (41 + d) else A 85) ≤ day) && decide (day < (if A (164 + d) = 0 then A (41 + d) else A 85) + len))
theorem C_outL {s : mS} {A : Row} (hs : SR s 17 A) (hr : VR s 4 A) (h : WF A) (m : Nat) {day len : Int} (h0 : 0 ≤ len) (h1 : len ≤ 1000) : ∀ (k n i : Nat), i + k = (A 2).toNat → k < n →
    l_X_outOn_L5 m n day len ((ct (outP A day len) i : Nat) : Int) (i : Int) s = some (((ct (outP A day len) (A 2).toNat : Nat) : Int), s) := by
  have w2 := WFv_dead h.1
  have hdy := WFs_day h.2.1
  intro k
  induction k with
  | zero =>
    intro n i hi hkn
    obtain ⟨n, rfl⟩ : ∃ n', n = n' + 1 := ⟨n - 1, by omega⟩
    rw [l_X_outOn_L5_eq, VR4_dead hr, if_neg (by omega), show i = (A 2).toNat from by omega]
  | succ k ih =>
    intro n i hi hkn
    obtain ⟨n, rfl⟩ : ∃ n', n = n' + 1 := ⟨n - 1, by omega⟩
    have hd : (i : Int) < A 2 := by omega
    have ho := WFv_one h.1 hd
    have ih1 := ih n (i + 1) (by omega) (by omega)
    rw [l_X_outOn_L5_eq, VR4_dead hr, if_pos hd, inR_pos (by omega) (by omega), inR_pos (by omega) (by omega), Int.toNat_natCast, SR17_how hs hd, VR4_dday hr hd, SR17_day hs, w32_in (x := A (41 + i) + len) (by omega) (by omega), w32_in (x := A 85 + len) (by omega) (by omega), s1w i (by omega)]
    by_cases c0 : A (164 + i) = 0
    · rw [if_pos c0, if_neg (by omega)]
      by_cases c2 : day < A (41 + i)
      · have hp : outP A day len i = false := by simp [outP, c0]; omega
        rw [if_pos c2, ct_n hp]; exact ih1
      · rw [if_neg c2]
        by_cases c3 : day < A (41 + i) + len
        · have hp : outP A day len i = true := by simp [outP, c0]; omega
          rw [if_pos c3, ct_y hp (by omega)]; exact ih1
        · have hp : outP A day len i = false := by simp [outP, c0]; omega
          rw [if_neg c3, ct_n hp]; exact ih1
    · rw [if_neg c0]
      by_cases c1 : A (164 + i) = 3
      · have hp : outP A day len i = false := by simp [outP, c1]
        rw [if_pos c1, ct_n hp]; exact ih1
      · rw [if_neg c1]
        by_cases c2 : day < A 85
        · have hp : outP A day len i = false := by simp [outP, c0, c1]; omega
          rw [if_pos c2, ct_n hp]; exact ih1
        · rw [if_neg c2]
          by_cases c3 : day < A 85 + len
          · have hp : outP A day len i = true := by simp [outP, c0, c1]; omega
            rw [if_pos c3, ct_y hp (by omega)]; exact ih1
          · have hp : outP A day len i = false := by simp [outP, c0, c1]; omega
            rw [if_neg c3, ct_n hp]; exact ih1
theorem R_out {s : mS} {A : Row} (hA : s.1 251 = A) (h : WF A) (m : Nat) {d : Nat} (hd : (d : Int) < A 2) {day M : Int} (h0 : 0 ≤ day) (h1 : day ≤ 1000) (m0 : 0 ≤ M) (m1 : M ≤ 60) : f_R_isOut m (d : Int) day M s = some (if outP A day (M + A 5) d = true then 1 else 0, s) := by
  have w2 := WFv_dead h.1
  have w5 := WFv_airn h.1
  have hdy := WFs_day h.2.1
  have ho := WFv_one h.1 hd
  rw [f_R_isOut_eq, hA, ix164 (by omega), ix164 (by omega), ix41 (by omega), ix164n (by omega), ix41n (by omega), R_isIn, R_isIn, Option.bind_some, Option.bind_some, w32_in (x := M + A 5) (by omega) (by omega), w32_in (x := M + A 5 - 1) (by omega) (by omega), w32_in (x := day - A (41 + d)) (by omega) (by omega), w32_in (x := day - A 85) (by omega) (by omega)]
  by_cases c1 : A (164 + d) = 3
  · rw [if_pos c1]; simp [outP, c1]
  · rw [if_neg c1]
    by_cases c0 : A (164 + d) = 0
    · rw [if_pos c0]
      by_cases c : 0 ≤ day - A (41 + d) ∧ day - A (41 + d) ≤ M + A 5 - 1
      · have hp : outP A day (M + A 5) d = true := by simp [outP, c0]; omega
        simp only [if_pos c, hp]; rfl
      · have hp : outP A day (M + A 5) d = false := by simp [outP, c0]; omega
        simp only [if_neg c, hp]; rfl
    · rw [if_neg c0]
      by_cases c : 0 ≤ day - A 85 ∧ day - A 85 ≤ M + A 5 - 1
      · have hp : outP A day (M + A 5) d = true := by simp [outP, c0, c1]; omega
        simp only [if_pos c, hp]; rfl
      · have hp : outP A day (M + A 5) d = false := by simp [outP, c0, c1]; omega
        simp only [if_neg c, hp]; rfl
def nd (A : Row) (M : Int) : Nat → Nat
  | 0 => 0
  | i + 1 => max (nd A M i) (ct (outP A (A 85 + (i : Int)) (M + A 5)) (A 2).toNat)
theorem nd_s (A : Row) (M : Int) (i : Nat) : nd A M (i + 1) = max (nd A M i) (ct (outP A (A 85 + (i : Int)) (M + A 5)) (A 2).toNat) := rfl
theorem C_needL {s : mS} {A : Row} (hs : SR s 17 A) (hr : VR s 4 A) (h : WF A) {m : Nat} (hm : 1000 ≤ m) {N M : Int} (h1 : N ≤ 99) (m0 : 0 ≤ M) (m1 : M ≤ 60) : ∀ (k n i : Nat), (i : Int) + k = N + 1 → k < n →
    l_X_need_L28 m n N M ((nd A M i : Nat) : Int) (i : Int) s = some (((nd A M (i + k) : Nat) : Int), s) := by
  have w2 := WFv_dead h.1
  have w5 := WFv_airn h.1
  have hdy := WFs_day h.2.1
  intro k
  induction k with
  | zero =>
    intro n i hi hkn
    obtain ⟨n, rfl⟩ : ∃ n', n = n' + 1 := ⟨n - 1, by omega⟩
    rw [l_X_need_L28_eq, if_pos (by omega)]; rfl
  | succ k ih =>
    intro n i hi hkn
    obtain ⟨n, rfl⟩ : ∃ n', n = n' + 1 := ⟨n - 1, by omega⟩
    have ih1 := ih n (i + 1) (by omega) (by omega)
    have q := C_outL hs hr h m (day := A 85 + (i : Int)) (len := M + A 5) (by omega) (by omega) (A 2).toNat m 0 (by omega) (by omega)
    rw [show ((ct (outP A (A 85 + (i : Int)) (M + A 5)) 0 : Nat) : Int) = 0 from rfl, show ((0 : Nat) : Int) = 0 from rfl] at q
    rw [l_X_need_L28_eq, if_neg (by omega), SR17_day hs, VR4_airn hr, w32_in (x := A 85 + (i : Int)) (by omega) (by omega), w32_in (x := M + A 5) (by omega) (by omega), f_X_outOn_eq, q, Option.bind_some, f_Jm_max_eq, s1w i (by omega)]
    have ek : i + 1 + k = i + (k + 1) := by omega
    rw [ek, nd_s] at ih1
    generalize ct (outP A (A 85 + (i : Int)) (M + A 5)) (A 2).toNat = z at ih1 ⊢
    by_cases c : ((nd A M i : Nat) : Int) < (z : Int)
    · rw [if_pos c, Option.bind_some]
      rw [show max (nd A M i) z = z from by omega] at ih1; exact ih1
    · rw [if_neg c, Option.bind_some]
      rw [show max (nd A M i) z = nd A M i from by omega] at ih1; exact ih1
theorem R_needI {s : mS} {A : Row} (hA : s.1 251 = A) (h : WF A) (m : Nat) {N M x3 x4 : Int} (a0 : 0 ≤ x4) (a1 : x4 ≤ 99) (m0 : 0 ≤ M) (m1 : M ≤ 60) : ∀ (k n i : Nat), i + k = (A 2).toNat → k < n →
    l_R_need_L44 m n N M x3 x4 ((ct (outP A (A 85 + x4) (M + A 5)) i : Nat) : Int) (i : Int) s = (if x3 < ((ct (outP A (A 85 + x4) (M + A 5)) (A 2).toNat : Nat) : Int) then (l_R_need_L32 m (n - (k + 1)) N M ((ct (outP A (A 85 + x4) (M + A 5)) (A 2).toNat : Nat) : Int) (w32 (x4 + 1)) s) else (l_R_need_L32 m (n - (k + 1)) N M x3 (w32 (x4 + 1)) s)) := by
  have w2 := WFv_dead h.1
  have hdy := WFs_day h.2.1
  intro k
  induction k with
  | zero =>
    intro n i hi hkn
    obtain ⟨n, rfl⟩ : ∃ n', n = n' + 1 := ⟨n - 1, by omega⟩
    rw [l_R_need_L44_eq, hA, if_neg (by omega), show i = (A 2).toNat from by omega]; rfl
  | succ k ih =>
    intro n i hi hkn
    obtain ⟨n, rfl⟩ : ∃ n', n = n' + 1 := ⟨n - 1, by omega⟩
    have hd : (i : Int) < A 2 := by omega
    have ih1 := ih n (i + 1) (by omega) (by omega)
    have en : n + 1 - (k + 1 + 1) = n - (k + 1) := by omega
    have n1 : ¬ (1 : Int) = 0 := by decide
    rw [en, l_R_need_L44_eq, hA, if_pos hd, w32_in (x := A 85 + x4) (by omega) (by omega), R_out hA h m hd (by omega) (by omega) m0 m1, Option.bind_some, s1w i (by omega)]
    cases hp : outP A (A 85 + x4) (M + A 5) i with
    | true => simp only [if_true, n1, if_false]; rw [ct_y hp (by omega)]; exact ih1
    | false => simp only [Bool.false_eq_true, if_false, if_true]; rw [ct_n hp]; exact ih1
theorem R_needL {s : mS} {A : Row} (hA : s.1 251 = A) (h : WF A) (m : Nat) {N M : Int} (h1 : N ≤ 99) (m0 : 0 ≤ M) (m1 : M ≤ 60) : ∀ (k n i : Nat), (i : Int) + k = N + 1 → 20 * (k + 1) ≤ n →
    l_R_need_L32 m n N M ((nd A M i : Nat) : Int) (i : Int) s = some (((nd A M (i + k) : Nat) : Int), s) := by
  have w2 := WFv_dead h.1
  intro k
  induction k with
  | zero =>
    intro n i hi hkn
    obtain ⟨n, rfl⟩ : ∃ n', n = n' + 1 := ⟨n - 1, by omega⟩
    rw [l_R_need_L32_eq, if_pos (by omega)]; rfl
  | succ k ih =>
    intro n i hi hkn
    obtain ⟨n, rfl⟩ : ∃ n', n = n' + 1 := ⟨n - 1, by omega⟩
    have q := R_needI hA h m (N := N) (M := M) (x3 := ((nd A M i : Nat) : Int)) (x4 := (i : Int)) (by omega) (by omega) m0 m1 (A 2).toNat n 0 (by omega) (by omega)
    rw [show ((ct (outP A (A 85 + (i : Int)) (M + A 5)) 0 : Nat) : Int) = 0 from rfl, show ((0 : Nat) : Int) = 0 from rfl] at q
    have ih1 := ih (n - ((A 2).toNat + 1)) (i + 1) (by omega) (by omega)
    have ek : i + 1 + k = i + (k + 1) := by omega
    rw [ek, nd_s] at ih1
    rw [l_R_need_L32_eq, if_neg (by omega), q, s1w i (by omega)]
    generalize ct (outP A (A 85 + (i : Int)) (M + A 5)) (A 2).toNat = z at ih1 ⊢
    by_cases c : ((nd A M i : Nat) : Int) < (z : Int)
    · rw [if_pos c]
      rw [show max (nd A M i) z = z from by omega] at ih1; exact ih1
    · rw [if_neg c]
      rw [show max (nd A M i) z = nd A M i from by omega] at ih1; exact ih1
theorem S_need {m : Nat} (hm : 10000 ≤ m) (a b : Int) : Sim (f_X_need m a b) (f_R_need m a b) := by
  refine Sim_e (fun s hs => ?_)
  obtain ⟨⟨hW, hr, hS, -, -⟩, -⟩ := hs
  have hA : (wI s 249 0 0).1 251 = s.1 251 := th_ne s 0 (by decide)
  have n1 : ¬ (1 : Int) = 0 := by decide
  rw [f_X_need_eq, f_R_need_eq, R_isIn, Option.bind_some]
  simp only []
  rw [R_isIn, Option.bind_some]
  by_cases c : 0 ≤ a ∧ a ≤ 99
  · simp only [if_pos c, n1, if_false]
    by_cases c2 : 1 ≤ b ∧ b ≤ 60
    · have q1 := C_needL hS hr hW (m := m) (by omega) (N := a) (M := b) c.2 (by omega) c2.2 (a + 1).toNat m 0 (by omega) (by omega)
      have q2 := R_needL hA hW m (N := a) (M := b) c.2 (by omega) c2.2 (a + 1).toNat m 0 (by omega) (by omega)
      rw [show ((nd (s.1 251) b 0 : Nat) : Int) = 0 from rfl, show ((0 : Nat) : Int) = 0 from rfl] at q1 q2
      rw [if_neg (by omega), if_neg (by omega), if_neg (by omega), if_neg (by omega), q1]
      simp only [if_pos c2, n1, if_false]
      rw [q2]; exact ⟨_, rfl, rfl⟩
    · simp only [if_neg c2, if_true]
      rw [if_neg (by omega), if_neg (by omega)]
      by_cases c3 : b < 1
      · rw [if_pos c3]; exact ⟨_, rfl, rfl⟩
      · rw [if_neg c3, if_pos (by omega)]; exact ⟨_, rfl, rfl⟩
  · simp only [if_neg c, if_true]
    by_cases c1 : a < 0
    · rw [if_pos c1]; exact ⟨_, rfl, rfl⟩
    · rw [if_neg c1, if_pos (by omega)]; exact ⟨_, rfl, rfl⟩
