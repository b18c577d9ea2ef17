/-! ===== layer 3: near ===== -/
def kk (A : Row) (S : Nat) : Nat → Nat
  | 0 => 0
  | i + 1 => kk A S i ||| if S.testBit i then (A (53 + i)).toNat else 0
theorem kk_s (A : Row) (S i : Nat) : kk A S (i + 1) = kk A S i ||| if S.testBit i then (A (53 + i)).toNat else 0 := rfl
theorem kk_lt {A : Row} (h : WFv A) (S : Nat) : ∀ i : Nat, (i : Int) ≤ A 2 → kk A S i < 4096
  | 0, _ => by simp [kk]
  | i + 1, hi => by
    have q := WFv_one h (d := i) (by omega)
    have := kk_lt h S i (by omega)
    rw [kk_s]
    refine Nat.or_lt_two_pow (n := 12) this ?_
    split
    · omega
    · exact Nat.pow_pos (by omega)
theorem kk_bit {A : Row} (h : WFv A) (S : Nat) : ∀ i : Nat, (i : Int) ≤ A 2 → ∀ e, (kk A S i).testBit e = true → (e : Int) < A 2
  | 0, _, e => by simp [kk]
  | i + 1, hi, e => by
    rw [kk_s, Nat.testBit_or, Bool.or_eq_true]
    intro q
    rcases q with q | q
    · exact kk_bit h S i (by omega) e q
    · by_cases c : S.testBit i = true
      · rw [if_pos c] at q; exact WFv_kin h (d := i) (by omega) e q
      · rw [if_neg c, Nat.zero_testBit] at q; cases q
theorem C_kinL {s : mS} {A : Row} (hr : VR s 4 A) (h : WFv A) (m : Nat) {S : Nat} (hS : S < 4096) : ∀ (k n i : Nat), i + k = (A 2).toNat → k < n →
    l_Vs_kinOfAny_L4 m n (S : Int) ((kk A S i : Nat) : Int) (i : Int) s = some (((kk A S (A 2).toNat : Nat) : Int), s) := by
  have w2 := WFv_dead h
  intro k
  induction k with
  | zero =>
    intro n i hi hkn
    obtain ⟨n, rfl⟩ : ∃ n', n = n' + 1 := ⟨n - 1, by omega⟩
    rw [l_Vs_kinOfAny_L4_eq, VR4_dead hr, if_neg (by omega), show i = (A 2).toNat from by omega]
  | succ k ih =>
    intro n i hi hkn
    obtain ⟨n, rfl⟩ : ∃ n', n = n' + 1 := ⟨n - 1, by omega⟩
    have hd : (i : Int) < A 2 := by omega
    have ih1 := ih n (i + 1) (by omega) (by omega)
    have q := WFv_one h hd
    have l := kk_lt h S i (by omega)
    obtain ⟨a, ha⟩ : ∃ a : Nat, A (53 + i) = (a : Int) := ⟨(A (53 + i)).toNat, by omega⟩
    have n1 : ¬ (1 : Int) = 0 := by decide
    rw [l_Vs_kinOfAny_L4_eq, VR4_dead hr, if_pos hd, bit_nat (by omega) (by omega), inR_pos (by omega) (by omega), Int.toNat_natCast, VR4_kin hr hd, ha, bor_nat (by omega) (by omega), s1w i (by omega)]
    rw [kk_s, ha, Int.toNat_natCast] at ih1
    cases hb : S.testBit i with
    | true => rw [hb] at ih1; simp only [if_true, n1, if_false] at ih1 ⊢; exact ih1
    | false => rw [hb] at ih1; simp only [Bool.false_eq_true, if_false, if_true, Nat.or_zero] at ih1 ⊢; exact ih1
theorem R_kinL {s : mS} {A : Row} (hA : s.1 251 = A) (h : WFv A) (m : Nat) {S : Nat} (hS : S < 4096) (e x4 : Int) : ∀ (k n i : Nat), i + k = (A 2).toNat → k < n →
    l_R_near_L54 m n e (S : Int) x4 ((S ||| kk A S i : Nat) : Int) (i : Int) s = l_R_near_L30 m (n - (k + 1)) e ((S ||| kk A S (A 2).toNat : Nat) : Int) (w32 (x4 + 1)) s := by
  have w2 := WFv_dead h
  intro k
  induction k with
  | zero =>
    intro n i hi hkn
    obtain ⟨n, rfl⟩ : ∃ n', n = n' + 1 := ⟨n - 1, by omega⟩
    rw [l_R_near_L54_eq, hA, if_neg (by omega), show i = (A 2).toNat from by omega]; rfl
  | succ k ih =>
    intro n i hi hkn
    obtain ⟨n, rfl⟩ : ∃ n', n = n' + 1 := ⟨n - 1, by omega⟩
    have hd : (i : Int) < A 2 := by omega
    have ih1 := ih n (i + 1) (by omega) (by omega)
    have q := WFv_one h hd
    have l := kk_lt h S i (by omega)
    have l2 : S ||| kk A S i < 2 ^ 12 := Nat.or_lt_two_pow hS l
    obtain ⟨a, ha⟩ : ∃ a : Nat, A (53 + i) = (a : Int) := ⟨(A (53 + i)).toNat, by omega⟩
    have n1 : ¬ (1 : Int) = 0 := by decide
    have en : n + 1 - (k + 1 + 1) = n - (k + 1) := by omega
    rw [en, l_R_near_L54_eq, hA, if_pos hd, R_has m s (by omega) (by omega), Option.bind_some, hA, ix53 (by omega), ix53n (by omega), ha, bor_nat (by omega) (by omega), s1w i (by omega)]
    rw [kk_s, ha, Int.toNat_natCast] at ih1
    cases hb : S.testBit i with
    | true => rw [hb] at ih1; simp only [if_true, n1, if_false] at ih1 ⊢; rw [Nat.or_assoc]; exact ih1
    | false => rw [hb] at ih1; simp only [Bool.false_eq_true, if_false, if_true, Nat.or_zero] at ih1 ⊢; exact ih1
def Sq (A : Row) (d : Nat) : Nat → Nat
  | 0 => 2 ^ d
  | j + 1 => Sq A d j ||| kk A (Sq A d j) (A 2).toNat
theorem Sq_s (A : Row) (d j : Nat) : Sq A d (j + 1) = Sq A d j ||| kk A (Sq A d j) (A 2).toNat := rfl
theorem Sq_ok {A : Row} (h : WFv A) {d : Nat} (hd : (d : Int) < A 2) : ∀ j : Nat, Sq A d j < 4096 ∧ ∀ e, (Sq A d j).testBit e = true → (e : Int) < A 2
  | 0 => by
    have w2 := WFv_dead h
    refine ⟨Nat.lt_of_lt_of_le (Nat.pow_lt_pow_right (by omega) (show d < 12 from by omega)) (Nat.le_refl _), fun e he => ?_⟩
    unfold Sq at he
    rw [Nat.testBit_two_pow] at he
    have : d = e := by simpa using he
    omega
  | j + 1 => by
    have w2 := WFv_dead h
    have q := Sq_ok h hd j
    rw [Sq_s]
    refine ⟨Nat.or_lt_two_pow (n := 12) q.1 (kk_lt h _ _ (by omega)), fun e he => ?_⟩
    rw [Nat.testBit_or, Bool.or_eq_true] at he
    rcases he with he | he
    · exact q.2 e he
    · exact kk_bit h _ _ (by omega) e he
theorem ct_mono {p q : Nat → Bool} (h : ∀ i, p i = true → q i = true) : ∀ n, ct p n ≤ ct q n
  | 0 => Nat.le_refl 0
  | n + 1 => by
    have := ct_mono h n
    rw [ct_s, ct_s]
    by_cases c : p n = true
    · rw [if_pos c, if_pos (h n c)]; omega
    · rw [if_neg c]; omega
theorem ct_strict {p q : Nat → Bool} (h : ∀ i, p i = true → q i = true) : ∀ (n i : Nat), i < n → p i = false → q i = true → ct p n < ct q n
  | 0, i, hi, _, _ => by omega
  | n + 1, i, hi, hp, hq => by
    rw [ct_s, ct_s]
    by_cases c : i = n
    · subst c
      have := ct_mono h i
      rw [hp, hq]; simp; omega
    · have := ct_strict h n i (by omega) hp hq
      by_cases c2 : p n = true
      · rw [if_pos c2, if_pos (h n c2)]; omega
      · rw [if_neg c2]; omega
/-- by eleven steps all are reached that will be -/
theorem Sq_end {A : Row} (h : WFv A) {d : Nat} (hd : (d : Int) < A 2) : Sq A d 12 = Sq A d 11 := by
  have w2 := WFv_dead h
  have inc : ∀ j i, (Sq A d j).testBit i = true → (Sq A d (j + 1)).testBit i = true := by
    intro j i hi; rw [Sq_s, Nat.testBit_or, hi]; rfl
  have stay : ∀ j, Sq A d (j + 1) = Sq A d j → ∀ k, Sq A d (j + k) = Sq A d j := by
    intro j hj k
    induction k with
    | zero => rfl
    | succ k ih =>
      rw [show j + (k + 1) = (j + k) + 1 from by omega, Sq_s, ih, ← Sq_s]; exact hj
  have grow : ∀ j, (∀ i, i < j → Sq A d (i + 1) ≠ Sq A d i) → j + 1 ≤ ct (fun i => (Sq A d j).testBit i) 12 := by
    intro j
    induction j with
    | zero =>
      intro _
      have := ct_strict (p := fun _ => false) (q := fun i => (Sq A d 0).testBit i) (fun i hi => by cases hi) 12 d (by omega) rfl (by show (2 ^ d).testBit d = true; exact Nat.testBit_two_pow_self)
      omega
    | succ j ih =>
      intro hne
      have q := ih (fun i hi => hne i (by omega))
      have hj := hne j (by omega)
      have : ∃ i, i < 12 ∧ (Sq A d j).testBit i = false ∧ (Sq A d (j + 1)).testBit i = true := by
        apply Classical.byContradiction
        intro hc
        apply hj
        apply Nat.eq_of_testBit_eq
        intro i
        by_cases c1 : (Sq A d (j + 1)).testBit i = true
        · by_cases c2 : (Sq A d j).testBit i = true
          · rw [c1, c2]
          · have b := (Sq_ok h hd (j + 1)).2 i c1
            exact absurd ⟨i, by omega, by simpa using c2, c1⟩ hc
        · have c2 : ¬ (Sq A d j).testBit i = true := fun hh => c1 (inc j i hh)
          have e1 : (Sq A d (j + 1)).testBit i = false := by simpa using c1
          have e2 : (Sq A d j).testBit i = false := by simpa using c2
          rw [e1, e2]
      obtain ⟨i, h1, h2, h3⟩ := this
      have := ct_strict (p := fun i => (Sq A d j).testBit i) (q := fun i => (Sq A d (j + 1)).testBit i) (inc j) 12 i h1 h2 h3
      omega
  apply Classical.byContradiction
  intro hn
  have all : ∀ i, i < 12 → Sq A d (i + 1) ≠ Sq A d i := by
    intro i hi he
    have s1 := stay i he (12 - i)
    have s2 := stay i he (11 - i)
    rw [show i + (12 - i) = 12 from by omega] at s1
    rw [show i + (11 - i) = 11 from by omega] at s2
    exact hn (by rw [s1, s2])
  have := grow 12 all
  have := ct_le (fun i => (Sq A d 12).testBit i) 12
  omega
theorem C_nearL {s : mS} {A : Row} (hr : VR s 4 A) (h : WFv A) {m : Nat} (hm : 1000 ≤ m) {d e : Nat} (hd : (d : Int) < A 2) (he : (e : Int) < A 2) : ∀ (k n j : Nat), j + k = 12 → k < n →
    l_X_near_L25 m n (e : Int) ((Sq A d j : Nat) : Int) (j : Int) s = some (ff (fun j => (Sq A d j).testBit e) j k, s) := by
  have w2 := WFv_dead h
  intro k
  induction k with
  | zero =>
    intro n j hi hkn
    obtain ⟨n, rfl⟩ : ∃ n', n = n' + 1 := ⟨n - 1, by omega⟩
    rw [l_X_near_L25_eq, if_neg (by omega)]; rfl
  | succ k ih =>
    intro n j hi hkn
    obtain ⟨n, rfl⟩ : ∃ n', n = n' + 1 := ⟨n - 1, by omega⟩
    have ih1 := ih n (j + 1) (by omega) (by omega)
    have q := (Sq_ok h hd j).1
    have l := kk_lt h (Sq A d j) (A 2).toNat (by omega)
    have kq := C_kinL hr h m q (A 2).toNat m 0 (by omega) (by omega)
    rw [show ((kk A (Sq A d j) 0 : Nat) : Int) = 0 from rfl, show ((0 : Nat) : Int) = 0 from rfl] at kq
    have n1 : ¬ (1 : Int) = 0 := by decide
    rw [l_X_near_L25_eq, if_pos (by omega), bit_nat (by omega) (by omega), f_Vs_kinOfAny_eq, kq, Option.bind_some, bor_nat (by omega) (by omega), s1w j (by omega), ← Sq_s]
    cases hb : (Sq A d j).testBit e with
    | true => rw [ff_y (p := fun j => (Sq A d j).testBit e) hb]; simp only [if_true, n1, if_false]
    | false => rw [ff_n (p := fun j => (Sq A d j).testBit e) hb]; simp only [Bool.false_eq_true, if_false, if_true]; exact ih1
theorem R_nearL {s : mS} {A : Row} (hA : s.1 251 = A) (h : WFv A) {m : Nat} {d e : Nat} (hd : (d : Int) < A 2) (he : (e : Int) < A 2) : ∀ (k n j : Nat), j + k = 13 → 20 * (k + 1) ≤ n →
    l_R_near_L30 m n (e : Int) ((Sq A d j : Nat) : Int) (j : Int) s = some (ff (fun j => (Sq A d j).testBit e) j k, s) := by
  have w2 := WFv_dead h
  intro k
  induction k with
  | zero =>
    intro n j hi hkn
    obtain ⟨n, rfl⟩ : ∃ n', n = n' + 1 := ⟨n - 1, by omega⟩
    rw [l_R_near_L30_eq, if_pos (by omega)]; rfl
  | succ k ih =>
    intro n j hi hkn
    obtain ⟨n, rfl⟩ : ∃ n', n = n' + 1 := ⟨n - 1, by omega⟩
    have ih1 := ih (n - ((A 2).toNat + 1)) (j + 1) (by omega) (by omega)
    have q := (Sq_ok h hd j).1
    have kq := R_kinL hA h m q (e : Int) (j : Int) (A 2).toNat n 0 (by omega) (by omega)
    rw [show Sq A d j ||| kk A (Sq A d j) 0 = Sq A d j from by simp [kk], show ((0 : Nat) : Int) = 0 from rfl, ← Sq_s, s1w j (by omega)] at kq
    have n1 : ¬ (1 : Int) = 0 := by decide
    rw [l_R_near_L30_eq, if_neg (by omega), R_has m s (by omega) (by omega), Option.bind_some]
    cases hb : (Sq A d j).testBit e with
    | true => rw [ff_y (p := fun j => (Sq A d j).testBit e) hb]; simp only [if_true, n1, if_false]
    | false => rw [ff_n (p := fun j => (Sq A d j).testBit e) hb]; simp only [Bool.false_eq_true, if_false, if_true]; rw [kq]; exact ih1
theorem S_near {m : Nat} (hm : 1000 ≤ m) (a b : Int) : Sim (f_X_near m a b) (f_R_near m a b) := by
  refine Sim_e (fun s hs => ?_)
  obtain ⟨⟨hW, hr, hS, -, -⟩, -⟩ := hs
  have hA : (wI s 249 0 0).1 251 = s.1 251 := th_ne s 0 (by decide)
  have w2 := WFv_dead hW.1
  have n1 : ¬ (1 : Int) = 0 := by decide
  rw [f_X_near_eq, f_R_near_eq, C_isDead hr, R_isDead hA hW.1, Option.bind_some, Option.bind_some]
  simp only []
  rw [C_isDead hr, R_isDead hA hW.1, Option.bind_some, Option.bind_some]
  by_cases c : 0 ≤ a ∧ a < s.1 251 2
  · simp only [if_pos c, n1, if_false]
    by_cases c2 : 0 ≤ b ∧ b < s.1 251 2
    · simp only [if_pos c2, n1, if_false]
      obtain ⟨d, rfl⟩ : ∃ d : Nat, a = (d : Int) := ⟨a.toNat, by omega⟩
      obtain ⟨e, rfl⟩ : ∃ d : Nat, b = (d : Int) := ⟨b.toNat, by omega⟩
      have q1 := C_nearL hr hW.1 hm (d := d) (e := e) c.2 c2.2 12 m 0 (by omega) (by omega)
      have q2 := R_nearL hA hW.1 (m := m) (d := d) (e := e) c.2 c2.2 13 m 0 (by omega) (by omega)
      rw [show Sq (s.1 251) d 0 = 2 ^ d from rfl, show ((0 : Nat) : Int) = 0 from rfl] at q1 q2
      rw [bshl_nat (by omega), q1, q2]
      refine ⟨_, rfl, ?_⟩
      refine congrArg (fun z => some (z, wI s 249 0 0)) ?_
      by_cases z : ff (fun j => (Sq (s.1 251) d j).testBit e) 0 12 = -1
      · rw [z]
        have al := ff_none 12 0 z
        apply Classical.byContradiction
        intro hc
        obtain ⟨j, h1, h2, h3, h4, h5⟩ := ff_some 13 0 hc
        by_cases j12 : j = 12
        · subst j12
          rw [Sq_end hW.1 c.2] at h4
          rw [al 11 (by omega) (by omega)] at h4; cases h4
        · rw [al j (by omega) (by omega)] at h4; cases h4
      · obtain ⟨j, h1, h2, h3, h4, h5⟩ := ff_some 12 0 z
        by_cases z2 : ff (fun j => (Sq (s.1 251) d j).testBit e) 0 13 = -1
        · rw [ff_none 13 0 z2 j (by omega) (by omega)] at h4; cases h4
        · obtain ⟨i, g1, g2, g3, g4, g5⟩ := ff_some 13 0 z2
          rw [h1, g1]
          by_cases l1 : i < j
          · rw [h5 i (by omega) l1] at g4; cases g4
          · by_cases l2 : j < i
            · rw [g5 j (by omega) l2] at h4; cases h4
            · omega
    · simp only [if_neg c2, if_true]; exact ⟨_, rfl, rfl⟩
  · simp only [if_neg c, if_true]; exact ⟨_, rfl, rfl⟩
