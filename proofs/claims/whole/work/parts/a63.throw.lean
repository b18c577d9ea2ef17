/-! ===== layer 3: dead, wear, mean: what may be thrown ===== -/
/-- where the class answers, the reference does so; else it refuses -/
def SimT (F G : mS → Option (Int × mS)) (P : mS → Prop) : Prop := ∀ s, Inv s → (P s → ∃ r, F s = some (r, s) ∧ G s = some (r, wI s 249 0 0)) ∧ (¬ P s → G s = some (0, wI (wI s 249 0 0) 249 0 1))
theorem S_dead (m : Nat) (a w : Int) : SimT (f_X_dead m a w) (f_R_dead m a w) (fun s => (0 ≤ a ∧ a < s.1 251 2) ∧ 0 ≤ w ∧ w ≤ 7) := by
  intro s hs
  obtain ⟨⟨hW, hr, hS, -, -⟩, -⟩ := hs
  have hA : (wI s 249 0 0).1 251 = s.1 251 := th_ne s 0 (by decide)
  have w2 := WFv_dead hW.1
  have n1 : ¬ (1 : Int) = 0 := by decide
  constructor
  · rintro ⟨c, cw⟩
    obtain ⟨d, rfl⟩ : ∃ d : Nat, a = (d : Int) := ⟨a.toNat, by omega⟩
    have hd : (d : Int) < s.1 251 2 := c.2
    have ho := WFv_one hW.1 hd
    have w0 := WFv_boxes hW.1
    rw [f_X_dead_eq, f_R_dead_eq, C_isDead hr, R_isDead hA hW.1, Option.bind_some, Option.bind_some]
    simp only [if_pos c, n1, if_false]
    rw [hA]
    simp (disch := omega) only [inR_pos, Int.toNat_natCast, ix29, ix29n, ix164, ix164n, ix176, ix176n, ix188, ix188n, ix200, ix200n, ix212, ix212n, ix53, ix53n, ix65, ix65n, VR4_dlong hr hd, SR17_how hS hd, SR17_inb hS hd, SR17_inp hS hd, SR17_wait hS hd, SR17_lain hS hd, VR4_kin hr hd, VR4_asks hr hd]
    by_cases c0 : w = 0
    · rw [if_pos c0, if_pos c0]; exact ⟨_, rfl, rfl⟩
    rw [if_neg c0, if_neg c0]
    by_cases c1 : w = 1
    · rw [if_pos c1, if_pos c1]; exact ⟨_, rfl, rfl⟩
    rw [if_neg c1, if_neg c1]
    by_cases c2 : w = 2
    · rw [if_pos c2, if_pos c2]; exact ⟨_, rfl, rfl⟩
    rw [if_neg c2, if_neg c2]
    by_cases c3 : w = 3
    · rw [if_pos c3, if_pos c3]; exact ⟨_, rfl, rfl⟩
    rw [if_neg c3, if_neg c3]
    by_cases c4 : w = 4
    · rw [if_pos c4, if_pos c4]; exact ⟨_, rfl, rfl⟩
    rw [if_neg c4, if_neg c4]
    by_cases c5 : w = 5
    · rw [if_pos c5, if_pos c5]; exact ⟨_, rfl, rfl⟩
    rw [if_neg c5, if_neg c5]
    by_cases c6 : w = 6
    · rw [if_pos c6, if_pos c6]; exact ⟨_, rfl, rfl⟩
    rw [if_neg c6, if_neg c6]
    have c7 : w = 7 := by omega
    rw [if_pos c7, if_pos c7]
    refine ⟨_, rfl, ?_⟩
    rw [w32_in (by omega) (by omega)]
  · intro hn
    rw [f_R_dead_eq, R_isDead hA hW.1, Option.bind_some]
    by_cases c : 0 ≤ a ∧ a < s.1 251 2
    · have cw : ¬ (0 ≤ w ∧ w ≤ 7) := fun h => hn ⟨c, h⟩
      simp only [if_pos c, n1, if_false]
      rw [if_neg (by omega), if_neg (by omega), if_neg (by omega), if_neg (by omega), if_neg (by omega), if_neg (by omega), if_neg (by omega), if_neg (by omega), f_R_refuse_eq]; rfl
    · simp only [if_neg c, if_true]; rw [f_R_refuse_eq]; rfl
theorem R_gcd (m : Nat) (s : mS) : ∀ (y n x : Nat), y < n → l_R_common_L4 m n (x : Int) (y : Int) s = some (((Nat.gcd x y : Nat) : Int), s) := by
  intro y
  induction y using Nat.strongRecOn with
  | _ y ih =>
    intro n x hn
    obtain ⟨n, rfl⟩ : ∃ n', n = n' + 1 := ⟨n - 1, by omega⟩
    rw [l_R_common_L4_eq]
    by_cases c : y = 0
    · subst c; rw [show ((0 : Nat) : Int) = 0 from rfl, if_pos rfl, Nat.gcd_zero_right]
    · have c' : ¬ (y : Int) = 0 := by omega
      have e : Int.tmod (x : Int) (y : Int) = ((x % y : Nat) : Int) := rfl
      have hl : x % y < y := Nat.mod_lt _ (by omega)
      rw [if_neg c', if_neg c', e, ih (x % y) hl n y (by omega)]
      rw [Nat.gcd_comm x y, Nat.gcd_rec y x, Nat.gcd_comm]
theorem C_gcd (m : Nat) (s : mS) (a b w : Int) : ∀ (k n x y : Nat) (i : Nat), y < 2 ^ k → i + 2 * k < 62 → 2 * k < n → (Nat.gcd x y) ≠ 0 →
    l_X_inLeastTerms_L8 m n a b w (x : Int) (y : Int) (i : Int) s = some (if w = 0 then w32 (Int.tdiv a ((Nat.gcd x y : Nat) : Int)) else w32 (Int.tdiv b ((Nat.gcd x y : Nat) : Int)), s) := by
  have fin : ∀ (n x i : Nat), i < 64 → x ≠ 0 → l_X_inLeastTerms_L8 m (n + 1) a b w (x : Int) 0 (i : Int) s = some (if w = 0 then w32 (Int.tdiv a (x : Int)) else w32 (Int.tdiv b (x : Int)), s) := by
    intro n x i hi hx
    have hx' : ¬ (x : Int) = 0 := by omega
    rw [l_X_inLeastTerms_L8_eq, if_pos (by omega), if_pos rfl, if_neg hx', if_neg hx', if_neg hx']
    by_cases c : w = 0
    · rw [if_pos c, if_pos c]
    · rw [if_neg c, if_neg c]
  have stp : ∀ (n x y i : Nat), i < 64 → y ≠ 0 → l_X_inLeastTerms_L8 m (n + 1) a b w (x : Int) (y : Int) (i : Int) s = l_X_inLeastTerms_L8 m n a b w (y : Int) ((x % y : Nat) : Int) ((i + 1 : Nat) : Int) s := by
    intro n x y i hi hy
    have hy' : ¬ (y : Int) = 0 := by omega
    rw [l_X_inLeastTerms_L8_eq, if_pos (by omega), if_neg hy', if_neg hy', s1w i (by omega)]; rfl
  intro k
  induction k with
  | zero =>
    intro n x y i hy hi hn hg
    have y0 : y = 0 := by omega
    subst y0
    obtain ⟨n, rfl⟩ : ∃ n', n = n' + 1 := ⟨n - 1, by omega⟩
    rw [Nat.gcd_zero_right] at hg ⊢
    exact fin n x i (by omega) hg
  | succ k ih =>
    intro n x y i hy hi hn hg
    obtain ⟨n, rfl⟩ : ∃ n', n = n' + 1 := ⟨n - 1, by omega⟩
    by_cases c : y = 0
    · subst c
      rw [Nat.gcd_zero_right] at hg ⊢
      exact fin n x i (by omega) hg
    · rw [stp n x y i (by omega) c]
      have g1 : Nat.gcd x y = Nat.gcd y (x % y) := by rw [Nat.gcd_comm x y, Nat.gcd_rec y x, Nat.gcd_comm]
      have hr : x % y < y := Nat.mod_lt _ (by omega)
      obtain ⟨n, rfl⟩ : ∃ n', n = n' + 1 := ⟨n - 1, by omega⟩
      by_cases c2 : x % y = 0
      · rw [g1, c2, Nat.gcd_zero_right]
        exact fin n y (i + 1) (by omega) c
      · rw [stp n y (x % y) (i + 1) (by omega) c2]
        have g2 : Nat.gcd y (x % y) = Nat.gcd (x % y) (y % (x % y)) := by rw [Nat.gcd_comm y (x % y), Nat.gcd_rec (x % y) y, Nat.gcd_comm]
        have hh : y % (x % y) < 2 ^ k := by
          have h2 : 2 ^ (k + 1) = 2 * 2 ^ k := by rw [Nat.pow_succ]; omega
          generalize x % y = r at hr c2
          by_cases cr : 2 * r ≤ y
          · have := Nat.mod_lt y (show r > 0 from by omega); omega
          · have e : y % r = y - r := by rw [Nat.mod_eq_sub_mod (by omega), Nat.mod_eq_of_lt (by omega)]
            omega
        rw [g1, g2]
        rw [g1, g2] at hg
        exact ih n (x % y) (y % (x % y)) (i + 1 + 1) hh (by omega) (by omega) hg
theorem C_least {s : mS} {m : Nat} (hm : 1000 ≤ m) {a b : Nat} (ha : a < 8192) (hb : 0 < b) (w : Int) : f_X_inLeastTerms m (a : Int) (b : Int) w s = some (if w = 0 then w32 (Int.tdiv (a : Int) ((Nat.gcd b a : Nat) : Int)) else w32 (Int.tdiv (b : Int) ((Nat.gcd b a : Nat) : Int)), s) := by
  have hg : Nat.gcd b a ≠ 0 := by have := Nat.gcd_pos_of_pos_left a hb; omega
  have q := C_gcd m s (a : Int) (b : Int) w 13 m b a 0 (by omega) (by omega) (by omega) hg
  rw [show ((0 : Nat) : Int) = 0 from rfl] at q
  rw [f_X_inLeastTerms_eq]; exact q
theorem R_frac {s : mS} {m : Nat} {a b : Nat} (hb : 0 < b) (hbm : b < m) (w : Int) : f_R_fraction m (a : Int) (b : Int) w s = some (if w = 0 then w32 (Int.tdiv (a : Int) ((Nat.gcd b a : Nat) : Int)) else w32 (Int.tdiv (b : Int) ((Nat.gcd b a : Nat) : Int)), s) := by
  have hg : ¬ ((Nat.gcd a b : Nat) : Int) = 0 := by have := Nat.gcd_pos_of_pos_right a hb; omega
  rw [f_R_fraction_eq, f_R_common_eq, R_gcd m s b m a hbm, Option.bind_some]
  simp only [if_neg hg]
  rw [Option.bind_some, Nat.gcd_comm b a]
  simp only [if_neg hg]
  by_cases c : w = 0
  · rw [if_pos c, if_pos c]
  · rw [if_neg c, if_neg c]
theorem S_wear {m : Nat} (hm : 1000 ≤ m) (a w : Int) : SimT (f_X_wear m a w) (f_R_wear m a w) (fun s => (0 ≤ a ∧ a < s.1 251 0) ∧ 0 ≤ w ∧ w ≤ 1) := by
  intro s hs
  obtain ⟨⟨hW, hr, hS, -, -⟩, -⟩ := hs
  have hA : (wI s 249 0 0).1 251 = s.1 251 := th_ne s 0 (by decide)
  have w0 := WFv_boxes hW.1
  have n1 : ¬ (1 : Int) = 0 := by decide
  constructor
  · rintro ⟨c, cw⟩
    obtain ⟨b, rfl⟩ : ∃ d : Nat, a = (d : Int) := ⟨a.toNat, by omega⟩
    have hb : (b : Int) < s.1 251 0 := c.2
    have ho := WFv_box hW.1 hb
    have hp := WFs_box hW.2.1 hb
    obtain ⟨p, hp1⟩ : ∃ p : Nat, s.1 251 (86 + b) = (p : Int) := ⟨(s.1 251 (86 + b)).toNat, by omega⟩
    obtain ⟨q, hq1⟩ : ∃ p : Nat, s.1 251 (15 + b) = (p : Int) := ⟨(s.1 251 (15 + b)).toNat, by omega⟩
    rw [f_X_wear_eq, f_R_wear_eq, C_isBox hr, R_isBox hA hW.1, Option.bind_some, Option.bind_some]
    simp only [if_pos c, n1, if_false]
    rw [R_isIn, Option.bind_some, if_neg (by omega), if_neg (by omega)]
    simp only [if_pos cw, n1, if_false]
    rw [hA, inR_pos (by omega) (by omega), inR_pos (by omega) (by omega), ix86 (by omega), ix15 (by omega), ix86n (by omega), ix15n (by omega), Int.toNat_natCast, SR17_lent hS hb, VR4_blast hr hb, hp1, hq1, C_least hm (by omega) (by omega), R_frac (by omega) (by omega)]
    exact ⟨_, rfl, rfl⟩
  · intro hn
    rw [f_R_wear_eq, R_isBox hA hW.1, Option.bind_some]
    by_cases c : 0 ≤ a ∧ a < s.1 251 0
    · have cw : ¬ (0 ≤ w ∧ w ≤ 1) := fun h => hn ⟨c, h⟩
      simp only [if_pos c, n1, if_false]
      rw [R_isIn, Option.bind_some]
      simp only [if_neg cw, if_true]
      rw [f_R_refuse_eq]; rfl
    · simp only [if_neg c, if_true]; rw [f_R_refuse_eq]; rfl
def sm (A : Row) : Nat → Nat
  | 0 => 0
  | i + 1 => sm A i + (A (200 + i)).toNat
theorem sm_s (A : Row) (i : Nat) : sm A (i + 1) = sm A i + (A (200 + i)).toNat := rfl
theorem sm_le {A : Row} (h : WF A) : ∀ i : Nat, (i : Int) ≤ A 2 → sm A i ≤ 400 * i
  | 0, _ => Nat.le_refl 0
  | i + 1, hi => by
    have := sm_le h i (by omega)
    have q := WFs_dead h.2.1 (d := i) (by omega)
    have := WFs_day h.2.1
    rw [sm_s]; omega
theorem C_sumL {s : mS} {A : Row} (hs : SR s 17 A) (hr : VR s 4 A) (h : WF A) (m : Nat) (w : Int) : ∀ (k n i : Nat), i + k = (A 2).toNat → k < n →
    l_X_mean_L37 m n w ((sm A i : Nat) : Int) (i : Int) s = ((f_X_inLeastTerms m ((sm A (A 2).toNat : Nat) : Int) (A 2) w s).bind fun p0 => (some (p0.1, p0.2))) := by
  have w2 := WFv_dead h.1
  have hdy := WFs_day h.2.1
  intro k
  induction k with
  | zero =>
    intro n i hi hkn
    obtain ⟨n, rfl⟩ : ∃ n', n = n' + 1 := ⟨n - 1, by omega⟩
    rw [l_X_mean_L37_eq, VR4_dead hr, if_neg (by omega), show i = (A 2).toNat from by omega]
  | succ k ih =>
    intro n i hi hkn
    obtain ⟨n, rfl⟩ : ∃ n', n = n' + 1 := ⟨n - 1, by omega⟩
    have hd : (i : Int) < A 2 := by omega
    have ih1 := ih n (i + 1) (by omega) (by omega)
    have q := WFs_dead h.2.1 hd
    have l := sm_le h i (by omega)
    have e : w32 (((sm A i : Nat) : Int) + A (200 + i)) = ((sm A (i + 1) : Nat) : Int) := by rw [w32_in (by omega) (by omega), sm_s]; omega
    rw [l_X_mean_L37_eq, VR4_dead hr, if_pos hd, inR_pos (by omega) (by omega), Int.toNat_natCast, SR17_wait hs hd, e, s1w i (by omega)]
    exact ih1
theorem R_sumL {s : mS} {A : Row} (hA : s.1 251 = A) (h : WF A) (m : Nat) (w : Int) : ∀ (k n i : Nat), i + k = (A 2).toNat → k < n →
    l_R_mean_L35 m n w (A 2) ((sm A i : Nat) : Int) (i : Int) s = ((f_R_fraction m ((sm A (A 2).toNat : Nat) : Int) (A 2) w s).bind fun p0 => (some (p0.1, p0.2))) := by
  have w2 := WFv_dead h.1
  have hdy := WFs_day h.2.1
  intro k
  induction k with
  | zero =>
    intro n i hi hkn
    obtain ⟨n, rfl⟩ : ∃ n', n = n' + 1 := ⟨n - 1, by omega⟩
    rw [l_R_mean_L35_eq, if_neg (by omega), show i = (A 2).toNat from by omega]
  | succ k ih =>
    intro n i hi hkn
    obtain ⟨n, rfl⟩ : ∃ n', n = n' + 1 := ⟨n - 1, by omega⟩
    have hd : (i : Int) < A 2 := by omega
    have ih1 := ih n (i + 1) (by omega) (by omega)
    have q := WFs_dead h.2.1 hd
    have l := sm_le h i (by omega)
    have e : w32 (((sm A i : Nat) : Int) + A (200 + i)) = ((sm A (i + 1) : Nat) : Int) := by rw [w32_in (by omega) (by omega), sm_s]; omega
    rw [l_R_mean_L35_eq, hA, if_pos hd, ix200 (by omega), ix200n (by omega), e, s1w i (by omega)]
    exact ih1
theorem S_mean {m : Nat} (hm : 1000 ≤ m) (w : Int) : SimT (f_X_mean m w) (f_R_mean m w) (fun s => s.1 251 2 ≠ 0 ∧ 0 ≤ w ∧ w ≤ 1) := by
  intro s hs
  obtain ⟨⟨hW, hr, hS, -, -⟩, -⟩ := hs
  have hA : (wI s 249 0 0).1 251 = s.1 251 := th_ne s 0 (by decide)
  have w2 := WFv_dead hW.1
  have n1 : ¬ (1 : Int) = 0 := by decide
  constructor
  · rintro ⟨c, cw⟩
    have q1 := C_sumL hS hr hW m w (s.1 251 2).toNat m 0 (by omega) (by omega)
    have q2 := R_sumL hA hW m w (s.1 251 2).toNat m 0 (by omega) (by omega)
    rw [show ((sm (s.1 251) 0 : Nat) : Int) = 0 from rfl, show ((0 : Nat) : Int) = 0 from rfl] at q1 q2
    have l := sm_le hW (s.1 251 2).toNat (by omega)
    obtain ⟨b, hb⟩ : ∃ p : Nat, s.1 251 2 = (p : Int) := ⟨(s.1 251 2).toNat, by omega⟩
    have e2 : (s.1 251 2).toNat = b := by omega
    rw [e2] at q1 q2 l
    rw [f_X_mean_eq, f_R_mean_eq, VR4_dead hr, hA, if_neg c, if_neg c, if_neg (by omega), if_neg (by omega), R_isIn, Option.bind_some]
    simp only [if_pos cw, n1, if_false]
    rw [q1, q2, hb, C_least hm (by omega) (by omega), R_frac (by omega) (by omega)]
    exact ⟨_, rfl, rfl⟩
  · intro hn
    rw [f_R_mean_eq, hA]
    by_cases c : s.1 251 2 = 0
    · rw [if_pos c, f_R_refuse_eq]; rfl
    · have cw : ¬ (0 ≤ w ∧ w ≤ 1) := fun h => hn ⟨c, h⟩
      rw [if_neg c, R_isIn, Option.bind_some]
      simp only [if_neg cw, if_true]
      rw [f_R_refuse_eq]; rfl
