/-! ===== layer 3: odds ===== -/
def od (A : Row) (d K : Nat) (x : Int) : Nat → Int
  | 0 => 0
  | i + 1 => od A d K x i + if (drawsA K (A, w32 (x + (i : Int)))).1 (164 + d) = 3 then 1 else 0
theorem od_s (A : Row) (d K : Nat) (x : Int) (i : Nat) : od A d K x (i + 1) = od A d K x i + if (drawsA K (A, w32 (x + (i : Int)))).1 (164 + d) = 3 then 1 else 0 := rfl
theorem od_in (A : Row) (d K : Nat) (x : Int) : ∀ i : Nat, 0 ≤ od A d K x i ∧ od A d K x i ≤ i
  | 0 => ⟨by simp [od], by simp [od]⟩
  | i + 1 => by
    have := od_in A d K x i
    rw [od_s]; split <;> omega
theorem C_oddsL {A : Row} (h : WF A) {m : Nat} (hm : 10000 ≤ m) {d : Nat} (hd : (d : Int) < A 2) (N x : Int) (hN : N ≤ 100) : ∀ (k n i : Nat) (s : mS), SR s 17 A → VR s 4 A → (i : Int) + k = N → k < n →
    wp (l_X_odds_L27 m n (d : Int) N x (od A d (min 20 (400 - A 85)).toNat x i) (i : Int) s) (fun r s' => r = od A d (min 20 (400 - A 85)).toNat x (i + k) ∧ (∀ c, ¬ (206 ≤ c ∧ c < 219) → c ≠ 245 → s'.1 c = s.1 c) ∧ s'.2 = s.2) := by
  have w2 := WFv_dead h.1
  have hdy := WFs_day h.2.1
  intro k
  induction k with
  | zero =>
    intro n i s hs hr hi hkn
    obtain ⟨n, rfl⟩ : ∃ n', n = n' + 1 := ⟨n - 1, by omega⟩
    rw [l_X_odds_L27_eq, if_neg (by omega), wp_some]
    exact ⟨rfl, fun _ _ _ => rfl, rfl⟩
  | succ k ih =>
    intro n i s hs hr hi hkn
    obtain ⟨n, rfl⟩ : ∃ n', n = n' + 1 := ⟨n - 1, by omega⟩
    have e1 : w32 ((i : Int) + 1) = ((i + 1 : Nat) : Int) := by rw [w32_in (by omega) (by omega)]; rfl
    have oi := od_in A d (min 20 (400 - A 85)).toNat x i
    obtain ⟨sa, a1, a2, a3, a4, a5⟩ := C_trial hs hr h.1 m
    obtain ⟨r, sb, b1, b2, b3, b4, b5⟩ := C_draws_206 a2 a4 h hm (n := 20) (by omega) (by omega) (w32 (x + (i : Int)))
    obtain ⟨g1, g2, g3⟩ := WF_draws (min 20 (400 - A 85)).toNat A (w32 (x + (i : Int))) h (by omega)
    have hd2 : (d : Int) < (drawsA (min 20 (400 - A 85)).toNat (A, w32 (x + (i : Int)))).1 2 := by rw [g3 2 (by omega)]; exact hd
    have hh := SR206_how b3 hd2
    rw [l_X_odds_L27_eq, if_pos (by omega), a1, Option.bind_some, b1, Option.bind_some, inR_pos (by omega) (by omega), Int.toNat_natCast, hh, e1]
    have hsb : SR sb 17 A := SR_keep a3 (fun c _ _ => b4 c (by omega) (by omega))
    have hrb : VR sb 4 A := VR_keep a4 (fun c _ _ => b4 c (by omega) (by omega))
    have fin : wp (l_X_odds_L27 m n (d : Int) N x (od A d (min 20 (400 - A 85)).toNat x (i + 1)) ((i + 1 : Nat) : Int) sb) (fun r s' => r = od A d (min 20 (400 - A 85)).toNat x (i + (k + 1)) ∧ (∀ c, ¬ (206 ≤ c ∧ c < 219) → c ≠ 245 → s'.1 c = s.1 c) ∧ s'.2 = s.2) := by
      refine wp_mono (ih n (i + 1) sb hsb hrb (by omega) (by omega)) ?_
      intro r s' ⟨q1, q2, q3⟩
      refine ⟨by rw [q1, show i + 1 + k = i + (k + 1) from by omega], fun c x y => by rw [q2 c x y, b4 c (by omega) y, a5.1 c (by omega)], by rw [q3, b5, a5.2]⟩
    by_cases c3 : (drawsA (min 20 (400 - A 85)).toNat (A, w32 (x + (i : Int)))).1 (164 + d) = 3
    · have eo : od A d (min 20 (400 - A 85)).toNat x (i + 1) = od A d (min 20 (400 - A 85)).toNat x i + 1 := by rw [od_s, if_pos c3]
      rw [if_pos c3, w32_in (by omega) (by omega), ← eo]; exact fin
    · have eo : od A d (min 20 (400 - A 85)).toNat x (i + 1) = od A d (min 20 (400 - A 85)).toNat x i := by rw [od_s, if_neg c3, Int.add_zero]
      rw [if_neg c3, ← eo]; exact fin
theorem R_oddsL {u : mS} {A : Row} (hA : u.1 251 = A) (hT : ∀ k, k < 139 → u.1 256 k = A (85 + k)) (h : WF A) {m : Nat} (hm : 10000 ≤ m) {d : Nat} (hd : (d : Int) < A 2) (N x : Int) (hN : N ≤ 100) {K : Nat} (hK : (min 20 (400 - A 85)).toNat = K) : ∀ (k n i : Nat) (y : Int), (i : Int) + k = N → k < n →
    ∃ y', l_R_odds_L40 m n (d : Int) N x (od A d K x i) (i : Int) (sd u y) = some (od A d K x (i + k), sd u y') := by
  have w2 := WFv_dead h.1
  have hdy := WFs_day h.2.1
  intro k
  induction k with
  | zero =>
    intro n i y hi hkn
    obtain ⟨n, rfl⟩ : ∃ n', n = n' + 1 := ⟨n - 1, by omega⟩
    rw [l_R_odds_L40_eq, if_neg (by omega)]
    exact ⟨y, rfl⟩
  | succ k ih =>
    intro n i y hi hkn
    obtain ⟨n, rfl⟩ : ∃ n', n = n' + 1 := ⟨n - 1, by omega⟩
    have ek : i + 1 + k = i + (k + 1) := by omega
    have j1 : (0 : Int) ≤ ((164 + d : Nat) : Int) := by omega
    have j2 : ((164 + d : Nat) : Int) < ((466 : Nat) : Int) := by omega
    have j3 : (i : Int) < N := by omega
    have j4 : ((i + 1 : Nat) : Int) + (k : Int) = N := by omega
    have j5 : k < n := by omega
    obtain ⟨-, -, g3⟩ := WF_draws K A (w32 (x + (i : Int))) h (by omega)
    have q := R_draws (s := sd u y) (A := A) (by rw [sd_ne _ _ (by decide)]; exact hA) h hm (n := 20) (by omega) (by omega) (w32 (x + (i : Int)))
    rw [sd_sd, hK] at q
    rw [l_R_odds_L40_eq, if_pos j3, q]
    generalize hp : drawsA K (A, w32 (x + (i : Int))) = p at g3 ⊢
    clear q
    have back := R_back_256 (sr (sd u p.2) 251 p.1) (m := m) (by omega) (o := 0) (by omega)
    have b1 : (sr (sd u p.2) 251 p.1).1 251 = p.1 := sr_eq _ _ _
    have b2 : (sr (sd u p.2) 251 p.1).1 256 = u.1 256 := by rw [sr_ne _ _ _ (by decide), sd_ne _ _ (by decide)]
    rw [b1, b2, sr_sr] at back
    have er : ∀ q, rowPut p.1 85 (u.1 256) 0 139 q = (sd u p.2).1 251 q := by
      intro q
      rw [sd_ne _ _ (by decide), hA]
      unfold rowPut
      by_cases c : 85 ≤ q ∧ q < 85 + 139
      · rw [if_pos c, hT _ (by omega), show 85 + (0 + (q - 85)) = q from by omega]
      · rw [if_neg c, g3 q (by omega)]
    have er2 : sr (sd u p.2) 251 (rowPut p.1 85 (u.1 256) 0 139) = sd u p.2 := (sr_ext er).trans (sr_self _ _)
    rw [er2, show ((0 : Nat) : Int) = 0 from rfl] at back
    have e4 : w32 (164 + (d : Int)) = ((164 + d : Nat) : Int) := by rw [w32_in (by omega) (by omega)]; omega
    have e1 : w32 ((i : Int) + 1) = ((i + 1 : Nat) : Int) := by clear e4; rw [w32_in (by omega) (by omega)]; rfl
    rw [Option.bind_some, e4, inR_pos j1 j2, Int.toNat_natCast]
    simp only [b1]
    rw [back, Option.bind_some, e1]
    obtain ⟨y', fin⟩ := ih n (i + 1) p.2 j4 j5
    rw [ek] at fin
    refine ⟨y', ?_⟩
    clear e1 e4 er er2 hdy hK
    have j6 : w32 (od A d K x i + 1) = od A d K x i + 1 := by have := od_in A d K x i; exact w32_in (by omega) (by omega)
    have eos := od_s A d K x i
    rw [hp] at eos
    by_cases c3 : p.1 (164 + d) = 3
    · rw [if_pos c3] at eos ⊢
      rw [j6, ← eos]; exact fin
    · rw [if_neg c3] at eos ⊢
      rw [Int.add_zero] at eos
      rw [← eos]; exact fin
theorem S_odds {m : Nat} (hm : 10000 ≤ m) (a N x : Int) : Sim (f_X_odds m a N x) (f_R_odds m a N x) := by
  intro s h
  obtain ⟨⟨hW, hr, hS, -, -⟩, -⟩ := id h
  have w2 := WFv_dead hW.1
  have n1 : ¬ (1 : Int) = 0 := by decide
  have hth : ∀ u : mS, u.1 251 = s.1 251 → (wI u 249 0 0).1 251 = s.1 251 := fun u hu => by rw [th_ne u 0 (by decide), hu]
  by_cases cg : (0 ≤ a ∧ a < s.1 251 2) ∧ 1 ≤ N ∧ N ≤ 30
  · obtain ⟨d, rfl⟩ : ∃ d : Nat, a = (d : Int) := ⟨a.toNat, by omega⟩
    have hd : (d : Int) < s.1 251 2 := cg.1.2
    obtain ⟨k, rfl⟩ : ∃ k : Nat, N = (k : Int) := ⟨N.toNat, by omega⟩
    obtain ⟨r, s1, a1, a2, a3, a4⟩ := C_oddsL hW hm hd (k : Int) x (by omega) k m 0 s hS hr (by omega) (by omega)
    rw [show ((0 : Nat) : Int) = 0 from rfl] at a1
    have e51 : s1.1 251 = s.1 251 := a3 251 (by omega) (by omega)
    have sv := R_save_256 (wI s1 249 0 0) (m := m) (by omega) (o := 0) (by omega)
    rw [hth s1 e51, show ((0 : Nat) : Int) = 0 from rfl] at sv
    generalize hu : sr (wI s1 249 0 0) 256 (rowPut ((wI s1 249 0 0).1 256) 0 (s.1 251) 85 139) = u at sv
    have uA : u.1 251 = s.1 251 := by rw [← hu, sr_ne _ _ _ (by decide)]; exact hth s1 e51
    have uT : ∀ q, q < 139 → u.1 256 q = s.1 251 (85 + q) := by intro q hq; rw [← hu, sr_eq]; unfold rowPut; rw [if_pos (by omega), Nat.sub_zero]
    have us : sd u (u.1 249 36) = u := by
      unfold sd
      have : ∀ q, up (u.1 249) 36 (u.1 249 36) q = u.1 249 q := by
        intro q; rw [up_at]
        by_cases hq : q = 36
        · rw [if_pos hq, hq]
        · rw [if_neg hq]
      rw [sr_ext this, sr_self]
    obtain ⟨y', b1⟩ := R_oddsL uA uT hW hm hd (k : Int) x (by omega) rfl k m 0 (u.1 249 36) (by omega) (by omega)
    rw [us, show ((0 : Nat) : Int) = 0 from rfl] at b1
    refine ⟨r, s1, sd u y', ?_, ?_, ?_⟩
    · rw [f_X_odds_eq, C_isDead hr, Option.bind_some]
      simp only [if_pos cg.1, n1, if_false]
      rw [if_neg (by omega), if_neg (by omega)]; exact a1
    · rw [f_R_odds_eq, R_isDead (hth s1 e51) hW.1, Option.bind_some]
      simp only [if_pos cg.1, n1, if_false]
      rw [R_isIn, Option.bind_some]
      simp only [if_pos cg.2, n1, if_false]
      rw [sv, Option.bind_some, a2]
      exact b1
    · refine Inv_ref h (fun c x y z => ?_) ?_ (fun c x y z w => ?_) (fun j x y => ?_)
      · rw [sd_ne _ _ (by omega), ← hu, sr_ne _ _ _ (by omega), th_ne _ _ (by omega), a3 c y z]
      · show u.2 = s.2
        rw [← hu]; exact a4
      · rw [sd_ne _ _ (by omega), ← hu, sr_ne _ _ _ w, th_ne _ _ (by omega), a3 c (by omega) (by omega)]
      · rw [sd_f _ _ y, ← hu, sr_ne _ _ _ (by decide), th_f _ _ x, a3 249 (by omega) (by omega)]
  · refine ⟨-1, s, wI s 249 0 0, ?_, ?_, Inv_thrown h 0⟩
    · rw [f_X_odds_eq, C_isDead hr, Option.bind_some]
      by_cases c1 : 0 ≤ a ∧ a < s.1 251 2
      · simp only [if_pos c1, n1, if_false]
        by_cases c2 : N < 1
        · rw [if_pos c2]
        · rw [if_neg c2, if_pos (by omega)]
      · simp only [if_neg c1, if_true]
    · rw [f_R_odds_eq, R_isDead (hth s rfl) hW.1, Option.bind_some]
      by_cases c1 : 0 ≤ a ∧ a < s.1 251 2
      · simp only [if_pos c1, n1, if_false]
        rw [R_isIn, Option.bind_some]
        rw [if_neg (by omega : ¬ (1 ≤ N ∧ N ≤ 30))]; rfl
      · simp only [if_neg c1, if_true]
