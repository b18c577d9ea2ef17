/-! ===== layer 3: longest, soon ===== -/
theorem ff_y {p : Nat → Bool} {i k : Nat} (h : p i = true) : ff p i (k + 1) = (i : Int) := by rw [ff, if_pos h]
theorem ff_n {p : Nat → Bool} {i k : Nat} (h : p i = false) : ff p i (k + 1) = ff p (i + 1) k := by rw [ff, h]; rfl
def lgv (A : Row) (b : Int) : Int := if b = -1 then 0 else A (200 + b.toNat)
def lg (A : Row) : Nat → Int
  | 0 => -1
  | i + 1 => if lgv A (lg A i) < A (200 + i) then (i : Int) else lg A i
theorem lg_s (A : Row) (i : Nat) : lg A (i + 1) = if lgv A (lg A i) < A (200 + i) then (i : Int) else lg A i := rfl
theorem lg_in (A : Row) : ∀ i : Nat, -1 ≤ lg A i ∧ lg A i < i
  | 0 => ⟨by simp [lg], by simp [lg]⟩
  | i + 1 => by rw [lg_s]; have := lg_in A i; split <;> omega
theorem C_longL {s : mS} {A : Row} (hs : SR s 17 A) (hr : VR s 4 A) (h : WF A) (m : Nat) : ∀ (k n i : Nat), i + k = (A 2).toNat → k < n →
    l_X_longest_L6 m n (lgv A (lg A i)) (lg A i) (i : Int) s = some (lg A (A 2).toNat, s) := by
  have w2 := WFv_dead h.1
  intro k
  induction k with
  | zero =>
    intro n i hi hkn
    obtain ⟨n, rfl⟩ : ∃ n', n = n' + 1 := ⟨n - 1, by omega⟩
    rw [l_X_longest_L6_eq, VR4_dead hr, if_neg (by omega), show i = (A 2).toNat from by omega]
  | succ k ih =>
    intro n i hi hkn
    obtain ⟨n, rfl⟩ : ∃ n', n = n' + 1 := ⟨n - 1, by omega⟩
    have hd : (i : Int) < A 2 := by omega
    have ih1 := ih n (i + 1) (by omega) (by omega)
    have hi1 : ¬ (i : Int) = -1 := by omega
    rw [l_X_longest_L6_eq, VR4_dead hr, if_pos hd, inR_pos (by omega) (by omega), inR_pos (by omega) (by omega), Int.toNat_natCast, SR17_wait hs hd, s1w i (by omega)]
    rw [lg_s] at ih1
    by_cases c : lgv A (lg A i) < A (200 + i)
    · rw [if_pos c] at ih1 ⊢
      have e : lgv A (i : Int) = A (200 + i) := by unfold lgv; rw [if_neg hi1, Int.toNat_natCast]
      rw [e] at ih1; exact ih1
    · rw [if_neg c] at ih1 ⊢; exact ih1
theorem R_longL {s : mS} {A : Row} (hA : s.1 251 = A) (h : WF A) (m : Nat) : ∀ (k n i : Nat), i + k = (A 2).toNat → k < n →
    l_R_longest_L9 m n (lg A i) (i : Int) s = some (lg A (A 2).toNat, s) := by
  have w2 := WFv_dead h.1
  intro k
  induction k with
  | zero =>
    intro n i hi hkn
    obtain ⟨n, rfl⟩ : ∃ n', n = n' + 1 := ⟨n - 1, by omega⟩
    rw [l_R_longest_L9_eq, hA, if_neg (by omega), show i = (A 2).toNat from by omega]
  | succ k ih =>
    intro n i hi hkn
    obtain ⟨n, rfl⟩ : ∃ n', n = n' + 1 := ⟨n - 1, by omega⟩
    have hd : (i : Int) < A 2 := by omega
    have ih1 := ih n (i + 1) (by omega) (by omega)
    have li := lg_in A i
    rw [l_R_longest_L9_eq, hA, if_pos hd, ix200 (by omega), ix200n (by omega), s1w i (by omega)]
    rw [lg_s] at ih1
    by_cases c0 : lg A i = -1
    · have e : lgv A (lg A i) = 0 := by unfold lgv; rw [if_pos c0]
      rw [e] at ih1
      rw [if_pos c0]
      by_cases c : 0 < A (200 + i)
      · rw [if_pos c] at ih1 ⊢; exact ih1
      · rw [if_neg c] at ih1 ⊢; exact ih1
    · rw [if_neg c0]
      obtain ⟨j, hj⟩ : ∃ j : Nat, lg A i = (j : Int) := ⟨(lg A i).toNat, by omega⟩
      have e : lgv A (lg A i) = A (200 + j) := by unfold lgv; rw [if_neg c0, hj, Int.toNat_natCast]
      rw [e] at ih1
      rw [hj] at ih1 li ⊢
      rw [ix200 (by omega), ix200n (by omega)]
      by_cases c : A (200 + j) < A (200 + i)
      · rw [if_pos c] at ih1 ⊢; exact ih1
      · rw [if_neg c] at ih1 ⊢; exact ih1
theorem S_longest {m : Nat} (hm : 1000 ≤ m) : Sim (f_X_longest m) (f_R_longest m) := by
  refine Sim_e (fun s hs => ?_)
  obtain ⟨⟨hW, hr, hS, -, -⟩, -⟩ := hs
  have hA : (wI s 249 0 0).1 251 = s.1 251 := th_ne s 0 (by decide)
  have w2 := WFv_dead hW.1
  have q1 := C_longL hS hr hW m (s.1 251 2).toNat m 0 (by omega) (by omega)
  have q2 := R_longL hA hW m (s.1 251 2).toNat m 0 (by omega) (by omega)
  rw [show lgv (s.1 251) (lg (s.1 251) 0) = 0 from rfl, show lg (s.1 251) 0 = -1 from rfl, show ((0 : Nat) : Int) = 0 from rfl] at q1
  rw [show lg (s.1 251) 0 = -1 from rfl, show ((0 : Nat) : Int) = 0 from rfl] at q2
  rw [f_X_longest_eq, f_R_longest_eq, q1, q2]
  exact ⟨_, rfl, rfl⟩
/-- the least plot in which one could be laid n days on -/
def plP (A : Row) (d : Nat) (n : Int) (p : Nat) : Bool := decide (A (149 + p) ≤ n) && !(byKin A d p)
def plA (A : Row) (d : Nat) (n : Int) : Int := if frostA A (A 85 + n) = -1 then ff (plP A d n) 0 (A 1).toNat else -1
theorem C_plL {s : mS} {A : Row} (hs : SR s 17 A) (hr : VR s 4 A) (h : WF A) (m : Nat) {d : Nat} (hd : (d : Int) < A 2) {x : Int} (h0 : 0 ≤ x) (h1 : x ≤ 300) : ∀ (k n i : Nat), i + k = (A 1).toNat → k < n →
    l_X_plotBehind_L32 m n (d : Int) (A 85 + x) (i : Int) s = some (ff (plP A d x) i k, s) := by
  have w1 := WFv_plots h.1
  have w2 := WFv_dead h.1
  have hdy := WFs_day h.2.1
  intro k
  induction k with
  | zero =>
    intro n i hi hkn
    obtain ⟨n, rfl⟩ : ∃ n', n = n' + 1 := ⟨n - 1, by omega⟩
    rw [l_X_plotBehind_L32_eq, VR4_plots hr, if_neg (by omega)]; rfl
  | succ k ih =>
    intro n i hi hkn
    obtain ⟨n, rfl⟩ : ∃ n', n = n' + 1 := ⟨n - 1, by omega⟩
    have hp : (i : Int) < A 1 := by omega
    have ih1 := ih n (i + 1) (by omega) (by omega)
    obtain ⟨g1, g2, g3⟩ := SR17_rest hs hp
    have hx := WFs_plot h.2.1 hp
    have hby : (decide (A (154 + i) ≠ -1) && (A (53 + d)).toNat.testBit (A (154 + i)).toNat) = byKin A d i := rfl
    rw [l_X_plotBehind_L32_eq, VR4_plots hr, if_pos hp, inR_pos (by omega) (by omega), inR_pos (by omega) (by omega), Int.toNat_natCast, SR17_latest hs hp, C_kin hr h.1 hd hx.1 (by omega), Option.bind_some, hby, s1w i (by omega)]
    have n1 : ¬ (1 : Int) = 0 := by decide
    by_cases c : A 85 + x < s.1 23 i
    · have hq : plP A d x i = false := by have : ¬ A (149 + i) ≤ x := by omega
                                          simp [plP, this]
      rw [if_pos c, ih1, show ff (plP A d x) i (k + 1) = ff (plP A d x) (i + 1) k from by rw [ff, hq]; rfl]
    · rw [if_neg c]
      have hle : A (149 + i) ≤ x := by omega
      cases hb : byKin A d i with
      | true =>
        have hq : plP A d x i = false := by simp [plP, hb]
        simp only [if_true, n1, if_false]
        rw [ih1, show ff (plP A d x) i (k + 1) = ff (plP A d x) (i + 1) k from by rw [ff, hq]; rfl]
      | false =>
        have hq : plP A d x i = true := by simp [plP, hb, hle]
        simp only [Bool.false_eq_true, if_false, if_true]
        rw [show ff (plP A d x) i (k + 1) = (i : Int) from by rw [ff, hq]; rfl]
theorem C_pl {s : mS} {A : Row} (hs : SR s 17 A) (hr : VR s 4 A) (h : WF A) {m : Nat} (hm : 1000 ≤ m) {d : Nat} (hd : (d : Int) < A 2) {x : Int} (h0 : 0 ≤ x) (h1 : x ≤ 300) : f_X_plotBehind m (d : Int) x s = some (plA A d x, s) := by
  have w1 := WFv_plots h.1
  have hdy := WFs_day h.2.1
  have q := C_plL hs hr h m hd h0 h1 (A 1).toNat m 0 (by omega) (by omega)
  rw [show ((0 : Nat) : Int) = 0 from rfl] at q
  rw [f_X_plotBehind_eq, SR17_day hs, w32_in (x := A 85 + x) (by omega) (by omega), C_frost hr h.1 (by omega) (by omega) hm, Option.bind_some]
  have n1 : ¬ (1 : Int) = 0 := by decide
  unfold plA
  by_cases c : frostA A (A 85 + x) = -1
  · rw [if_pos c, if_pos c]; simp only [if_true]; exact q
  · rw [if_neg c, if_neg c]; simp only [n1, if_false]
theorem R_plL {s : mS} {A : Row} (hA : s.1 251 = A) (h : WF A) (m : Nat) {d : Nat} (hd : (d : Int) < A 2) {x : Int} : ∀ (k n i : Nat), i + k = (A 1).toNat → k < n →
    l_R_plotIn_L20 m n (d : Int) x (i : Int) s = some (ff (plP A d x) i k, s) := by
  have w1 := WFv_plots h.1
  intro k
  induction k with
  | zero =>
    intro n i hi hkn
    obtain ⟨n, rfl⟩ : ∃ n', n = n' + 1 := ⟨n - 1, by omega⟩
    rw [l_R_plotIn_L20_eq, hA, if_neg (by omega)]; rfl
  | succ k ih =>
    intro n i hi hkn
    obtain ⟨n, rfl⟩ : ∃ n', n = n' + 1 := ⟨n - 1, by omega⟩
    have hp : (i : Int) < A 1 := by omega
    have ih1 := ih n (i + 1) (by omega) (by omega)
    rw [l_R_plotIn_L20_eq, hA, if_pos hp, ix149 (by omega), ix149n (by omega), R_byKin hA h.1 h.2.1 m hd hp, Option.bind_some, s1w i (by omega)]
    have n1 : ¬ (1 : Int) = 0 := by decide
    by_cases c : x < A (149 + i)
    · have hq : plP A d x i = false := by have : ¬ A (149 + i) ≤ x := by omega
                                          simp [plP, this]
      rw [if_pos c, ih1, show ff (plP A d x) i (k + 1) = ff (plP A d x) (i + 1) k from by rw [ff, hq]; rfl]
    · rw [if_neg c]
      have hle : A (149 + i) ≤ x := by omega
      cases hb : byKin A d i with
      | true =>
        have hq : plP A d x i = false := by simp [plP, hb]
        simp only [if_true, n1, if_false]
        rw [ih1, show ff (plP A d x) i (k + 1) = ff (plP A d x) (i + 1) k from by rw [ff, hq]; rfl]
      | false =>
        have hq : plP A d x i = true := by simp [plP, hb, hle]
        simp only [Bool.false_eq_true, if_false, if_true]
        rw [show ff (plP A d x) i (k + 1) = (i : Int) from by rw [ff, hq]; rfl]
theorem R_pl {s : mS} {A : Row} (hA : s.1 251 = A) (h : WF A) {m : Nat} (hm : 1000 ≤ m) {d : Nat} (hd : (d : Int) < A 2) {x : Int} (h0 : 0 ≤ x) (h1 : x ≤ 300) : f_R_plotIn m (d : Int) x s = some (plA A d x, s) := by
  have w1 := WFv_plots h.1
  have hdy := WFs_day h.2.1
  have q := R_plL hA h m hd (x := x) (A 1).toNat m 0 (by omega) (by omega)
  rw [show ((0 : Nat) : Int) = 0 from rfl] at q
  rw [f_R_plotIn_eq, hA, w32_in (x := A 85 + x) (by omega) (by omega), R_frost hA h.1 (by omega) (by omega) hm, Option.bind_some]
  have n1 : ¬ (1 : Int) = 0 := by decide
  unfold plA
  by_cases c : frostA A (A 85 + x) = -1
  · rw [if_pos c, if_pos c]; simp only [if_true]; exact q
  · rw [if_neg c, if_neg c]; simp only [n1, if_false]
/-- the first day on which there is a plot -/
def soA (A : Row) (d : Nat) : Int := ff (fun n => decide (plA A d (n : Int) ≠ -1)) 0 301
theorem C_soonL {s : mS} {A : Row} (hs : SR s 17 A) (hr : VR s 4 A) (h : WF A) {m : Nat} (hm : 1000 ≤ m) {d : Nat} (hd : (d : Int) < A 2) : ∀ (k n i : Nat), i + k = 301 → k < n →
    l_X_soon_L28 m n (d : Int) (i : Int) s = if ff (fun n => decide (plA A d (n : Int) ≠ -1)) i k = -1 then some (-1, s) else some (ff (fun n => decide (plA A d (n : Int) ≠ -1)) i k, wI s 0 14 (plA A d (ff (fun n => decide (plA A d (n : Int) ≠ -1)) i k))) := by
  intro k
  induction k with
  | zero =>
    intro n i hi hkn
    obtain ⟨n, rfl⟩ : ∃ n', n = n' + 1 := ⟨n - 1, by omega⟩
    rw [l_X_soon_L28_eq, if_pos (by omega)]; rfl
  | succ k ih =>
    intro n i hi hkn
    obtain ⟨n, rfl⟩ : ∃ n', n = n' + 1 := ⟨n - 1, by omega⟩
    have ih1 := ih n (i + 1) (by omega) (by omega)
    have ni : ¬ (i : Int) = -1 := by omega
    rw [l_X_soon_L28_eq, if_neg (by omega), C_pl hs hr h hm hd (by omega) (by omega), Option.bind_some, s1w i (by omega)]
    by_cases c : plA A d (i : Int) = -1
    · have hq : (fun n : Nat => decide (plA A d (n : Int) ≠ -1)) i = false := by simp [c]
      rw [if_pos c, ih1, ff_n hq]
    · have hq : (fun n : Nat => decide (plA A d (n : Int) ≠ -1)) i = true := by simp [c]
      rw [if_neg c, ff_y hq, if_neg ni]
theorem R_soonL {s : mS} {A : Row} (hA : s.1 251 = A) (h : WF A) {m : Nat} (hm : 1000 ≤ m) {d : Nat} (hd : (d : Int) < A 2) : ∀ (k n i : Nat), i + k = 301 → k < n →
    l_R_soon_L31 m n (d : Int) (i : Int) s = if ff (fun n => decide (plA A d (n : Int) ≠ -1)) i k = -1 then some (-1, s) else some (ff (fun n => decide (plA A d (n : Int) ≠ -1)) i k, wI s 249 29 (plA A d (ff (fun n => decide (plA A d (n : Int) ≠ -1)) i k))) := by
  intro k
  induction k with
  | zero =>
    intro n i hi hkn
    obtain ⟨n, rfl⟩ : ∃ n', n = n' + 1 := ⟨n - 1, by omega⟩
    rw [l_R_soon_L31_eq, if_pos (by omega)]; rfl
  | succ k ih =>
    intro n i hi hkn
    obtain ⟨n, rfl⟩ : ∃ n', n = n' + 1 := ⟨n - 1, by omega⟩
    have ih1 := ih n (i + 1) (by omega) (by omega)
    have ni : ¬ (i : Int) = -1 := by omega
    rw [l_R_soon_L31_eq, if_neg (by omega), R_pl hA h hm hd (by omega) (by omega), Option.bind_some, s1w i (by omega)]
    by_cases c : plA A d (i : Int) = -1
    · have hq : (fun n : Nat => decide (plA A d (n : Int) ≠ -1)) i = false := by simp [c]
      rw [if_pos c, ih1, ff_n hq]
    · have hq : (fun n : Nat => decide (plA A d (n : Int) ≠ -1)) i = true := by simp [c]
      rw [if_neg c, ff_y hq, if_neg ni]
/-- fields of the two objects that are read between calls, and rows beside them -/
theorem Inv_misc {s s2 : mS} (h : Inv s) (h1 : ∀ c, c ≠ 0 → c ≠ 249 → s2.1 c = s.1 c) (h2 : s2.2 = s.2) (h3 : ∀ k, k ≠ 14 → k ≠ 16 → s2.1 0 k = s.1 0 k) (h4 : ∀ k, k ≠ 0 → k ≠ 29 → k ≠ 33 → s2.1 249 k = s.1 249 k) (hM : pMisc s2) : Inv s2 := by
  obtain ⟨g1, g2, g3, g4, g5, g6, g7, g8, g9, g10⟩ := h
  refine ⟨?_, pTape_keep g2 (by rw [h1 1 (by omega) (by omega)]) (h1 _ (by omega) (by omega)) (h4 _ (by omega) (by omega) (by omega)) (h1 _ (by omega) (by omega)), hM, pRing_keep g4 (h3 _ (by omega) (by omega)) (h4 _ (by omega) (by omega) (by omega)) (h1 _ (by omega) (by omega)) (h1 _ (by omega) (by omega)), pTag_keep g5 (h3 _ (by omega) (by omega)) (h4 _ (by omega) (by omega) (by omega)) (h1 _ (by omega) (by omega)) (h1 _ (by omega) (by omega)), pTold_keep g6 (h3 _ (by omega) (by omega)) (h4 _ (by omega) (by omega) (by omega)) (h1 _ (by omega) (by omega)) (h1 _ (by omega) (by omega)), pMatch_keep g7 (h4 _ (by omega) (by omega) (by omega)) (h1 _ (by omega) (by omega)) (h1 _ (by omega) (by omega)),
    pImg_keep g8 (fun c _ _ => h1 c (by omega) (by omega)) (fun c _ _ => by rw [h2]) (h1 _ (by omega) (by omega)) (by rw [h2]) (h1 _ (by omega) (by omega)), pImg_keep g9 (fun c _ _ => h1 c (by omega) (by omega)) (fun c _ _ => by rw [h2]) (h1 _ (by omega) (by omega)) (by rw [h2]) (h1 _ (by omega) (by omega)), pPast_keep g10 (h1 _ (by omega) (by omega)) (h4 _ (by omega) (by omega) (by omega)) (fun i _ k _ => by rw [pastRow_keep (s := s) (s' := s2) (h1 _ (by omega) (by omega)) (h1 _ (by omega) (by omega))]) (fun c _ _ => h1 c (by omega) (by omega))⟩
  rw [h1 251 (by omega) (by omega), h2]
  exact World_keep g1 (fun c _ _ => h1 c (by omega) (by omega)) (fun c _ _ => by rw [h2]) (fun c _ _ => h1 c (by omega) (by omega)) (fun c _ _ => h1 c (by omega) (by omega))
theorem S_soon {m : Nat} (hm : 1000 ≤ m) (a : Int) : Sim (f_X_soon m a) (f_R_soon m a) := by
  intro s h
  obtain ⟨⟨hW, hr, hS, -, -⟩, -⟩ := id h
  have w2 := WFv_dead hW.1
  have n1 : ¬ (1 : Int) = 0 := by decide
  have hth : ∀ u : mS, u.1 251 = s.1 251 → (wI u 249 0 0).1 251 = s.1 251 := fun u hu => by rw [th_ne u 0 (by decide), hu]
  by_cases c : 0 ≤ a ∧ a < s.1 251 2
  · obtain ⟨d, rfl⟩ : ∃ d : Nat, a = (d : Int) := ⟨a.toNat, by omega⟩
    have hd : (d : Int) < s.1 251 2 := c.2
    have hX : f_X_soon m (d : Int) s = if s.1 251 (164 + d) = 2 then l_X_soon_L28 m m (d : Int) 0 s else some (-1, s) := by
      rw [f_X_soon_eq, C_isDead hr, Option.bind_some]
      simp only [if_pos c, n1, if_false]
      rw [inR_pos (by omega) (by omega), Int.toNat_natCast, SR17_how hS hd]
    have hR : ∀ u : mS, u.1 251 = s.1 251 → f_R_soon m (d : Int) u = if s.1 251 (164 + d) = 2 then l_R_soon_L31 m m (d : Int) 0 (wI u 249 0 0) else some (-1, wI u 249 0 0) := by
      intro u hu
      rw [f_R_soon_eq, R_isDead (hth u hu) hW.1, Option.bind_some]
      simp only [if_pos c, n1, if_false]
      rw [hth u hu, ix164 (by omega), ix164n (by omega)]
    by_cases c2 : s.1 251 (164 + d) = 2
    · have q1 := C_soonL hS hr hW hm hd 301 m 0 (by omega) (by omega)
      rw [show ((0 : Nat) : Int) = 0 from rfl] at q1
      rw [if_pos c2, q1] at hX
      generalize hv : ff (fun n : Nat => decide (plA (s.1 251) d (n : Int) ≠ -1)) 0 301 = v at hX
      by_cases c3 : v = -1
      · rw [if_pos c3] at hX
        refine ⟨-1, s, wI s 249 0 0, hX, ?_, Inv_thrown h 0⟩
        have q2 := R_soonL (hth s rfl) hW hm hd 301 m 0 (by omega) (by omega)
        rw [show ((0 : Nat) : Int) = 0 from rfl, hv, if_pos c3] at q2
        rw [hR s rfl, if_pos c2, q2]
      · rw [if_neg c3] at hX
        have e51 : (wI s 0 14 (plA (s.1 251) d v)).1 251 = s.1 251 := wI_ne (by decide)
        have q2 := R_soonL (hth _ e51) hW hm hd 301 m 0 (by omega) (by omega)
        rw [show ((0 : Nat) : Int) = 0 from rfl, hv, if_neg c3] at q2
        refine ⟨v, _, _, hX, by rw [hR _ e51, if_pos c2, q2], ?_⟩
        obtain ⟨m1, m2, m3⟩ := h.2.2.1
        refine Inv_misc h (fun c x y => by rw [wI_ne y, wI_ne y, wI_ne x]) rfl (fun k x y => by rw [wI_ne (by decide), wI_ne (by decide), wI_f x]) (fun k x y z => by rw [wI_f y, wI_f x, wI_ne (by decide)]) ⟨?_, ?_, ?_⟩
        · rw [wI_ne (by decide), wI_ne (by decide), wI_f (by decide), wI_f (by decide), wI_f (by decide), wI_ne (by decide)]; exact m1
        · rw [wI_ne (by decide), wI_ne (by decide), wI_at, wI_at]
        · rw [wI_ne (by decide), wI_ne (by decide), wI_f (by decide), wI_f (by decide), wI_f (by decide), wI_ne (by decide)]; exact m3
    · rw [if_neg c2] at hX
      exact ⟨-1, s, wI s 249 0 0, hX, by rw [hR s rfl, if_neg c2], Inv_thrown h 0⟩
  · refine ⟨-1, s, wI s 249 0 0, ?_, ?_, Inv_thrown h 0⟩
    · rw [f_X_soon_eq, C_isDead hr, Option.bind_some]; simp only [if_neg c, if_true]
    · rw [f_R_soon_eq, R_isDead (hth s rfl) hW.1, Option.bind_some]; simp only [if_neg c, if_true]
