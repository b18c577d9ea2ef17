/-! ===== layer 3: who, what to ask (2) ===== -/
def alike (A : Row) (S : Nat) (w : Int) (d : Nat) : Nat := ct (fun e => S.testBit e && decide (pa A w e = pa A w d)) (A 2).toNat
def grA (A : Row) (S : Nat) (w : Int) : Nat → Nat
  | 0 => 0
  | i + 1 => if S.testBit i then max (grA A S w i) (alike A S w i) else grA A S w i
theorem grA_s (A : Row) (S : Nat) (w : Int) (i : Nat) : grA A S w (i + 1) = if S.testBit i then max (grA A S w i) (alike A S w i) else grA A S w i := rfl
theorem ct_cut (p : Nat → Bool) (n : Nat) : ∀ k, ct (fun i => decide (i < n) && p i) (n + k) = ct p n
  | 0 => ct_congr n (fun i hi => by simp [hi])
  | k + 1 => by
    have : (fun i => decide (i < n) && p i) (n + k) = false := by
      have h : ¬ n + k < n := by omega
      simp [h]
    rw [show n + (k + 1) = (n + k) + 1 from by omega, ← ct_n this]
    exact ct_cut p n k
theorem grA_le (A : Row) (S : Nat) (w : Int) : ∀ i, grA A S w i ≤ (A 2).toNat
  | 0 => Nat.zero_le _
  | i + 1 => by
    have := grA_le A S w i
    have q : alike A S w i ≤ (A 2).toNat := ct_le _ _
    rw [grA_s]; split <;> omega
theorem C_alike {s : mS} {A : Row} (hs : SR s 17 A) (hr : VR s 4 A) (h : WF A) {m : Nat} (hm : 1000 ≤ m) {S : Nat} (hS : S < 4096) (w : Int) {d : Nat} (hd : (d : Int) < A 2) :
    f_Ji_bitCount m (band (S : Int) ((mk (fun e => decide (pa A w e = pa A w d)) (A 2).toNat : Nat) : Int)) s = some (((alike A S w d : Nat) : Int), s) := by
  have w2 := WFv_dead h.1
  have l := mk_lt (fun e => decide (pa A w e = pa A w d)) (A 2).toNat
  have l2 : (2 : Nat) ^ (A 2).toNat ≤ 2 ^ 12 := Nat.pow_le_pow_right (by omega) (by omega)
  have l3 : S &&& mk (fun e => decide (pa A w e = pa A w d)) (A 2).toNat ≤ S := Nat.and_le_left
  rw [band_nat (by omega) (by omega), C_bitCount, bc_ok _ (by omega)]
  refine congrArg (fun z : Nat => some ((z : Int), s)) ?_
  have e12 : 12 = (A 2).toNat + (12 - (A 2).toNat) := by omega
  have := ct_cut (fun e => S.testBit e && decide (pa A w e = pa A w d)) (A 2).toNat (12 - (A 2).toNat)
  rw [← e12] at this
  rw [show alike A S w d = ct (fun e => S.testBit e && decide (pa A w e = pa A w d)) (A 2).toNat from rfl, ← this]
  refine ct_congr 12 (fun i _ => ?_)
  rw [Nat.testBit_and, mk_bit]
  cases S.testBit i <;> simp
theorem C_gL {s : mS} {A : Row} (hs : SR s 17 A) (hr : VR s 4 A) (h : WF A) {m : Nat} (hm : 1000 ≤ m) {S : Nat} (hS : S < 4096) (w : Int) : ∀ (k n i : Nat), i + k = (A 2).toNat → k < n →
    l_X_greatestAlike_L5 m n w (S : Int) ((grA A S w i : Nat) : Int) (i : Int) s = some (((grA A S w (A 2).toNat : Nat) : Int), s) := by
  have w2 := WFv_dead h.1
  intro k
  induction k with
  | zero =>
    intro n i hi hkn
    obtain ⟨n, rfl⟩ : ∃ n', n = n' + 1 := ⟨n - 1, by omega⟩
    rw [l_X_greatestAlike_L5_eq, VR4_dead hr, if_neg (by omega), show i = (A 2).toNat from by omega]
  | succ k ih =>
    intro n i hi hkn
    obtain ⟨n, rfl⟩ : ∃ n', n = n' + 1 := ⟨n - 1, by omega⟩
    have hd : (i : Int) < A 2 := by omega
    have ih1 := ih n (i + 1) (by omega) (by omega)
    have n1 : ¬ (1 : Int) = 0 := by decide
    rw [l_X_greatestAlike_L5_eq, VR4_dead hr, if_pos hd, bit_nat (by omega) (by omega), C_pa hs hr h m w hd, Option.bind_some]
    simp only []
    rw [C_with hs hr h hm, Option.bind_some]
    simp only []
    rw [C_alike hs hr h hm hS w hd, Option.bind_some, f_Jm_max_eq, s1w i (by omega)]
    rw [grA_s] at ih1
    cases hb : S.testBit i with
    | false => rw [hb] at ih1; simp only [Bool.false_eq_true, if_false, if_true] at ih1 ⊢; exact ih1
    | true =>
      rw [hb] at ih1
      simp only [if_true, n1, if_false] at ih1 ⊢
      generalize alike A S w i = z at ih1 ⊢
      by_cases c : ((grA A S w i : Nat) : Int) < (z : Int)
      · rw [if_pos c, Option.bind_some]; rw [show max (grA A S w i) z = z from by omega] at ih1; exact ih1
      · rw [if_neg c, Option.bind_some]; rw [show max (grA A S w i) z = grA A S w i from by omega] at ih1; exact ih1
theorem R_alikeL {s : mS} {A : Row} (hA : s.1 251 = A) (h : WF A) (m : Nat) {S : Nat} (hS : S < 4096) (w : Int) {d : Nat} (hd : (d : Int) < A 2) (x3 : Int) : ∀ (k n i : Nat), i + k = (A 2).toNat → k < n →
    l_R_leftBy_L34 m n (S : Int) w x3 (d : Int) ((ct (fun e => S.testBit e && decide (pa A w e = pa A w d)) i : Nat) : Int) (i : Int) s = (if x3 < ((alike A S w d : Nat) : Int) then l_R_leftBy_L5 m (n - (k + 1)) (S : Int) w ((alike A S w d : Nat) : Int) (w32 ((d : Int) + 1)) s else l_R_leftBy_L5 m (n - (k + 1)) (S : Int) w x3 (w32 ((d : Int) + 1)) s) := by
  have w2 := WFv_dead h.1
  intro k
  induction k with
  | zero =>
    intro n i hi hkn
    obtain ⟨n, rfl⟩ : ∃ n', n = n' + 1 := ⟨n - 1, by omega⟩
    rw [l_R_leftBy_L34_eq, hA, if_neg (by omega), show i = (A 2).toNat from by omega]; rfl
  | succ k ih =>
    intro n i hi hkn
    obtain ⟨n, rfl⟩ : ∃ n', n = n' + 1 := ⟨n - 1, by omega⟩
    have hd2 : (i : Int) < A 2 := by omega
    have ih1 := ih n (i + 1) (by omega) (by omega)
    have n1 : ¬ (1 : Int) = 0 := by decide
    have en : n + 1 - (k + 1 + 1) = n - (k + 1) := by omega
    rw [en, l_R_leftBy_L34_eq, hA, if_pos hd2, R_has m s (by omega) (by omega), Option.bind_some]
    simp only []
    rw [R_pa hA h m w hd2, Option.bind_some]
    simp only []
    rw [R_pa hA h m w hd, Option.bind_some, s1w i (by omega)]
    cases hb : S.testBit i with
    | false =>
      have hp : (fun e => S.testBit e && decide (pa A w e = pa A w d)) i = false := by simp [hb]
      simp only [Bool.false_eq_true, if_false, if_true]
      rw [ct_n (p := fun e => S.testBit e && decide (pa A w e = pa A w d)) hp]; exact ih1
    | true =>
      simp only [if_true, n1, if_false]
      by_cases c : pa A w i = pa A w d
      · have hp : (fun e => S.testBit e && decide (pa A w e = pa A w d)) i = true := by simp [hb, c]
        rw [if_pos c, ct_y (p := fun e => S.testBit e && decide (pa A w e = pa A w d)) hp (by omega)]; exact ih1
      · have hp : (fun e => S.testBit e && decide (pa A w e = pa A w d)) i = false := by simp [c]
        rw [if_neg c, ct_n (p := fun e => S.testBit e && decide (pa A w e = pa A w d)) hp]; exact ih1
theorem R_gL {s : mS} {A : Row} (hA : s.1 251 = A) (h : WF A) (m : Nat) {S : Nat} (hS : S < 4096) (w : Int) : ∀ (k n i : Nat), i + k = (A 2).toNat → 20 * (k + 1) ≤ n →
    l_R_leftBy_L5 m n (S : Int) w ((grA A S w i : Nat) : Int) (i : Int) s = some (((grA A S w (A 2).toNat : Nat) : Int), s) := by
  have w2 := WFv_dead h.1
  intro k
  induction k with
  | zero =>
    intro n i hi hkn
    obtain ⟨n, rfl⟩ : ∃ n', n = n' + 1 := ⟨n - 1, by omega⟩
    rw [l_R_leftBy_L5_eq, hA, if_neg (by omega), show i = (A 2).toNat from by omega]
  | succ k ih =>
    intro n i hi hkn
    obtain ⟨n, rfl⟩ : ∃ n', n = n' + 1 := ⟨n - 1, by omega⟩
    have hd : (i : Int) < A 2 := by omega
    have n1 : ¬ (1 : Int) = 0 := by decide
    rw [l_R_leftBy_L5_eq, hA, if_pos hd, R_has m s (by omega) (by omega), Option.bind_some, s1w i (by omega)]
    cases hb : S.testBit i with
    | false =>
      have ih1 := ih n (i + 1) (by omega) (by omega)
      rw [grA_s, hb] at ih1
      simp only [Bool.false_eq_true, if_false, if_true] at ih1 ⊢; exact ih1
    | true =>
      have ih1 := ih (n - ((A 2).toNat + 1)) (i + 1) (by omega) (by omega)
      rw [grA_s, hb] at ih1
      have q := R_alikeL hA h m hS w hd ((grA A S w i : Nat) : Int) (A 2).toNat n 0 (by omega) (by omega)
      rw [show ((ct (fun e => S.testBit e && decide (pa A w e = pa A w i)) 0 : Nat) : Int) = 0 from rfl, show ((0 : Nat) : Int) = 0 from rfl, s1w i (by omega)] at q
      simp only [if_true, n1, if_false] at ih1 ⊢
      rw [q]
      generalize alike A S w i = z at ih1 ⊢
      by_cases c : ((grA A S w i : Nat) : Int) < (z : Int)
      · rw [if_pos c]; rw [show max (grA A S w i) z = z from by omega] at ih1; exact ih1
      · rw [if_neg c]; rw [show max (grA A S w i) z = grA A S w i from by omega] at ih1; exact ih1
theorem C_g {s : mS} {A : Row} (hs : SR s 17 A) (hr : VR s 4 A) (h : WF A) {m : Nat} (hm : 1000 ≤ m) {S : Nat} (hS : S < 4096) (w : Int) : f_X_greatestAlike m w (S : Int) s = some (((grA A S w (A 2).toNat : Nat) : Int), s) := by
  have w2 := WFv_dead h.1
  have q := C_gL hs hr h hm hS w (A 2).toNat m 0 (by omega) (by omega)
  rw [show ((grA A S w 0 : Nat) : Int) = 0 from rfl, show ((0 : Nat) : Int) = 0 from rfl] at q
  rw [f_X_greatestAlike_eq]; exact q
theorem R_g {s : mS} {A : Row} (hA : s.1 251 = A) (h : WF A) {m : Nat} (hm : 1000 ≤ m) {S : Nat} (hS : S < 4096) (w : Int) : f_R_leftBy m (S : Int) w s = some (((grA A S w (A 2).toNat : Nat) : Int), s) := by
  have w2 := WFv_dead h.1
  have q := R_gL hA h m hS w (A 2).toNat m 0 (by omega) (by omega)
  rw [show ((grA A S w 0 : Nat) : Int) = 0 from rfl, show ((0 : Nat) : Int) = 0 from rfl] at q
  rw [f_R_leftBy_eq]; exact q
/-- the first of four with the least -/
def am (g0 g1 g2 g3 : Nat) : Int := if g1 < g0 then (if g2 < g1 then (if g3 < g2 then 3 else 2) else (if g3 < g1 then 3 else 1)) else (if g2 < g0 then (if g3 < g2 then 3 else 2) else (if g3 < g0 then 3 else 0))
theorem C_best {s : mS} {A : Row} (hs : SR s 17 A) (hr : VR s 4 A) (h : WF A) {m : Nat} (hm : 1000 ≤ m) {S : Nat} (hS : S < 4096) : f_X_bestToAsk m (S : Int) s = some (am (grA A S 0 (A 2).toNat) (grA A S 1 (A 2).toNat) (grA A S 2 (A 2).toNat) (grA A S 3 (A 2).toNat), s) := by
  have w2 := WFv_dead h.1
  obtain ⟨n, hn⟩ : ∃ n, m = n + 1 + 1 + 1 + 1 + 1 := ⟨m - 5, by omega⟩
  have l0 := grA_le A S 0 (A 2).toNat
  have q0 := C_g hs hr h hm hS 0
  have q1 := C_g hs hr h hm hS 1
  have q2 := C_g hs hr h hm hS 2
  have q3 := C_g hs hr h hm hS 3
  generalize grA A S 0 (A 2).toNat = g0 at *
  generalize grA A S 1 (A 2).toNat = g1 at *
  generalize grA A S 2 (A 2).toNat = g2 at *
  generalize grA A S 3 (A 2).toNat = g3 at *
  have stp : ∀ (k : Nat) (b l : Int) (i : Nat) (g : Nat), i < 4 → f_X_greatestAlike m (i : Int) (S : Int) s = some ((g : Int), s) → l_X_bestToAsk_L8 m (k + 1) (S : Int) b l (i : Int) s = if (g : Int) < l then l_X_bestToAsk_L8 m k (S : Int) (i : Int) (g : Int) ((i + 1 : Nat) : Int) s else l_X_bestToAsk_L8 m k (S : Int) b l ((i + 1 : Nat) : Int) s := by
    intro k b l i g hi hg
    rw [l_X_bestToAsk_L8_eq, if_pos (by omega), hg, Option.bind_some, s1w i (by omega)]
  have fin : ∀ (k : Nat) (b l : Int), l_X_bestToAsk_L8 m (k + 1) (S : Int) b l ((4 : Nat) : Int) s = some (b, s) := by
    intro k b l; rw [l_X_bestToAsk_L8_eq, if_neg (by omega)]
  rw [f_X_bestToAsk_eq]
  rw [show l_X_bestToAsk_L8 m m = l_X_bestToAsk_L8 m (n + 1 + 1 + 1 + 1 + 1) from by rw [← hn]]
  rw [show (0 : Int) = ((0 : Nat) : Int) from rfl, stp _ _ _ 0 g0 (by omega) q0, if_pos (by omega), stp _ _ _ 1 g1 (by omega) q1]
  unfold am
  by_cases c1 : g1 < g0
  · rw [if_pos (by omega), if_pos c1, stp _ _ _ 2 g2 (by omega) q2]
    by_cases c2 : g2 < g1
    · rw [if_pos (by omega), if_pos c2, stp _ _ _ 3 g3 (by omega) q3]
      by_cases c3 : g3 < g2
      · rw [if_pos (by omega), if_pos c3, fin]; rfl
      · rw [if_neg (by omega), if_neg c3, fin]; rfl
    · rw [if_neg (by omega), if_neg c2, stp _ _ _ 3 g3 (by omega) q3]
      by_cases c3 : g3 < g1
      · rw [if_pos (by omega), if_pos c3, fin]; rfl
      · rw [if_neg (by omega), if_neg c3, fin]; rfl
  · rw [if_neg (by omega), if_neg c1, stp _ _ _ 2 g2 (by omega) q2]
    by_cases c2 : g2 < g0
    · rw [if_pos (by omega), if_pos c2, stp _ _ _ 3 g3 (by omega) q3]
      by_cases c3 : g3 < g2
      · rw [if_pos (by omega), if_pos c3, fin]; rfl
      · rw [if_neg (by omega), if_neg c3, fin]; rfl
    · rw [if_neg (by omega), if_neg c2, stp _ _ _ 3 g3 (by omega) q3]
      by_cases c3 : g3 < g0
      · rw [if_pos (by omega), if_pos c3, fin]; rfl
      · rw [if_neg (by omega), if_neg c3, fin]; rfl
theorem R_best {s : mS} {A : Row} (hA : s.1 251 = A) (h : WF A) {m : Nat} (hm : 1000 ≤ m) {S : Nat} (hS : S < 4096) (n : Nat) : l_R_who_L103 m (n + 1 + 1 + 1 + 1) (S : Int) 1 (wI s 249 33 0) = some ((S : Int), wI s 249 33 (am (grA A S 0 (A 2).toNat) (grA A S 1 (A 2).toNat) (grA A S 2 (A 2).toNat) (grA A S 3 (A 2).toNat))) := by
  have q : ∀ (v : Int) (w : Int), f_R_leftBy m (S : Int) w (wI s 249 33 v) = some (((grA A S w (A 2).toNat : Nat) : Int), wI s 249 33 v) := fun v w => R_g (by rw [wI_ne (by decide)]; exact hA) h hm hS w
  have ww : ∀ v v' : Int, wI (wI s 249 33 v) 249 33 v' = wI s 249 33 v' := by
    intro v v'
    rw [wI_sr, wI_sr, wI_sr, sr_eq, sr_sr]
    exact sr_ext (fun k => by unfold up; split <;> rfl)
  have stp : ∀ (k : Nat) (i : Nat) (v : Int), i < 4 → l_R_who_L103 m (k + 1) (S : Int) (i : Int) (wI s 249 33 v) = if ((grA A S (i : Int) (A 2).toNat : Nat) : Int) < ((grA A S v (A 2).toNat : Nat) : Int) then l_R_who_L103 m k (S : Int) ((i + 1 : Nat) : Int) (wI s 249 33 (i : Int)) else l_R_who_L103 m k (S : Int) ((i + 1 : Nat) : Int) (wI s 249 33 v) := by
    intro k i v hi
    rw [l_R_who_L103_eq, if_pos (by omega), q, Option.bind_some]
    simp only [wI_at]
    rw [q, Option.bind_some, s1w i (by omega), ww]
  have fin : ∀ (k : Nat) (v : Int), l_R_who_L103 m (k + 1) (S : Int) ((4 : Nat) : Int) (wI s 249 33 v) = some ((S : Int), wI s 249 33 v) := by
    intro k v; rw [l_R_who_L103_eq, if_neg (by omega)]
  have e1 : ((1 : Nat) : Int) = 1 := rfl
  have e2 : ((2 : Nat) : Int) = 2 := rfl
  have e3 : ((3 : Nat) : Int) = 3 := rfl
  have s1 := stp (n + 1 + 1 + 1) 1 0 (by omega)
  rw [e1] at s1
  rw [s1]
  have s20 := stp (n + 1 + 1) 2 0 (by omega)
  have s21 := stp (n + 1 + 1) 2 1 (by omega)
  have s30 := stp (n + 1) 3 0 (by omega)
  have s31 := stp (n + 1) 3 1 (by omega)
  have s32 := stp (n + 1) 3 2 (by omega)
  rw [e2] at s20 s21
  rw [e3] at s30 s31 s32
  rw [show ((1 + 1 : Nat) : Int) = 2 from rfl]
  rw [show ((2 + 1 : Nat) : Int) = 3 from rfl] at s20 s21
  rw [show ((3 + 1 : Nat) : Int) = ((4 : Nat) : Int) from rfl] at s30 s31 s32
  rw [fin, fin] at s30 s31 s32
  generalize grA A S 0 (A 2).toNat = g0 at *
  generalize grA A S 1 (A 2).toNat = g1 at *
  generalize grA A S 2 (A 2).toNat = g2 at *
  generalize grA A S 3 (A 2).toNat = g3 at *
  unfold am
  by_cases c1 : g1 < g0
  · rw [if_pos (by omega), if_pos c1, s21]
    by_cases c2 : g2 < g1
    · rw [if_pos (by omega), if_pos c2, s32]
      by_cases c3 : g3 < g2
      · rw [if_pos (by omega), if_pos c3]
      · rw [if_neg (by omega), if_neg c3]
    · rw [if_neg (by omega), if_neg c2, s31]
      by_cases c3 : g3 < g1
      · rw [if_pos (by omega), if_pos c3]
      · rw [if_neg (by omega), if_neg c3]
  · rw [if_neg (by omega), if_neg c1, s20]
    by_cases c2 : g2 < g0
    · rw [if_pos (by omega), if_pos c2, s32]
      by_cases c3 : g3 < g2
      · rw [if_pos (by omega), if_pos c3]
      · rw [if_neg (by omega), if_neg c3]
    · rw [if_neg (by omega), if_neg c2, s30]
      by_cases c3 : g3 < g0
      · rw [if_pos (by omega), if_pos c3]
      · rw [if_neg (by omega), if_neg c3]
