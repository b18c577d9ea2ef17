/-! ===== layer 3: who ===== -/
def tp (A T : Row) (d : Nat) : Nat → Bool
  | 0 => true
  | j + 1 => tp A T d j && decide (pa A (T (2 * j)) d = T (2 * j + 1))
theorem tp_s (A T : Row) (d j : Nat) : tp A T d (j + 1) = (tp A T d j && decide (pa A (T (2 * j)) d = T (2 * j + 1))) := rfl
theorem tp_f {A T : Row} {d j : Nat} (h : tp A T d j = false) : ∀ k, tp A T d (j + k) = false
  | 0 => h
  | k + 1 => by rw [show j + (k + 1) = (j + k) + 1 from by omega, tp_s, tp_f h k]; rfl
theorem C_byte {s : mS} (ht : pTape s) (m : Nat) {k : Nat} (hk : k < 940) {u : mS} (hu : u.1 2 = s.1 2) : f_Tp_byteOf m (k : Int) u = some (s.1 250 k, u) := by
  obtain ⟨-, -, -, t4⟩ := ht
  have q := t4 k hk
  rw [f_Tp_byteOf_eq, if_neg (by omega), if_pos (by omega), inR_pos (by omega) (by omega), Int.toNat_natCast, hu, band255 ⟨by omega, by omega⟩, ← q.2.2]
theorem C_whoL {s : mS} (ht : pTape s) {A : Row} (h : WF A) {m : Nat} (hm : 1000 ≤ m) {u : mS} (hs : SR u 17 A) (hr : VR u 4 A) (hu : u.1 2 = s.1 2) (P : Nat) (hP : P ≤ 6) : ∀ (k n j : Nat), j + k = P → k < n →
    l_X_who_L48 m n ((2 * P : Nat) : Int) ((mk (fun d => tp A (s.1 250) d j) (A 2).toNat : Nat) : Int) ((2 * j : Nat) : Int) u = if ff (fun j => decide (3 < s.1 250 (2 * j))) j k = -1 then (if mk (fun d => tp A (s.1 250) d P) (A 2).toNat = 0 then some (0, u) else some (((mk (fun d => tp A (s.1 250) d P) (A 2).toNat : Nat) : Int), wI u 0 16 (am (grA A (mk (fun d => tp A (s.1 250) d P) (A 2).toNat) 0 (A 2).toNat) (grA A (mk (fun d => tp A (s.1 250) d P) (A 2).toNat) 1 (A 2).toNat) (grA A (mk (fun d => tp A (s.1 250) d P) (A 2).toNat) 2 (A 2).toNat) (grA A (mk (fun d => tp A (s.1 250) d P) (A 2).toNat) 3 (A 2).toNat)))) else some (-1, u) := by
  have w2 := WFv_dead h.1
  have l2 : (2 : Nat) ^ (A 2).toNat ≤ 2 ^ 12 := Nat.pow_le_pow_right (by omega) (by omega)
  have lt : ∀ p, mk p (A 2).toNat < 4096 := fun p => Nat.lt_of_lt_of_le (mk_lt p _) l2
  intro k
  induction k with
  | zero =>
    intro n j hj hkn
    obtain ⟨n, rfl⟩ : ∃ n', n = n' + 1 := ⟨n - 1, by omega⟩
    have ej : j = P := by omega
    subst ej
    have lS := lt (fun d => tp A (s.1 250) d j)
    generalize mk (fun d => tp A (s.1 250) d j) (A 2).toNat = S at lS ⊢
    rw [l_X_who_L48_eq, if_neg (by omega), show ff (fun j => decide (3 < s.1 250 (2 * j))) j 0 = -1 from rfl, if_pos rfl]
    by_cases c : S = 0
    · rw [if_pos (by omega), if_pos c, c]; rfl
    · rw [if_neg (by omega), if_neg c, C_best hs hr h hm lS]; rfl
  | succ k ih =>
    intro n j hj hkn
    obtain ⟨n, rfl⟩ : ∃ n', n = n' + 1 := ⟨n - 1, by omega⟩
    have ih1 := ih n (j + 1) (by omega) (by omega)
    have b0 := C_byte ht m (k := 2 * j) (by omega) hu
    have b1 := C_byte ht m (k := 2 * j + 1) (by omega) hu
    have e1 : w32 (((2 * j : Nat) : Int) + 1) = ((2 * j + 1 : Nat) : Int) := by rw [w32_in (by omega) (by omega)]; omega
    have e2 : w32 (((2 * j : Nat) : Int) + 2) = ((2 * (j + 1) : Nat) : Int) := by clear e1; rw [w32_in (by omega) (by omega)]; omega
    have hlt : ((2 * j : Nat) : Int) < ((2 * P : Nat) : Int) := by clear e1 e2; omega
    rw [l_X_who_L48_eq, if_pos hlt, b0, Option.bind_some]
    by_cases c : 3 < s.1 250 (2 * j)
    · have hp : (fun j => decide (3 < s.1 250 (2 * j))) j = true := by simp [c]
      rw [if_pos c, ff_y (p := fun j => decide (3 < s.1 250 (2 * j))) hp, if_neg (by clear e1 e2; omega)]
    · have hp : (fun j => decide (3 < s.1 250 (2 * j))) j = false := by simp [c]
      rw [if_neg c, ff_n (p := fun j => decide (3 < s.1 250 (2 * j))) hp, e1, b1, Option.bind_some]
      simp only []
      rw [C_with hs hr h hm, Option.bind_some, e2]
      have q1 := lt (fun d => tp A (s.1 250) d j)
      have q2 := lt (fun d => decide (pa A (s.1 250 (2 * j)) d = s.1 250 (2 * j + 1)))
      simp only []
      rw [band_nat (by clear e1 e2; omega) (by clear e1 e2; omega), mk_and]
      exact ih1
theorem R_toldL {s : mS} {A T : Row} (hA : s.1 251 = A) (hT : s.1 250 = T) (h : WF A) (m : Nat) {d : Nat} (hd : (d : Int) < A 2) (P : Nat) (hP : P ≤ 6) : ∀ (k n j : Nat), j + k = P → k < n → tp A T d j = true →
    l_R_isTold_L2 m n (d : Int) ((2 * P : Nat) : Int) ((2 * j : Nat) : Int) s = some (if tp A T d P = true then 1 else 0, s) := by
  intro k
  induction k with
  | zero =>
    intro n j hj hkn ht
    obtain ⟨n, rfl⟩ : ∃ n', n = n' + 1 := ⟨n - 1, by omega⟩
    have ej : j = P := by omega
    subst ej
    rw [l_R_isTold_L2_eq, if_neg (by omega), if_pos ht]
  | succ k ih =>
    intro n j hj hkn ht
    obtain ⟨n, rfl⟩ : ∃ n', n = n' + 1 := ⟨n - 1, by omega⟩
    have ih1 := ih n (j + 1) (by omega) (by omega)
    have e1 : w32 (((2 * j : Nat) : Int) + 1) = ((2 * j + 1 : Nat) : Int) := by rw [w32_in (by omega) (by omega)]; omega
    have e2 : w32 (((2 * j : Nat) : Int) + 2) = ((2 * (j + 1) : Nat) : Int) := by clear e1; rw [w32_in (by omega) (by omega)]; omega
    have h1 : ((2 * j : Nat) : Int) < ((2 * P : Nat) : Int) := by clear e1 e2; omega
    have h2 : ((2 * j : Nat) : Int) < ((940 : Nat) : Int) := by clear e1 e2; omega
    have h3 : ((2 * j + 1 : Nat) : Int) < ((940 : Nat) : Int) := by clear e1 e2; omega
    have h4 : (0 : Int) ≤ ((2 * j : Nat) : Int) := by clear e1 e2; omega
    have h5 : (0 : Int) ≤ ((2 * j + 1 : Nat) : Int) := by clear e1 e2; omega
    rw [l_R_isTold_L2_eq, if_pos h1, inR_pos h4 h2, Int.toNat_natCast, hT, R_pa hA h m _ hd, Option.bind_some, e1, inR_pos h5 h3, Int.toNat_natCast, hT, e2]
    by_cases c : pa A (T (2 * j)) d = T (2 * j + 1)
    · rw [if_pos c]
      exact ih1 (by rw [tp_s, ht]; simp [c])
    · have hf : tp A T d (j + 1) = false := by rw [tp_s]; simp [c]
      have := tp_f hf k
      rw [show j + 1 + k = P from by clear e1 e2; omega] at this
      rw [if_neg c, this]; rfl
theorem R_setL {s : mS} {A T : Row} (hA : s.1 251 = A) (hT : s.1 250 = T) (h : WF A) {m : Nat} (hm : 1000 ≤ m) (P : Nat) (hP : P ≤ 6) : ∀ (k n i : Nat), i + k = (A 2).toNat → k < n →
    l_R_who_L59 m n ((2 * P : Nat) : Int) ((mk (fun d => tp A T d P) i : Nat) : Int) (i : Int) s = if mk (fun d => tp A T d P) (A 2).toNat = 0 then some (0, s) else l_R_who_L103 m (n - (k + 1)) ((mk (fun d => tp A T d P) (A 2).toNat : Nat) : Int) 1 (wI s 249 33 0) := by
  have w2 := WFv_dead h.1
  intro k
  induction k with
  | zero =>
    intro n i hi hkn
    obtain ⟨n, rfl⟩ : ∃ n', n = n' + 1 := ⟨n - 1, by omega⟩
    rw [l_R_who_L59_eq, hA, if_neg (by omega), show i = (A 2).toNat from by omega]
    by_cases c : mk (fun d => tp A T d P) (A 2).toNat = 0
    · rw [if_pos (by omega), if_pos c]
    · rw [if_neg (by omega), if_neg c]; rfl
  | succ k ih =>
    intro n i hi hkn
    obtain ⟨n, rfl⟩ : ∃ n', n = n' + 1 := ⟨n - 1, by omega⟩
    have hd : (i : Int) < A 2 := by omega
    have ih1 := ih n (i + 1) (by omega) (by omega)
    have n1 : ¬ (1 : Int) = 0 := by decide
    have en : n + 1 - (k + 1 + 1) = n - (k + 1) := by omega
    have q := R_toldL hA hT h m hd P hP P m 0 (by omega) (by omega) rfl
    rw [show ((2 * 0 : Nat) : Int) = 0 from rfl] at q
    rw [en, l_R_who_L59_eq, hA, if_pos hd, f_R_isTold_eq, q, Option.bind_some, s1w i (by omega)]
    cases hb : tp A T i P with
    | true =>
      simp only [if_true, n1, if_false]
      rw [mk_step (p := fun d => tp A T d P) (by omega) hb]; exact ih1
    | false =>
      simp only [Bool.false_eq_true, if_false, if_true]
      rw [mk_skip (p := fun d => tp A T d P) hb]; exact ih1
theorem R_badL {s : mS} {T : Row} (hT : s.1 250 = T) (m : Nat) (P : Nat) (hP : P ≤ 6) : ∀ (k n j : Nat), j + k = P → k < n →
    l_R_who_L32 m n ((2 * P : Nat) : Int) ((2 * j : Nat) : Int) s = if ff (fun j => decide (3 < T (2 * j))) j k = -1 then l_R_who_L59 m (n - (k + 1)) ((2 * P : Nat) : Int) 0 0 s else some (-1, s) := by
  intro k
  induction k with
  | zero =>
    intro n j hj hkn
    obtain ⟨n, rfl⟩ : ∃ n', n = n' + 1 := ⟨n - 1, by omega⟩
    rw [l_R_who_L32_eq, if_neg (by omega), show ff (fun j => decide (3 < T (2 * j))) j 0 = -1 from rfl, if_pos rfl]; rfl
  | succ k ih =>
    intro n j hj hkn
    obtain ⟨n, rfl⟩ : ∃ n', n = n' + 1 := ⟨n - 1, by omega⟩
    have ih1 := ih n (j + 1) (by omega) (by omega)
    have en : n + 1 - (k + 1 + 1) = n - (k + 1) := by omega
    have e2 : w32 (((2 * j : Nat) : Int) + 2) = ((2 * (j + 1) : Nat) : Int) := by rw [w32_in (by omega) (by omega)]; omega
    rw [en, l_R_who_L32_eq, if_pos (by omega), inR_pos (by omega) (by omega), Int.toNat_natCast, hT, e2]
    by_cases c : 3 < T (2 * j)
    · have hp : (fun j => decide (3 < T (2 * j))) j = true := by simp [c]
      rw [if_pos c, ff_y (p := fun j => decide (3 < T (2 * j))) hp, if_neg (by omega)]
    · have hp : (fun j => decide (3 < T (2 * j))) j = false := by simp [c]
      rw [if_neg c, ff_n (p := fun j => decide (3 < T (2 * j))) hp]; exact ih1
/-- the tape is empty, what to ask may have changed -/
theorem Inv_who {s s2 : mS} (h : Inv s) (h1 : ∀ c, c ≠ 0 → c ≠ 1 → c ≠ 249 → s2.1 c = s.1 c) (h2 : s2.2 = s.2) (h3 : ∀ k, k ≠ 16 → s2.1 0 k = s.1 0 k) (h4 : ∀ k, k ≠ 0 → k ≠ 2 → k ≠ 33 → s2.1 249 k = s.1 249 k) (h5 : s2.1 1 1 = 0) (h6 : s2.1 249 2 = 0) (h7 : s2.1 0 16 = s2.1 249 33) : Inv s2 := by
  obtain ⟨g1, g2, g3, g4, g5, g6, g7, g8, g9, g10⟩ := h
  have e : ∀ c, c ≠ 0 → c ≠ 1 → c ≠ 249 → s2.1 c = s.1 c := h1
  refine ⟨?_, ⟨by rw [h5, h6], by omega, by omega, fun k hk => by rw [e 2 (by omega) (by omega) (by omega), e 250 (by omega) (by omega) (by omega)]; exact g2.2.2.2 k hk⟩, ⟨by rw [h3 _ (by omega), h4 _ (by omega) (by omega) (by omega)]; exact g3.1, by rw [h3 _ (by omega), h4 _ (by omega) (by omega) (by omega)]; exact g3.2.1, h7⟩, pRing_keep g4 (h3 _ (by omega)) (h4 _ (by omega) (by omega) (by omega)) (e _ (by omega) (by omega) (by omega)) (e _ (by omega) (by omega) (by omega)), pTag_keep g5 (h3 _ (by omega)) (h4 _ (by omega) (by omega) (by omega)) (e _ (by omega) (by omega) (by omega)) (e _ (by omega) (by omega) (by omega)), pTold_keep g6 (h3 _ (by omega)) (h4 _ (by omega) (by omega) (by omega)) (e _ (by omega) (by omega) (by omega)) (e _ (by omega) (by omega) (by omega)), pMatch_keep g7 (h4 _ (by omega) (by omega) (by omega)) (e _ (by omega) (by omega) (by omega)) (e _ (by omega) (by omega) (by omega)),
    pImg_keep g8 (fun c _ _ => e c (by omega) (by omega) (by omega)) (fun c _ _ => by rw [h2]) (e _ (by omega) (by omega) (by omega)) (by rw [h2]) (e _ (by omega) (by omega) (by omega)), pImg_keep g9 (fun c _ _ => e c (by omega) (by omega) (by omega)) (fun c _ _ => by rw [h2]) (e _ (by omega) (by omega) (by omega)) (by rw [h2]) (e _ (by omega) (by omega) (by omega)), pPast_keep g10 (e _ (by omega) (by omega) (by omega)) (h4 _ (by omega) (by omega) (by omega)) (fun i _ k _ => by rw [pastRow_keep (s := s) (s' := s2) (e _ (by omega) (by omega) (by omega)) (e _ (by omega) (by omega) (by omega))]) (fun c _ _ => e c (by omega) (by omega) (by omega))⟩
  rw [e 251 (by omega) (by omega) (by omega), h2]
  exact World_keep g1 (fun c _ _ => e c (by omega) (by omega) (by omega)) (fun c _ _ => by rw [h2]) (fun c _ _ => e c (by omega) (by omega) (by omega)) (fun c _ _ => e c (by omega) (by omega) (by omega))
theorem S_who {m : Nat} (hm : 1000 ≤ m) : Sim (f_X_who m) (f_R_who m) := by
  intro s h
  obtain ⟨⟨hW, hr, hS, -, -⟩, ht, hM, -⟩ := id h
  obtain ⟨t1, t2, t3, t4⟩ := id ht
  have w2 := WFv_dead hW.1
  have n1 : ¬ (1 : Int) = 0 := by decide
  -- the class empties its tape; the reference, too
  have inv0 : Inv (wI (wI (wI s 1 1 0) 249 0 0) 249 2 0) := by
    refine Inv_who h (fun c x y z => by rw [wI_ne z, wI_ne z, wI_ne y]) rfl (fun k hk => by rw [wI_ne (by decide), wI_ne (by decide), wI_ne (by decide)]) (fun k x y z => by rw [wI_f y, wI_f x, wI_ne (by decide)]) (by rw [wI_ne (by decide), wI_ne (by decide), wI_at]) wI_at ?_
    rw [wI_ne (by decide), wI_ne (by decide), wI_ne (by decide), wI_f (by decide), wI_f (by decide), wI_ne (by decide)]; exact hM.2.2
  have take : ∀ u : mS, f_R_take m (wI u 249 0 0) = some (u.1 249 2, wI (wI u 249 0 0) 249 2 0) := fun u => by rw [f_R_take_eq, th_f _ _ (by decide)]
  by_cases cg : 2 ≤ s.1 249 2 ∧ s.1 249 2 ≤ 12 ∧ Int.tmod (s.1 249 2) 2 = 0
  · obtain ⟨P, hP⟩ : ∃ P : Nat, s.1 249 2 = ((2 * P : Nat) : Int) := by
      have e := Int.tmod_eq_emod_of_nonneg (b := 2) t2
      exact ⟨(s.1 249 2).toNat / 2, by omega⟩
    have hP6 : P ≤ 6 := by omega
    have hP1 : 1 ≤ P := by omega
    have hs1 : SR (wI s 1 1 0) 17 (s.1 251) := SR_keep hS (fun c _ _ => wI_ne (by omega))
    have hr1 : VR (wI s 1 1 0) 4 (s.1 251) := VR_keep hr (fun c _ _ => wI_ne (by omega))
    have hu1 : (wI s 1 1 0).1 2 = s.1 2 := wI_ne (by decide)
    have all : f_Vs_allDead m (wI s 1 1 0) = some (((mk (fun d => tp (s.1 251) (s.1 250) d 0) (s.1 251 2).toNat : Nat) : Int), wI s 1 1 0) := by
      obtain ⟨q, hq⟩ : ∃ q : Nat, s.1 251 2 = (q : Int) := ⟨(s.1 251 2).toNat, by omega⟩
      have ev : mk (fun d => tp (s.1 251) (s.1 250) d 0) q = 2 ^ q - 1 := by
        apply Nat.eq_of_testBit_eq
        intro i
        rw [mk_bit, Nat.testBit_two_pow_sub_one]
        show (decide (i < q) && true) = _
        simp
      have pl := pow31 (n := q) (by omega)
      have pp : 0 < 2 ^ q := Nat.pow_pos (by omega)
      rw [f_Vs_allDead_eq, VR4_dead hr1, hq, bshl_nat (by omega), Int.toNat_natCast, ev, w32_in (by omega) (by omega)]
      refine congrArg (fun z => some (z, wI s 1 1 0)) ?_
      omega
    have q1 := C_whoL ht hW hm hs1 hr1 hu1 P hP6 P m 0 (by omega) (by omega)
    rw [show ((2 * 0 : Nat) : Int) = 0 from rfl] at q1
    have hX : f_X_who m s = l_X_who_L48 m m ((2 * P : Nat) : Int) ((mk (fun d => tp (s.1 251) (s.1 250) d 0) (s.1 251 2).toNat : Nat) : Int) 0 (wI s 1 1 0) := by
      rw [f_X_who_eq, t1, if_neg (by omega), if_neg (by omega), if_pos cg.2.2, all, Option.bind_some, hP]
    rw [q1] at hX
    have hR : ∀ u : mS, u.1 249 2 = s.1 249 2 → u.1 250 = s.1 250 → f_R_who m u = if ff (fun j => decide (3 < s.1 250 (2 * j))) 0 P = -1 then l_R_who_L59 m (m - (P + 1)) ((2 * P : Nat) : Int) 0 0 (wI (wI u 249 0 0) 249 2 0) else some (-1, wI (wI u 249 0 0) 249 2 0) := by
      intro u hu hu5
      have ed : w32 (Int.tdiv (s.1 249 2) 2) = (P : Int) := by
        have : Int.tdiv (s.1 249 2) 2 = (P : Int) := by rw [Int.tdiv_eq_ediv_of_nonneg t2]; omega
        rw [this, w32_in (by omega) (by omega)]
      rw [f_R_who_eq, take, Option.bind_some, hu, if_pos cg.2.2, ed, R_isIn, Option.bind_some]
      simp only [if_pos (show (1 : Int) ≤ (P : Int) ∧ (P : Int) ≤ 6 from ⟨by omega, by omega⟩), n1, if_false]
      have b := R_badL (s := wI (wI u 249 0 0) 249 2 0) (T := s.1 250) (by rw [wI_ne (by decide), wI_ne (by decide)]; exact hu5) m P hP6 P m 0 (by omega) (by omega)
      rw [show ((2 * 0 : Nat) : Int) = 0 from rfl] at b
      rw [hP]; exact b
    by_cases cb : ff (fun j => decide (3 < s.1 250 (2 * j))) 0 P = -1
    · rw [if_pos cb] at hX
      have set : ∀ u : mS, u.1 251 = s.1 251 → u.1 250 = s.1 250 → l_R_who_L59 m (m - (P + 1)) ((2 * P : Nat) : Int) 0 0 (wI (wI u 249 0 0) 249 2 0) = if mk (fun d => tp (s.1 251) (s.1 250) d P) (s.1 251 2).toNat = 0 then some (0, wI (wI u 249 0 0) 249 2 0) else l_R_who_L103 m (m - (P + 1) - ((s.1 251 2).toNat + 1)) ((mk (fun d => tp (s.1 251) (s.1 250) d P) (s.1 251 2).toNat : Nat) : Int) 1 (wI (wI (wI u 249 0 0) 249 2 0) 249 33 0) := fun u hu hu5 => by
        have b := R_setL (s := wI (wI u 249 0 0) 249 2 0) (A := s.1 251) (T := s.1 250) (by rw [wI_ne (by decide), wI_ne (by decide)]; exact hu) (by rw [wI_ne (by decide), wI_ne (by decide)]; exact hu5) hW hm P hP6 (s.1 251 2).toNat (m - (P + 1)) 0 (by omega) (by omega)
        rw [show ((mk (fun d => tp (s.1 251) (s.1 250) d P) 0 : Nat) : Int) = 0 from rfl, show ((0 : Nat) : Int) = 0 from rfl] at b
        exact b
      have lS : mk (fun d => tp (s.1 251) (s.1 250) d P) (s.1 251 2).toNat < 4096 := Nat.lt_of_lt_of_le (mk_lt _ _) (Nat.pow_le_pow_right (n := 2) (by omega) (show (s.1 251 2).toNat ≤ 12 from by omega))
      generalize mk (fun d => tp (s.1 251) (s.1 250) d P) (s.1 251 2).toNat = S at hX set lS
      by_cases c0 : S = 0
      · rw [if_pos c0] at hX
        refine ⟨0, wI s 1 1 0, _, hX, ?_, inv0⟩
        rw [hR _ (by rw [wI_ne (by decide)]) (by rw [wI_ne (by decide)]), if_pos cb, set _ (by rw [wI_ne (by decide)]) (by rw [wI_ne (by decide)]), if_pos c0]
      · rw [if_neg c0] at hX
        obtain ⟨n9, hn9⟩ : ∃ n9, m - (P + 1) - ((s.1 251 2).toNat + 1) = n9 + 1 + 1 + 1 + 1 := ⟨m - (P + 1) - ((s.1 251 2).toNat + 1) - 4, by omega⟩
        generalize hav : am (grA (s.1 251) S 0 (s.1 251 2).toNat) (grA (s.1 251) S 1 (s.1 251 2).toNat) (grA (s.1 251) S 2 (s.1 251 2).toNat) (grA (s.1 251) S 3 (s.1 251 2).toNat) = av at hX
        have e51 : (wI (wI s 1 1 0) 0 16 av).1 251 = s.1 251 := by rw [wI_ne (by decide), wI_ne (by decide)]
        have e50 : (wI (wI s 1 1 0) 0 16 av).1 250 = s.1 250 := by rw [wI_ne (by decide), wI_ne (by decide)]
        have e49 : (wI (wI s 1 1 0) 0 16 av).1 249 2 = s.1 249 2 := by rw [wI_ne (by decide), wI_ne (by decide)]
        have rb := R_best (s := wI (wI (wI (wI s 1 1 0) 0 16 av) 249 0 0) 249 2 0) (A := s.1 251) (by rw [wI_ne (by decide), wI_ne (by decide)]; exact e51) hW hm lS n9
        rw [hav] at rb
        refine ⟨_, _, _, hX, by rw [hR _ e49 e50, if_pos cb, set _ e51 e50, if_neg c0, hn9, rb], ?_⟩
        refine Inv_who h (fun c x y z => by rw [wI_ne z, wI_ne z, wI_ne z, wI_ne x, wI_ne y]) rfl (fun k hk => by rw [wI_ne (by decide), wI_ne (by decide), wI_ne (by decide), wI_f hk, wI_ne (by decide)]) (fun k x y z => by rw [wI_f z, wI_f y, wI_f x, wI_ne (by decide), wI_ne (by decide)]) ?_ ?_ ?_
        · rw [wI_ne (by decide), wI_ne (by decide), wI_ne (by decide), wI_ne (by decide), wI_at]
        · rw [wI_f (by decide), wI_at]
        · rw [wI_ne (by decide), wI_ne (by decide), wI_ne (by decide), wI_at, wI_at]
    · rw [if_neg cb] at hX
      refine ⟨-1, wI s 1 1 0, _, hX, ?_, inv0⟩
      rw [hR _ (by rw [wI_ne (by decide)]) (by rw [wI_ne (by decide)]), if_neg cb]
  · refine ⟨-1, wI s 1 1 0, wI (wI (wI s 1 1 0) 249 0 0) 249 2 0, ?_, ?_, inv0⟩
    · rw [f_X_who_eq, t1]
      by_cases c1 : s.1 249 2 < 2
      · rw [if_pos c1]
      · rw [if_neg c1]
        by_cases c2 : 12 < s.1 249 2
        · rw [if_pos c2]
        · rw [if_neg c2, if_neg (fun hh => cg ⟨by omega, by omega, hh⟩)]
    · rw [f_R_who_eq, take, Option.bind_some, wI_ne (by decide)]
      by_cases c1 : Int.tmod (s.1 249 2) 2 = 0
      · have hb : 0 ≤ Int.tdiv (s.1 249 2) 2 ∧ Int.tdiv (s.1 249 2) 2 = s.1 249 2 / 2 := by
          rw [Int.tdiv_eq_ediv_of_nonneg t2]; exact ⟨by omega, rfl⟩
        have e := Int.tmod_eq_emod_of_nonneg (b := 2) t2
        rw [if_pos c1, R_isIn, Option.bind_some]
        have ew : w32 (Int.tdiv (s.1 249 2) 2) = Int.tdiv (s.1 249 2) 2 := w32_in (by omega) (by omega)
        simp only [ew]
        clear ew
        have c2 : ¬ (1 ≤ Int.tdiv (s.1 249 2) 2 ∧ Int.tdiv (s.1 249 2) 2 ≤ 6) := by
          intro hh; apply cg; exact ⟨by omega, by omega, c1⟩
        simp only [if_neg c2, if_true]
      · rw [if_neg c1]
