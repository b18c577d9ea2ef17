/-! ===== layer 3: said, put together ===== -/
theorem gk_tail {f : Nat → Bool} {k : Int} (hk : k ≠ -1) : ∀ (e j : Nat) (c : Int), (∀ i, j ≤ i → f i = false) → gk f k e j c = -1
  | 0, j, c, _ => by rw [gk, if_neg hk]
  | e + 1, j, c, h => by rw [gk, h j (by omega), if_neg (by decide)]; exact gk_tail hk e (j + 1) c (fun i hi => h i (by omega))
theorem gk_cut {f : Nat → Bool} {k : Int} (hk : k ≠ -1) (N : Nat) : ∀ (e t j : Nat) (c : Int), j + e = N → gk (fun i => decide (i < N) && f i) k (e + t) j c = gk f k e j c
  | 0, t, j, c, hj => by
    rw [gk_tail hk _ _ _ (fun i hi => by rw [decide_eq_false (by omega)]; rfl), gk, if_neg hk]
  | e + 1, t, j, c, hj => by
    have ef : (decide (j < N) && f j) = f j := by rw [decide_eq_true (by omega)]; rfl
    rw [show e + 1 + t = e + t + 1 from by omega, gk, gk, ef, gk_cut hk N e t (j + 1) (c + 1) (by omega), gk_cut hk N e t (j + 1) c (by omega)]
theorem gk_all {f : Nat → Bool} : ∀ (e j : Nat) (c : Int), 0 ≤ c → gk f (-1) e j c = c + ((ct f (j + e) : Nat) : Int) - ((ct f j : Nat) : Int)
  | 0, j, c, _ => by rw [gk, if_pos rfl, Nat.add_zero]; omega
  | e + 1, j, c, hc => by
    rw [gk, show j + (e + 1) = j + 1 + e from by omega]
    by_cases b : f j = true
    · rw [if_pos b, if_neg (by omega), gk_all e (j + 1) (c + 1) (by omega), ct_s f j, if_pos b]; omega
    · rw [if_neg b, gk_all e (j + 1) c hc, ct_s f j, if_neg b]; omega
theorem gk_neg {f : Nat → Bool} {k : Int} (hk : k < -1) : ∀ (e j : Nat) (c : Int), 0 ≤ c → gk f k e j c = -1
  | 0, j, c, _ => by rw [gk, if_neg (by omega)]
  | e + 1, j, c, hc => by
    rw [gk, gk_neg hk e (j + 1) (c + 1) (by omega), gk_neg hk e (j + 1) c hc, if_neg (show ¬ c = k by omega)]
    split <;> rfl
theorem C_selL (m : Nat) (s : mS) (S : Nat) (hS : S < 4096) (k : Int) (hk : k ≠ -1) : ∀ (e n j : Nat) (c : Int), j + e = 12 → e + 1 ≤ n → 0 ≤ c → c ≤ j → l_X_said_L60 m n k (S : Int) c (j : Int) s = some (gk (fun i => S.testBit i) k e j c, s)
  | 0, n, j, c, hj, hen, c0, c1 => by
    obtain ⟨n, rfl⟩ : ∃ g, n = g + 1 := ⟨n - 1, by omega⟩
    rw [l_X_said_L60_eq, if_neg (by omega), gk, if_neg hk]
  | e + 1, n, j, c, hj, hen, c0, c1 => by
    obtain ⟨n, rfl⟩ : ∃ g, n = g + 1 := ⟨n - 1, by omega⟩
    rw [l_X_said_L60_eq, if_pos (by omega), bit_nat (by omega) (by omega), gk]
    by_cases b : S.testBit j = true
    · rw [if_pos b, if_neg (by decide), if_pos b]
      by_cases q : c = k
      · rw [if_pos q, if_pos q]
      · rw [if_neg q, if_neg q, w32_in (x := c + 1) (by omega) (by omega), w32_in (x := (j : Int) + 1) (by omega) (by omega), show (j : Int) + 1 = ((j + 1 : Nat) : Int) from by omega]
        exact C_selL m s S hS k hk e n (j + 1) (c + 1) (by omega) (by omega) (by omega) (by omega)
    · rw [if_neg b, if_pos rfl, if_neg b, w32_in (x := (j : Int) + 1) (by omega) (by omega), show (j : Int) + 1 = ((j + 1 : Nat) : Int) from by omega]
      exact C_selL m s S hS k hk e n (j + 1) c (by omega) (by omega) (by omega) (by omega)
theorem Inv_34 {s z : mS} (h : Inv s) (e : ∀ c, c ≠ 34 → z.1 c = s.1 c) (e2 : z.2 = s.2) : Inv z := by
  obtain ⟨g1, g2, g3, g4, g5, g6, g7, g8, g9, g10⟩ := h
  refine ⟨?_, pTape_keep g2 (by rw [e 1 (by decide)]) (e _ (by decide)) (by rw [e 249 (by decide)]) (e _ (by decide)), pMisc_keep g3 (by rw [e 0 (by decide)]) (by rw [e 0 (by decide)]) (by rw [e 0 (by decide)]) (by rw [e 249 (by decide)]) (by rw [e 249 (by decide)]) (by rw [e 249 (by decide)]), pRing_keep g4 (by rw [e 0 (by decide)]) (by rw [e 249 (by decide)]) (e _ (by decide)) (e _ (by decide)), pTag_keep g5 (by rw [e 0 (by decide)]) (by rw [e 249 (by decide)]) (e _ (by decide)) (e _ (by decide)), pTold_keep g6 (by rw [e 0 (by decide)]) (by rw [e 249 (by decide)]) (e _ (by decide)) (e _ (by decide)), pMatch_keep g7 (by rw [e 249 (by decide)]) (e _ (by decide)) (e _ (by decide)),
    pImg_keep g8 (fun c _ _ => e c (by omega)) (fun c _ _ => by rw [e2]) (e _ (by decide)) (by rw [e2]) (e _ (by decide)), pImg_keep g9 (fun c _ _ => e c (by omega)) (fun c _ _ => by rw [e2]) (e _ (by decide)) (by rw [e2]) (e _ (by decide)), pPast_keep g10 (e _ (by decide)) (by rw [e 249 (by decide)]) (fun i _ k _ => by rw [pastRow_keep (s := s) (s' := z) (e _ (by decide)) (e _ (by decide))]) (fun c _ _ => e c (by omega))⟩
  rw [e 251 (by decide), e2]
  exact World_keep g1 (fun c _ _ => e c (by omega)) (fun c _ _ => by rw [e2]) (fun c _ _ => e c (by omega)) (fun c _ _ => e c (by omega))
theorem S_said {m : Nat} (hm : 10000 ≤ m) (a : Int) : Sim (f_X_said m a) (f_R_said m a) := by
  intro s h
  obtain ⟨w1, w2, w3, w4, w5⟩ := h.1
  have W2 := WFv_dead w1.1
  rcases w5 with ⟨q1, q2⟩ | ⟨q1, q2, q3, q4, q5, st, q6, q7⟩
  · refine ⟨-1, s, wI s 249 0 0, by rw [f_X_said_eq, if_pos q2], ?_, Inv_thrown h 0⟩
    rw [f_R_said_eq, if_pos (by rw [wI_ne (by decide)]; exact q1)]
  · obtain ⟨A, hA⟩ : ∃ A, A = s.1 251 := ⟨_, rfl⟩
    rw [← hA] at w1 w2 w3 q1 q5 q6 W2
    obtain ⟨N, hN⟩ : ∃ N : Nat, s.1 30 1 = (N : Int) := ⟨(s.1 30 1).toNat, by omega⟩
    have hpn : ∀ j, j < N → PN (s.1 31) (s.1 32) (s.1 33) A st j := fun j hj => q6 j (by omega)
    have hst : st (N - 1) = 0 := by rw [show N - 1 = (s.1 30 1 - 1).toNat from by omega]; exact q7
    obtain ⟨f, hf⟩ : ∃ f : Nat → Bool, f = fun d => hv (s.1 31) (s.1 32) (s.1 33) A st d N (N - 1) := ⟨_, rfl⟩
    obtain ⟨s1, r1, r2, r3⟩ := C_saidL hm (P := s.1 31) (S := s.1 32) (V := s.1 33) (st := st) (N := N) w1 (by omega) (by omega) hpn hst (fun i => ((mk (fun d => hv (s.1 31) (s.1 32) (s.1 33) A st d (i + 1) i) (A 2).toNat : Nat) : Int)) (fun i _ => rfl) N m 0 0 s (by omega) (by omega) w3 w2 hN rfl rfl rfl rfl
    have eM : mk (fun d => hv (s.1 31) (s.1 32) (s.1 33) A st d (N - 1 + 1) (N - 1)) (A 2).toNat = mk f (A 2).toNat := by rw [hf, show N - 1 + 1 = N from by omega]
    have sd : f_Sn_saidOf m s = some (((mk f (A 2).toNat : Nat) : Int), s1) := by
      rw [f_Sn_saidOf_eq, ← eM]; exact r1
    have mb : mk f (A 2).toNat < 4096 := by
      have l := mk_lt f (A 2).toNat
      have l2 : 2 ^ (A 2).toNat ≤ 2 ^ 12 := Nat.pow_le_pow_right (by omega) (by omega)
      omega
    have I1 := Inv_34 h r2 r3
    have uA : (wI s1 249 0 0).1 251 = A := by rw [wI_ne (by decide), r2 251 (by decide), hA]
    have hold : ∀ d : Nat, (d : Int) < A 2 → f_R_holds m 64 (A 225) (d : Int) (wI s1 249 0 0) = some (if f d = true then 1 else 0, wI s1 249 0 0) := by
      intro d hd
      have q := R_holds (m := m) (by omega) uA w1 hd N (N - 1) 64 (by omega) (by omega) (by omega) (P := s.1 31) (S := s.1 32) (V := s.1 33) (st := st) (fun j hj => hpn j (by omega))
      rw [show A 225 = ((N - 1 : Nat) : Int) from by omega, q, hv_fuel d N (N - 1) 64 N (by omega) (by omega) (by omega) (fun j hj => hpn j (by omega)), hf]
    have hG : f_R_said m a s1 = some (gk f a (A 2).toNat 0 0, wI s1 249 0 0) := by
      rw [f_R_said_eq, uA, if_neg (by omega)]
      exact R_saidL uA f a (by omega) hold (A 2).toNat m 0 0 (by omega) (by omega) (by omega) (by omega)
    have bits : (fun i => (mk f (A 2).toNat).testBit i) = fun i => decide (i < (A 2).toNat) && f i := by funext i; exact mk_bit f _ i
    by_cases c1 : a < -1
    · refine ⟨-1, s, wI s 249 0 0, ?_, ?_, Inv_thrown h 0⟩
      · rw [f_X_said_eq, if_neg (by omega), if_pos c1]
      · have uA' : (wI s 249 0 0).1 251 = A := by rw [wI_ne (by decide), hA]
        have hold' : ∀ d : Nat, (d : Int) < A 2 → f_R_holds m 64 (A 225) (d : Int) (wI s 249 0 0) = some (if f d = true then 1 else 0, wI s 249 0 0) := by
          intro d hd
          have q := R_holds (m := m) (by omega) uA' w1 hd N (N - 1) 64 (by omega) (by omega) (by omega) (P := s.1 31) (S := s.1 32) (V := s.1 33) (st := st) (fun j hj => hpn j (by omega))
          rw [show A 225 = ((N - 1 : Nat) : Int) from by omega, q, hv_fuel d N (N - 1) 64 N (by omega) (by omega) (by omega) (fun j hj => hpn j (by omega)), hf]
        have q := R_saidL uA' f a (by omega) hold' (A 2).toNat m 0 0 (by omega) (by omega) (by omega) (by omega)
        rw [gk_neg c1 _ _ _ (by omega)] at q
        rw [f_R_said_eq, uA', if_neg (by omega)]
        exact q
    · refine ⟨gk f a (A 2).toNat 0 0, s1, wI s1 249 0 0, ?_, hG, Inv_thrown I1 0⟩
      rw [f_X_said_eq, if_neg (by omega), if_neg c1, sd, Option.bind_some]
      dsimp only
      by_cases c2 : a = -1
      · subst c2
        rw [if_pos rfl, C_bitCount, Option.bind_some, bc_ok _ mb, bits, gk_all _ _ _ (by omega), show (12 : Nat) = (A 2).toNat + (12 - (A 2).toNat) from by omega, ct_cut, Nat.zero_add]
        refine congrArg (fun z : Int => some (z, s1)) ?_
        show _ = (0 : Int) + _ - ((ct f 0 : Nat) : Int)
        rw [show ct f 0 = 0 from rfl]; omega
      · rw [if_neg c2]
        have q := C_selL m s1 (mk f (A 2).toNat) mb a c2 12 m 0 0 (by omega) (by omega) (by omega) (by omega)
        rw [bits, show (12 : Nat) = (A 2).toNat + (12 - (A 2).toNat) from by omega, gk_cut c2 (A 2).toNat (A 2).toNat _ 0 0 (by omega)] at q
        exact q
