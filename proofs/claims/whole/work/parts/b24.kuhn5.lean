/-! ===== layer 3: match (5): the reference's table ===== -/
theorem R_canLend {m : Nat} {u : mS} {A : Row} (hu : u.1 251 = A) (hW : WF A) {d b : Nat} (hd : (d : Int) < A 2) (hb : (b : Int) < A 0) : f_R_canLend m (d : Int) (b : Int) u = some (if whyLend A d b = 0 then 1 else 0, u) := by
  have W0 := WFv_boxes hW.1
  have W2 := WFv_dead hW.1
  have hx := WFs_box hW.2.1 hb
  have e1 : w32 (164 + (d : Int)) = ((164 + d : Nat) : Int) := w32n 164 d (by omega) (by omega)
  rw [f_R_canLend_eq, e1]
  clear e1
  have e1 : w32 (86 + (b : Int)) = ((86 + b : Nat) : Int) := w32n 86 b (by omega) (by omega)
  rw [e1]
  clear e1
  have e1 : w32 (15 + (b : Int)) = ((15 + b : Nat) : Int) := w32n 15 b (by omega) (by omega)
  rw [e1]
  clear e1
  rw [inR_pos (i := ((164 + d : Nat) : Int)) (by omega) (by omega), Int.toNat_natCast (164 + d), hu]
  unfold whyLend
  by_cases c1 : A (164 + d) = 1
  · rw [if_pos c1, if_pos c1, R_free hu m (by omega), Option.bind_some]
    dsimp only
    by_cases c2 : freeA A b = true
    · rw [if_pos c2, if_pos c2, if_neg (by decide), R_fits hu m (by omega) (by omega), Option.bind_some]
      dsimp only
      by_cases c3 : A (6 + b) < A (29 + d)
      · rw [if_pos c3, if_pos c3, if_pos rfl, if_neg (by decide)]
      · rw [if_neg c3, if_neg c3, if_neg (by decide), inR_pos (by omega) (by omega), inR_pos (by omega) (by omega), hu, Int.toNat_natCast, Int.toNat_natCast]
        by_cases c4 : A (86 + b) = A (15 + b)
        · rw [if_pos c4, if_neg (by omega), if_neg (by decide)]
        · rw [if_neg c4, if_pos (by omega), if_pos rfl]
    · rw [if_neg c2, if_neg c2, if_pos rfl, if_neg (by decide)]
  · rw [if_neg c1, if_neg c1, if_neg (by decide)]
theorem bst_cut (C : Nat → Nat) (T : Nat → Nat) (j S b : Nat) (h : ∀ k, b ≤ k → (C j).testBit k = false) : ∀ t, bst C T j S (b + t) = bst C T j S b
  | 0 => rfl
  | t + 1 => by rw [show b + (t + 1) = b + t + 1 from by omega, bst, if_neg (by rw [h (b + t) (by omega)]; intro q; cases q.1), bst_cut C T j S b h t]
theorem lb_cut {p : Nat → Bool} {N : Nat} (h : ∀ k, N ≤ k → p k = false) : ∀ e t b, b + e = N → lb p (e + t) b = lb p e b
  | 0, 0, b, hb => rfl
  | 0, t + 1, b, hb => by
    have : ∀ t b, N ≤ b → lb p t b = none := by
      intro t
      induction t with
      | zero => intro b _; rfl
      | succ t ih => intro b hb; rw [lb, h b hb, if_neg (by decide)]; exact ih (b + 1) (by omega)
    rw [show 0 + (t + 1) = t + 1 from by omega, this (t + 1) b (by omega)]; rfl
  | e + 1, t, b, hb => by rw [show e + 1 + t = e + t + 1 from by omega, lb, lb, lb_cut h e t (b + 1) (by omega)]
theorem ix512 {d S : Nat} (hd : d ≤ 12) (hS : S < 512) : w32 (w32 (512 * (d : Int)) + (S : Int)) = ((512 * d + S : Nat) : Int) := by
  rw [w32_in (x := 512 * (d : Int)) (by omega) (by omega), w32_in (by omega) (by omega)]; omega
/-- a row of the table -/
def tab (C : Nat → Nat) (N d : Nat) (u : mS) : Prop := ∀ S, S < 512 → u.1 261 (512 * d + S) = ((mxM C (N - d) d S : Nat) : Int)
theorem or512 {S b : Nat} (hS : S < 512) (hb : b < 9) : (S ||| 2 ^ b) < 512 := by
  have p9 : 2 ^ b < 2 ^ 9 := Nat.pow_lt_pow_right (by decide) hb
  have := Nat.or_lt_two_pow (n := 9) (x := S) (y := 2 ^ b) (by omega) (by omega)
  omega
theorem R_mostL {m : Nat} {u : mS} {A : Row} (hu : u.1 251 = A) (hW : WF A) {N d S : Nat} (hN : A 2 = (N : Int)) (hd : d < N) (hS : S < 512) (ht : tab (Cm A) N (d + 1) u) : ∀ (e n b : Nat), (b : Int) + e = A 0 → e + 1 ≤ n → l_R_mostOf_L18 m n (d : Int) (S : Int) ((bst (Cm A) (fun S' => mxM (Cm A) (N - (d + 1)) (d + 1) S') d S b : Nat) : Int) (b : Int) u = some (((bst (Cm A) (fun S' => mxM (Cm A) (N - (d + 1)) (d + 1) S') d S (b + e) : Nat) : Int), u)
  | 0, n, b, hb, hn => by
    obtain ⟨n, rfl⟩ : ∃ g, n = g + 1 := ⟨n - 1, by omega⟩
    rw [l_R_mostOf_L18_eq, hu, if_neg (by omega)]; rfl
  | e + 1, n, b, hb, hn => by
    obtain ⟨n, rfl⟩ : ∃ g, n = g + 1 := ⟨n - 1, by omega⟩
    have W0 := WFv_boxes hW.1
    have W2 := WFv_dead hW.1
    have o := or512 hS (b := b) (by omega)
    have p9 : 2 ^ b < 2 ^ 9 := Nat.pow_lt_pow_right (by decide) (by omega)
    have ml := mx_le (Cm A) (N - (d + 1)) (d + 1) (S ||| 2 ^ b)
    have cb := Cm_bit (A := A) (j := d) (by omega) b
    rw [decide_eq_true (show b < (A 0).toNat by omega), Bool.true_and] at cb
    rw [l_R_mostOf_L18_eq, hu, if_pos (by omega), R_has m u (by omega) (by omega), Option.bind_some, show b + (e + 1) = b + 1 + e from by omega]
    dsimp only
    rw [w32_in (x := (b : Int) + 1) (by omega) (by omega), show (b : Int) + 1 = ((b + 1 : Nat) : Int) from by omega]
    have ih := R_mostL (m := m) hu hW hN hd hS ht e n (b + 1) (by omega) (by omega)
    rw [bst] at ih
    by_cases c1 : S.testBit b = true
    · rw [if_pos c1, if_neg (by decide)]
      rw [if_neg (by rw [c1]; intro q; cases q.2)] at ih
      exact ih
    · have c1' : S.testBit b = false := by cases w : S.testBit b with
        | false => rfl
        | true => exact absurd w c1
      rw [if_neg c1, if_pos rfl, R_canLend hu hW (by omega) (by omega), Option.bind_some]
      dsimp only
      by_cases c2 : whyLend A d b = 0
      · rw [if_pos c2, if_neg (by decide), bshl_nat (by omega), bor_nat (by omega) (by omega), w32_in (x := (d : Int) + 1) (by omega) (by omega), show (d : Int) + 1 = ((d + 1 : Nat) : Int) from by omega, ix512 (by omega) o, inR_pos (by omega) (by omega), Int.toNat_natCast, ht _ o, w32_in (by omega) (by omega)]
        rw [if_pos ⟨by rw [cb]; exact decide_eq_true c2, c1'⟩] at ih
        by_cases c3 : ((bst (Cm A) (fun S' => mxM (Cm A) (N - (d + 1)) (d + 1) S') d S b : Nat) : Int) < 1 + ((mxM (Cm A) (N - (d + 1)) (d + 1) (S ||| 2 ^ b) : Nat) : Int)
        · rw [if_pos c3]
          rw [show max (bst (Cm A) (fun S' => mxM (Cm A) (N - (d + 1)) (d + 1) S') d S b) (1 + mxM (Cm A) (N - (d + 1)) (d + 1) (S ||| 2 ^ b)) = 1 + mxM (Cm A) (N - (d + 1)) (d + 1) (S ||| 2 ^ b) from by omega] at ih
          exact ih
        · rw [if_neg c3]
          rw [show max (bst (Cm A) (fun S' => mxM (Cm A) (N - (d + 1)) (d + 1) S') d S b) (1 + mxM (Cm A) (N - (d + 1)) (d + 1) (S ||| 2 ^ b)) = bst (Cm A) (fun S' => mxM (Cm A) (N - (d + 1)) (d + 1) S') d S b from by omega] at ih
          exact ih
      · rw [if_neg c2, if_pos rfl]
        rw [if_neg (by rw [cb, decide_eq_false c2]; intro q; cases q.1)] at ih
        exact ih
theorem Cm_hi {A : Row} {d : Nat} (hd : (d : Int) < A 2) : ∀ k, (A 0).toNat ≤ k → (Cm A d).testBit k = false := by
  intro k hk; rw [Cm_bit hd, decide_eq_false (by omega)]; rfl
theorem R_mostOf {m : Nat} (hm : 100 ≤ m) {u : mS} {A : Row} (hu : u.1 251 = A) (hW : WF A) {N d S : Nat} (hN : A 2 = (N : Int)) (hd : d < N) (hS : S < 512) (ht : tab (Cm A) N (d + 1) u) : f_R_mostOf m (d : Int) (S : Int) u = some (((mxM (Cm A) (N - d) d S : Nat) : Int), u) := by
  have W0 := WFv_boxes hW.1
  have W2 := WFv_dead hW.1
  have q := R_mostL (m := m) hu hW hN hd hS ht (A 0).toNat m 0 (by omega) (by omega)
  have e : mxM (Cm A) (N - d) d S = bst (Cm A) (fun S' => mxM (Cm A) (N - (d + 1)) (d + 1) S') d S 9 := by rw [show N - d = N - (d + 1) + 1 from by omega]; rfl
  rw [Nat.zero_add, ← bst_cut (Cm A) _ d S (A 0).toNat (Cm_hi (by omega)) (9 - (A 0).toNat), show (A 0).toNat + (9 - (A 0).toNat) = 9 from by omega, ← e] at q
  rw [f_R_mostOf_eq, w32_in (x := (d : Int) + 1) (by omega) (by omega), show (d : Int) + 1 = ((d + 1 : Nat) : Int) from by omega, ix512 (by omega) hS, inR_pos (by omega) (by omega), Int.toNat_natCast, ht S hS]
  exact q
def FT (u u' : mS) : Prop := (∀ c, c ≠ 261 → u'.1 c = u.1 c) ∧ u'.2 = u.2
theorem R_tab50 {m : Nat} (hm : 100 ≤ m) {A : Row} (hW : WF A) {N d : Nat} (hN : A 2 = (N : Int)) (hd : d < N) : ∀ (e n S : Nat) (u : mS), S + e = 512 → e + 1 ≤ n → u.1 251 = A → tab (Cm A) N (d + 1) u → ∃ n' u', l_R_match_L50 m n (N : Int) (d : Int) (S : Int) u = l_R_match_L44 m n' (N : Int) ((d : Int) - 1) u' ∧ n = n' + e + 1 ∧ FT u u' ∧ (∀ S', S ≤ S' → S' < 512 → u'.1 261 (512 * d + S') = ((mxM (Cm A) (N - d) d S' : Nat) : Int)) ∧ (∀ k, k < 512 * d + S ∨ 512 * (d + 1) ≤ k → u'.1 261 k = u.1 261 k)
  | 0, n, S, u, hS, hn, hu, ht => by
    obtain ⟨n, rfl⟩ : ∃ g, n = g + 1 := ⟨n - 1, by omega⟩
    have W2 := WFv_dead hW.1
    refine ⟨n, u, ?_, by omega, ⟨fun _ _ => rfl, rfl⟩, fun S' h1 h2 => by omega, fun _ _ => rfl⟩
    rw [l_R_match_L50_eq, if_neg (by omega), w32_in (by omega) (by omega)]; rfl
  | e + 1, n, S, u, hS, hn, hu, ht => by
    obtain ⟨n, rfl⟩ : ∃ g, n = g + 1 := ⟨n - 1, by omega⟩
    have W2 := WFv_dead hW.1
    rw [l_R_match_L50_eq, if_pos (by omega), R_mostOf hm hu hW hN hd (by omega) ht, Option.bind_some]
    dsimp only
    rw [ix512 (by omega) (by omega), inR_pos (by omega) (by omega), Int.toNat_natCast, w32_in (x := (S : Int) + 1) (by omega) (by omega), show (S : Int) + 1 = ((S + 1 : Nat) : Int) from by omega]
    obtain ⟨n', u', r1, r2, r3, r4, r5⟩ := R_tab50 hm hW hN hd e n (S + 1) (wI u 261 (512 * d + S) ((mxM (Cm A) (N - d) d S : Nat) : Int)) (by omega) (by omega) (by rw [wI_ne (by decide)]; exact hu) (fun S' h => by rw [wI_f (by omega)]; exact ht S' h)
    refine ⟨n', u', r1, by omega, ⟨fun c hc => by rw [r3.1 c hc, wI_ne hc], r3.2⟩, fun S' h1 h2 => ?_, fun k hk => by rw [r5 k (by omega), wI_f (by omega)]⟩
    by_cases q : S' = S
    · rw [q, r5 _ (by omega), wI_at]
    · exact r4 S' (by omega) h2
theorem R_tab44 {m : Nat} (hm : 100 ≤ m) {A : Row} (hW : WF A) {N : Nat} (hN : A 2 = (N : Int)) : ∀ (d n : Nat) (u : mS), d ≤ N → 520 * d + 1 ≤ n → u.1 251 = A → (∀ j, d ≤ j → j ≤ N → tab (Cm A) N j u) → ∃ n' u', l_R_match_L44 m n (N : Int) ((d : Int) - 1) u = l_R_match_L91 m n' (N : Int) 0 0 u' ∧ n ≤ n' + 520 * d + 1 ∧ FT u u' ∧ (∀ j, j ≤ N → tab (Cm A) N j u')
  | 0, n, u, hd, hn, hu, ht => by
    obtain ⟨n, rfl⟩ : ∃ g, n = g + 1 := ⟨n - 1, by omega⟩
    refine ⟨n, u, ?_, by omega, ⟨fun _ _ => rfl, rfl⟩, fun j hj => ht j (by omega) hj⟩
    rw [l_R_match_L44_eq, if_pos (by omega)]
  | d + 1, n, u, hd, hn, hu, ht => by
    obtain ⟨n, rfl⟩ : ∃ g, n = g + 1 := ⟨n - 1, by omega⟩
    rw [l_R_match_L44_eq, if_neg (by omega), show ((d + 1 : Nat) : Int) - 1 = (d : Int) from by omega]
    obtain ⟨n1, u1, r1, r2, r3, r4, r5⟩ := R_tab50 (m := m) hm hW hN (d := d) (by omega) 512 n 0 u (by omega) (by omega) hu (ht (d + 1) (by omega) (by omega))
    rw [show ((0 : Nat) : Int) = 0 from rfl] at r1
    obtain ⟨n', u', w1, w2, w3, w4⟩ := R_tab44 hm hW hN d n1 u1 (by omega) (by omega) (by rw [r3.1 251 (by decide)]; exact hu) (fun j h1 h2 S hS => by
      by_cases q : j = d
      · rw [q]; exact r4 S (by omega) hS
      · rw [r5 _ (by omega)]; exact ht j (by omega) h2 S hS)
    exact ⟨n', u', by rw [r1, w1], by omega, ⟨fun c hc => by rw [w3.1 c hc, r3.1 c hc], by rw [w3.2, r3.2]⟩, w4⟩
theorem R_tab14 (m : Nat) {N : Nat} (hN : N ≤ 12) : ∀ (e n S : Nat) (u : mS), S + e = 512 → e + 1 ≤ n → ∃ n' u', l_R_match_L14 m n (N : Int) (S : Int) u = l_R_match_L44 m n' (N : Int) ((N : Int) - 1) u' ∧ n = n' + e + 1 ∧ FT u u' ∧ (∀ S', S ≤ S' → S' < 512 → u'.1 261 (512 * N + S') = 0) ∧ (∀ k, k < 512 * N + S → u'.1 261 k = u.1 261 k)
  | 0, n, S, u, hS, hn => by
    obtain ⟨n, rfl⟩ : ∃ g, n = g + 1 := ⟨n - 1, by omega⟩
    refine ⟨n, u, ?_, by omega, ⟨fun _ _ => rfl, rfl⟩, fun S' h1 h2 => by omega, fun _ _ => rfl⟩
    rw [l_R_match_L14_eq, if_neg (by omega), w32_in (by omega) (by omega)]
  | e + 1, n, S, u, hS, hn => by
    obtain ⟨n, rfl⟩ : ∃ g, n = g + 1 := ⟨n - 1, by omega⟩
    rw [l_R_match_L14_eq, if_pos (by omega), ix512 hN (by omega), inR_pos (by omega) (by omega), Int.toNat_natCast, w32_in (x := (S : Int) + 1) (by omega) (by omega), show (S : Int) + 1 = ((S + 1 : Nat) : Int) from by omega]
    obtain ⟨n', u', r1, r2, r3, r4, r5⟩ := R_tab14 m hN e n (S + 1) (wI u 261 (512 * N + S) 0) (by omega) (by omega)
    refine ⟨n', u', r1, by omega, ⟨fun c hc => by rw [r3.1 c hc, wI_ne hc], r3.2⟩, fun S' h1 h2 => ?_, fun k hk => by rw [r5 k (by omega), wI_f (by omega)]⟩
    by_cases q : S' = S
    · rw [q, r5 _ (by omega), wI_at]
    · exact r4 S' (by omega) h2
def oi (o : Option Nat) : Int := match o with
  | some b => (b : Int)
  | none => -1
theorem R_boxL {m : Nat} {u : mS} {A : Row} (hu : u.1 251 = A) (hW : WF A) {N d g : Nat} (hN : A 2 = (N : Int)) (hd : d < N) (hg : g < 512) (ht : ∀ j, j ≤ N → tab (Cm A) N j u) : ∀ (e n b : Nat), (b : Int) + e = A 0 → e + 1 ≤ n → l_R_boxFor_L2 m n (d : Int) (g : Int) (b : Int) u = some (oi (lb (bp (Cm A) d g) e b), u)
  | 0, n, b, hb, hn => by
    obtain ⟨n, rfl⟩ : ∃ g, n = g + 1 := ⟨n - 1, by omega⟩
    rw [l_R_boxFor_L2_eq, hu, if_neg (by omega)]; rfl
  | e + 1, n, b, hb, hn => by
    obtain ⟨n, rfl⟩ : ∃ g, n = g + 1 := ⟨n - 1, by omega⟩
    have W0 := WFv_boxes hW.1
    have W2 := WFv_dead hW.1
    have o := or512 hg (b := b) (by omega)
    have p9 : 2 ^ b < 2 ^ 9 := Nat.pow_lt_pow_right (by decide) (by omega)
    have Cz : ∀ i, N ≤ i → Cm A i = 0 := fun i hi => by unfold Cm; rw [if_neg (by omega)]
    have m1 : mxM (Cm A) (11 - d) (d + 1) (g ||| 2 ^ b) = mxM (Cm A) (N - (d + 1)) (d + 1) (g ||| 2 ^ b) := by
      rw [show 11 - d = N - (d + 1) + (12 - N) from by omega]
      exact mx_none (Cm A) _ _ _ _ (fun i hi => Cz i (by omega))
    have m2 : mxM (Cm A) (12 - d) d g = mxM (Cm A) (N - d) d g := by
      rw [show 12 - d = N - d + (12 - N) from by omega]
      exact mx_none (Cm A) _ _ _ _ (fun i hi => Cz i (by omega))
    have ml := mx_le (Cm A) (N - (d + 1)) (d + 1) (g ||| 2 ^ b)
    have cb := Cm_bit (A := A) (j := d) (by omega) b
    rw [decide_eq_true (show b < (A 0).toNat by omega), Bool.true_and] at cb
    rw [l_R_boxFor_L2_eq, hu, if_pos (by omega), R_has m u (by omega) (by omega), Option.bind_some]
    dsimp only
    rw [w32_in (x := (b : Int) + 1) (by omega) (by omega), show (b : Int) + 1 = ((b + 1 : Nat) : Int) from by omega, lb]
    have ih := R_boxL (m := m) hu hW hN hd hg ht e n (b + 1) (by omega) (by omega)
    have bpv : bp (Cm A) d g b = (decide (whyLend A d b = 0) && (!g.testBit b && decide (1 + mxM (Cm A) (N - (d + 1)) (d + 1) (g ||| 2 ^ b) = mxM (Cm A) (N - d) d g))) := by unfold bp; rw [cb, m1, m2]
    by_cases c1 : g.testBit b = true
    · rw [if_pos c1, if_neg (by decide), bpv, c1, if_neg (by cases decide (whyLend A d b = 0) <;> (intro q; cases q))]
      exact ih
    · have c1' : g.testBit b = false := by cases w : g.testBit b with
        | false => rfl
        | true => exact absurd w c1
      rw [if_neg c1, if_pos rfl, R_canLend hu hW (by omega) (by omega), Option.bind_some]
      dsimp only
      by_cases c2 : whyLend A d b = 0
      · rw [if_pos c2, if_neg (by decide), bshl_nat (by omega), bor_nat (by omega) (by omega), w32_in (x := (d : Int) + 1) (by omega) (by omega), show (d : Int) + 1 = ((d + 1 : Nat) : Int) from by omega, ix512 (by omega) o, ix512 (by omega) hg, inR_pos (by omega) (by omega), inR_pos (by omega) (by omega), Int.toNat_natCast, Int.toNat_natCast, ht (d + 1) (by omega) _ o, ht d (by omega) _ hg, w32_in (by omega) (by omega)]
        by_cases c3 : 1 + ((mxM (Cm A) (N - (d + 1)) (d + 1) (g ||| 2 ^ b) : Nat) : Int) = ((mxM (Cm A) (N - d) d g : Nat) : Int)
        · rw [if_pos c3, bpv, c1', decide_eq_true c2, decide_eq_true (by omega), if_pos (by decide)]; rfl
        · rw [if_neg c3, bpv, decide_eq_false (show ¬ 1 + mxM (Cm A) (N - (d + 1)) (d + 1) (g ||| 2 ^ b) = mxM (Cm A) (N - d) d g by omega), if_neg (by cases decide (whyLend A d b = 0) <;> cases g.testBit b <;> decide)]
          exact ih
      · rw [if_neg c2, if_pos rfl, bpv, decide_eq_false c2, if_neg (by intro q; cases q)]
        exact ih
theorem R_boxFor {m : Nat} (hm : 100 ≤ m) {u : mS} {A : Row} (hu : u.1 251 = A) (hW : WF A) {N d g : Nat} (hN : A 2 = (N : Int)) (hd : d < N) (hg : g < 512) (ht : ∀ j, j ≤ N → tab (Cm A) N j u) : f_R_boxFor m (d : Int) (g : Int) u = some (oi (bx (Cm A) d g), u) := by
  have W0 := WFv_boxes hW.1
  have q := R_boxL (m := m) hu hW hN hd hg ht (A 0).toNat m 0 (by omega) (by omega)
  have e : bx (Cm A) d g = lb (bp (Cm A) d g) (A 0).toNat 0 := by
    unfold bx
    have := lb_cut (p := bp (Cm A) d g) (N := (A 0).toNat) (fun k hk => by unfold bp; rw [Cm_hi (by omega) k hk]; rfl) (A 0).toNat (9 - (A 0).toNat) 0 (by omega)
    rw [show (A 0).toNat + (9 - (A 0).toNat) = 9 from by omega] at this
    exact this
  rw [f_R_boxFor_eq, e]
  exact q
theorem R_ch {m : Nat} (hm : 100 ≤ m) {A : Row} (hW : WF A) {N : Nat} (hN : A 2 = (N : Int)) : ∀ (e n d : Nat) (u : mS), d + e = N → e + 1 ≤ n → u.1 251 = A → (∀ j, j ≤ N → tab (Cm A) N j u) → ∃ u', l_R_match_L91 m n (N : Int) ((gn (Cm A) d : Nat) : Int) (d : Int) u = some (((mxM (Cm A) N 0 0 : Nat) : Int), u') ∧ (∀ j, d ≤ j → j < N → u'.1 262 j = vl (Cm A) j) ∧ (∀ j, j < d → u'.1 262 j = u.1 262 j) ∧ u'.1 249 28 = (N : Int) ∧ (∀ k, k ≠ 28 → u'.1 249 k = u.1 249 k) ∧ (∀ c, c ≠ 249 → c ≠ 262 → u'.1 c = u.1 c) ∧ u'.2 = u.2
  | 0, n, d, u, hd, hn, hu, ht => by
    obtain ⟨n, rfl⟩ : ∃ g, n = g + 1 := ⟨n - 1, by omega⟩
    refine ⟨wI u 249 28 (N : Int), ?_, fun j h1 h2 => by omega, fun j _ => by rw [wI_ne (by decide)], wI_at, fun k hk => wI_f hk, fun c h1 _ => wI_ne h1, rfl⟩
    have q := ht 0 (by omega) 0 (by omega)
    rw [show 512 * 0 + 0 = 0 from rfl, Nat.sub_zero] at q
    rw [l_R_match_L91_eq, if_neg (by omega), wI_ne (by decide), q]
  | e + 1, n, d, u, hd, hn, hu, ht => by
    obtain ⟨n, rfl⟩ : ∃ g, n = g + 1 := ⟨n - 1, by omega⟩
    have W2 := WFv_dead hW.1
    have gl := gn_lt (Cm A) d
    rw [l_R_match_L91_eq, if_pos (by omega), R_boxFor hm hu hW hN (by omega) gl ht, Option.bind_some]
    dsimp only
    rw [inR_pos (by omega) (by omega), inR_pos (by omega) (by omega), Int.toNat_natCast, wI_at, w32_in (x := (d : Int) + 1) (by omega) (by omega), show (d : Int) + 1 = ((d + 1 : Nat) : Int) from by omega]
    have tail : ∀ (v : Int), v = vl (Cm A) d → ∃ u', l_R_match_L91 m n (N : Int) ((gn (Cm A) (d + 1) : Nat) : Int) ((d + 1 : Nat) : Int) (wI u 262 d v) = some (((mxM (Cm A) N 0 0 : Nat) : Int), u') ∧ (∀ j, d ≤ j → j < N → u'.1 262 j = vl (Cm A) j) ∧ (∀ j, j < d → u'.1 262 j = u.1 262 j) ∧ u'.1 249 28 = (N : Int) ∧ (∀ k, k ≠ 28 → u'.1 249 k = u.1 249 k) ∧ (∀ c, c ≠ 249 → c ≠ 262 → u'.1 c = u.1 c) ∧ u'.2 = u.2 := by
      intro v hv'
      obtain ⟨u', r1, r2, r3, r4, r5, r6, r7⟩ := R_ch hm hW hN e n (d + 1) (wI u 262 d v) (by omega) (by omega) (by rw [wI_ne (by decide)]; exact hu) (fun j hj S hS => by rw [wI_ne (by decide)]; exact ht j hj S hS)
      refine ⟨u', r1, fun j h1 h2 => ?_, fun j hj => by rw [r3 j (by omega), wI_f (by omega)], r4, fun k hk => by rw [r5 k hk, wI_ne (by decide)], fun c h1 h2 => by rw [r6 c h1 h2, wI_ne h2], r7⟩
      by_cases q : j = d
      · rw [q, r3 d (by omega), wI_at, hv']
      · exact r2 j (by omega) h2
    cases w : bx (Cm A) d (gn (Cm A) d) with
    | none =>
      have eg : gn (Cm A) (d + 1) = gn (Cm A) d := by rw [gn, w]
      have t := tail (-1) (by unfold vl; rw [w])
      rw [eg] at t
      rw [show oi none = -1 from rfl, if_pos rfl]
      exact t
    | some b =>
      have bl := (lb_some 9 0 b w).2.1
      have p9 : 2 ^ b < 2 ^ 9 := Nat.pow_lt_pow_right (by decide) (by omega)
      have eg : gn (Cm A) (d + 1) = gn (Cm A) d ||| 2 ^ b := by rw [gn, w]
      have t := tail (b : Int) (by unfold vl; rw [w])
      rw [eg] at t
      rw [show oi (some b) = (b : Int) from rfl, if_neg (by omega), inR_pos (by omega) (by omega), bshl_nat (by omega), bor_nat (by omega) (by omega)]
      exact t
theorem R_match {m : Nat} (hm : 10000 ≤ m) {u : mS} {A : Row} (hu : u.1 251 = A) (hW : WF A) {N : Nat} (hN : A 2 = (N : Int)) : ∃ u', f_R_match m u = some (((mxM (Cm A) N 0 0 : Nat) : Int), u') ∧ (∀ j, j < N → u'.1 262 j = vl (Cm A) j) ∧ u'.1 249 28 = (N : Int) ∧ (∀ k, k ≠ 0 → k ≠ 28 → u'.1 249 k = u.1 249 k) ∧ (∀ c, c ≠ 249 → c ≠ 261 → c ≠ 262 → u'.1 c = u.1 c) ∧ u'.2 = u.2 := by
  have W2 := WFv_dead hW.1
  have hu0 : (wI u 249 0 0).1 251 = A := by rw [wI_ne (by decide)]; exact hu
  obtain ⟨n1, u1, r1, r2, r3, r4, r5⟩ := R_tab14 m (N := N) (by omega) 512 m 0 (wI u 249 0 0) (by omega) (by omega)
  obtain ⟨n2, u2, q1, q2, q3, q4⟩ := R_tab44 (m := m) (by omega) hW hN N n1 u1 (by omega) (by omega) (by rw [r3.1 251 (by decide)]; exact hu0) (fun j h1 h2 S hS => by
    have : j = N := by omega
    subst this
    rw [r4 S (by omega) hS, Nat.sub_self]; rfl)
  obtain ⟨u3, w1, w2, w3, w4, w5, w6, w7⟩ := R_ch (m := m) (by omega) hW hN N n2 0 u2 (by omega) (by omega) (by rw [q3.1 251 (by decide), r3.1 251 (by decide)]; exact hu0) q4
  refine ⟨u3, ?_, fun j hj => w2 j (by omega) hj, w4, fun k k0 k1 => by rw [w5 k k1, q3.1 249 (by decide), r3.1 249 (by decide), wI_f k0], fun c c1 c2 c3 => by rw [w6 c c1 c3, q3.1 c c2, r3.1 c c2, wI_ne c1], by rw [w7, q3.2, r3.2]; rfl⟩
  rw [f_R_match_eq, hu0, hN]
  rw [show ((0 : Nat) : Int) = 0 from rfl] at r1 w1
  rw [r1, q1]
  rw [show ((gn (Cm A) 0 : Nat) : Int) = 0 from rfl] at w1
  exact w1
theorem S_match {m : Nat} (hm : 10000 ≤ m) : Sim (f_X_match m) (f_R_match m) := by
  intro s h
  have h' := h
  obtain ⟨g1, g2, g3, g4, g5, g6, g7, g8, g9, g10⟩ := h'
  have W2 := WFv_dead g1.1.1
  obtain ⟨N, hN⟩ : ∃ N : Nat, s.1 251 2 = (N : Int) := ⟨(s.1 251 2).toNat, by omega⟩
  obtain ⟨s1, r1, r2, r3, r4⟩ := C_match hm g1.2.2.1 g1.2.1 g1.1
  obtain ⟨u, q1, q2, q3, q4, q5, q6⟩ := R_match hm (u := s1) (A := s.1 251) (r3 251 (by decide) (by decide) (by decide) (by decide)) g1.1 hN
  have Cz : ∀ i, N ≤ i → Cm (s.1 251) i = 0 := fun i hi => by unfold Cm; rw [if_neg (by omega)]
  have em : mxM (Cm (s.1 251)) 12 0 0 = mxM (Cm (s.1 251)) N 0 0 := by
    have := mx_none (Cm (s.1 251)) N 0 0 (12 - N) (fun i hi => Cz i (by omega))
    rw [show N + (12 - N) = 12 from by omega] at this
    exact this
  refine ⟨((mxM (Cm (s.1 251)) N 0 0 : Nat) : Int), s1, u, by rw [r1, em], q1, ?_⟩
  have E : ∀ c, ¬ (241 ≤ c ∧ c ≤ 244) → c ≠ 249 → c ≠ 261 → c ≠ 262 → u.1 c = s.1 c := fun c a1 a2 a3 a4 => by rw [q5 c a2 a3 a4, r3 c (by omega) (by omega) (by omega) (by omega)]
  have E9 : ∀ k, k ≠ 0 → k ≠ 28 → u.1 249 k = s.1 249 k := fun k k0 k1 => by rw [q4 k k0 k1, r3 249 (by decide) (by decide) (by decide) (by decide)]
  have E2 : u.2 = s.2 := by rw [q6, r4]
  have e0 : u.1 0 = s.1 0 := E 0 (by omega) (by omega) (by omega) (by omega)
  refine ⟨?_, pTape_keep g2 (by rw [E 1 (by omega) (by omega) (by omega) (by omega)]) (E _ (by omega) (by omega) (by omega) (by omega)) (E9 2 (by omega) (by omega)) (E _ (by omega) (by omega) (by omega) (by omega)), pMisc_keep g3 (by rw [e0]) (by rw [e0]) (by rw [e0]) (E9 _ (by omega) (by omega)) (E9 _ (by omega) (by omega)) (E9 _ (by omega) (by omega)), pRing_keep g4 (by rw [e0]) (E9 _ (by omega) (by omega)) (E _ (by omega) (by omega) (by omega) (by omega)) (E _ (by omega) (by omega) (by omega) (by omega)), pTag_keep g5 (by rw [e0]) (E9 _ (by omega) (by omega)) (E _ (by omega) (by omega) (by omega) (by omega)) (E _ (by omega) (by omega) (by omega) (by omega)), pTold_keep g6 (by rw [e0]) (E9 _ (by omega) (by omega)) (E _ (by omega) (by omega) (by omega) (by omega)) (E _ (by omega) (by omega) (by omega) (by omega)), ⟨by rw [q3]; omega, by rw [q3]; omega, fun k hk => ?_⟩,
    pImg_keep g8 (fun c _ _ => E c (by omega) (by omega) (by omega) (by omega)) (fun c _ _ => by rw [E2]) (E _ (by omega) (by omega) (by omega) (by omega)) (by rw [E2]) (E _ (by omega) (by omega) (by omega) (by omega)), pImg_keep g9 (fun c _ _ => E c (by omega) (by omega) (by omega) (by omega)) (fun c _ _ => by rw [E2]) (E _ (by omega) (by omega) (by omega) (by omega)) (by rw [E2]) (E _ (by omega) (by omega) (by omega) (by omega)), pPast_keep g10 (E _ (by omega) (by omega) (by omega) (by omega)) (E9 25 (by omega) (by omega)) (fun i _ k _ => by rw [pastRow_keep (s := s) (s' := u) (E _ (by omega) (by omega) (by omega) (by omega)) (E _ (by omega) (by omega) (by omega) (by omega))]) (fun c _ _ => E c (by omega) (by omega) (by omega) (by omega))⟩
  · rw [E 251 (by omega) (by omega) (by omega) (by omega), E2]
    exact World_keep g1 (fun c _ _ => E c (by omega) (by omega) (by omega) (by omega)) (fun c _ _ => by rw [E2]) (fun c _ _ => E c (by omega) (by omega) (by omega) (by omega)) (fun c _ _ => E c (by omega) (by omega) (by omega) (by omega))
  · have e242 : u.1 242 = s1.1 242 := q5 242 (by decide) (by decide) (by decide)
    rw [e242, r2 k hk, q3]
    by_cases c : (k : Int) < (N : Int)
    · rw [if_pos c, q2 k (by omega)]
    · rw [if_neg c]
      unfold vl
      have : bx (Cm (s.1 251)) k (gn (Cm (s.1 251)) k) = none := by
        cases w : bx (Cm (s.1 251)) k (gn (Cm (s.1 251)) k) with
        | none => rfl
        | some b =>
          have z := (lb_some 9 0 b w).2.2
          unfold bp at z
          rw [Cz k (by omega), Nat.zero_testBit] at z
          cases z
      rw [this]
