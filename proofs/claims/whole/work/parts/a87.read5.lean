/-! ===== layer 3: reading (5): asks, kin, a line of a vestry ===== -/
theorem itb {c : Prop} [Decidable c] (A B : Option (Int × mS)) (f : Int × mS → Option (Int × mS)) : (if c then A.bind f else B.bind f) = (if c then A else B).bind f := by split <;> rfl
theorem V_asks {m : Nat} (hm : 10000 ≤ m) {a : Int} {s u : mS} (h : TokG a s u) (hf : FV s u) (k2 : s.1 1 2 = 2) : Pst FV (a + 1) s u (f_Vs_readAsks m s) (f_R_readAsks m u) := by
  have W0 := WFv_boxes hf.1
  have W2 := WFv_dead hf.1
  have ha := h.2.1
  obtain ⟨s1, u1, r1, r2, r3, r4, r5, _⟩ := T_adv hm h (by omega) (by omega)
  have f1 := FV_keep hf r4 r5
  have A1 : u1.1 252 = u.1 252 := r5.1 252 (by decide)
  have cD : s1.1 219 2 = u1.1 252 2 := f1.2.1.2.2.1
  rw [f_Vs_readAsks_eq, f_R_readAsks_eq, r1, Option.bind_some, r2, Option.bind_some]
  dsimp only
  rw [f_Vs_seeDead_219_1_eq, cD]
  rcases T_see_225 hm r3 (u1.1 252 2) (by rw [A1]; omega) (by rw [A1]; omega) (fun k hk => f1.2.2.1.2.2 k hk) with ⟨k, kl, k3, q1, q2⟩ | ⟨s2, u2, q1, q2, q3, q4, q5⟩
  rotate_left
  · rw [q1, Option.bind_some, Option.bind_some, q2, Option.bind_some]
    exact ⟨0, s2, u2, rfl, rfl, KC_trans (KC_of r4) (KC_of q4), KR_trans (KR_of r5) (KR_of q5), Or.inr ⟨rfl, q3⟩⟩
  rw [A1] at kl
  rw [q1, Option.bind_some, Option.bind_some, q2, Option.bind_some]
  dsimp only
  have vr := f1.2.1.2.2.2.2.2.2.2.2.1 k (by rw [A1]; exact kl)
  have wf := f1.1.2.2.2.2.2.2.2.2.1 k (by rw [A1]; exact kl)
  rw [if_neg (show ¬ ((k : Nat) : Int) = -1 from by omega), if_neg (show ¬ (1 : Int) = 0 from by decide), wI_at]
  have e65 : w32 ((65 : Int) + (k : Int)) = ((65 + k : Nat) : Int) := w32n 65 k (by omega) (by omega)
  rw [e65]
  clear e65
  rw [inR_pos (i := (k : Int)) (by omega) (by omega), inR_pos (i := ((65 + k : Nat) : Int)) (by omega) (by omega), Int.toNat_natCast, Int.toNat_natCast, wI_ne (show (252 : Nat) ≠ 249 by decide)]
  have g1 := TokG_told r3 (k : Int)
  have E1 : s1.1 229 k = u1.1 252 (65 + k) - 1 := vr.2.2.2
  by_cases cf : u1.1 252 (65 + k) = 0
  · rw [if_pos (show s1.1 229 k = -1 from by omega), if_neg (show ¬ 0 < u1.1 252 (65 + k) from by omega)]
    obtain ⟨s2, u2, t1, t2, t3, t4, t5, _⟩ := T_adv hm g1 (by omega) (by omega)
    have f2 := FV_keep f1 t4 (RF_trans (RF_w (by omega)) t5)
    have A2 : u2.1 252 = u.1 252 := by rw [t5.1 252 (by decide), wI_ne (by decide), A1]
    have kc2 : KC s s2 := KC_trans (KC_of r4) (KC_of t4)
    have kr2 : KR u u2 := KR_trans (KR_of r5) (KR_trans (KR_of (RF_w (by omega))) (KR_of t5))
    have cB : s2.1 219 0 = u2.1 252 0 := f2.2.1.1
    rw [t1, Option.bind_some, t2, Option.bind_some]
    dsimp only
    rw [f_Vs_takeBox_219_1_eq, cB]
    rcases T_see_220 hm t3 (u2.1 252 0) (by rw [A2]; omega) (by rw [A2]; omega) (fun j hj => by rw [Nat.zero_add]; exact f2.2.2.1.1 j hj) with ⟨j, jl, j3, p1, p2⟩ | ⟨s3, u3, p1, p2, p3, p4, p5⟩
    rotate_left
    · rw [p1, Option.bind_some]
      dsimp only
      rw [if_pos rfl, Option.bind_some, p2, Option.bind_some]
      dsimp only
      rw [if_pos rfl, inR_pos (by omega) (by omega), inR_pos (by omega) (by omega), wI_at, if_pos rfl]
      exact ⟨0, _, _, rfl, rfl, KC_trans kc2 (KC_trans (KC_of p4) (KC_w (by omega) (by omega))), KR_trans kr2 (KR_of p5), Or.inr ⟨rfl, Flt_w p3 (by decide)⟩⟩
    rw [A2] at jl
    rw [p1, Option.bind_some]
    dsimp only
    rw [if_neg (show ¬ ((j : Nat) : Int) = -1 from by omega), p2, Option.bind_some]
    dsimp only
    rw [if_neg (show ¬ (1 : Int) = 0 from by decide), wI_at, w32_in (x := (j : Int) + 1) (by omega) (by omega)]
    rw [inR_pos (i := ((65 + k : Nat) : Int)) (by omega) (by omega)]
    have g2 : TokG (a + 1 + 1) s2 (wI (wI u2 249 13 (j : Int)) 252 (65 + k) ((j : Int) + 1)) := TokG_cg (TokG_told t3 (j : Int)) rfl rfl rfl (fun x _ => by rw [wI_ne (by decide)]) (wI_ne (by decide)) rfl
    obtain ⟨s3, u3, z1, z2, z3, z4, z5, _⟩ := T_adv hm g2 (by omega) (by omega)
    rw [z1, Option.bind_some, Option.bind_some, z2, Option.bind_some]
    dsimp only
    rw [inR_pos (by omega) (by omega), inR_pos (by omega) (by omega), wI_at, if_neg (show ¬ ((j : Nat) : Int) = -1 from by omega)]
    refine ⟨1, _, _, rfl, rfl, KC_trans kc2 (KC_trans (KC_of z4) (KC_w (by omega) (by omega))), KR_trans kr2 (KR_trans (KR_of (RF_w (k := 13) (by omega))) (KR_trans (KR_w (by omega)) (KR_of z5))), Or.inl ⟨rfl, ?_, ?_⟩⟩
    · exact TokG_mono (TokG_cg z3 (wI_ne (by decide)) (wI_ne (by decide)) rfl (fun _ _ => rfl) rfl rfl) (by omega) (by omega)
    · refine FV_asks hf (n := k) (y := (j : Int)) kl ⟨by omega, jl⟩ ?_ wI_at (fun x _ => ?_) ?_ (fun c x c1 c2 c3 => ?_) (fun c x c1 c2 => ?_) (fun x hx => ?_)
      · rw [z5.1 252 (by decide), wI_at]
      · rw [z5.2.1 258 (by decide), wI_2, wI_2, t5.2.1 258 (by decide), wI_2, r5.2.1 258 (by decide)]
      · rw [z5.2.2 24 (by omega), wI_ne (by decide), wI_f (by decide), t5.2.2 24 (by omega), wI_f (by decide), r5.2.2 24 (by omega)]
      · rw [wI_1, if_neg c3, z4.1 c (by omega), t4.1 c (by omega), r4.1 c (by omega)]
      · rw [wI_2, z4.2.1 c (by omega), t4.2.1 c (by omega), r4.2.1 c (by omega)]
      · rw [z5.1 252 (by decide), wI_f hx, wI_ne (by decide), A2]
  · rw [if_neg (show ¬ s1.1 229 k = -1 from by omega), if_pos (show 0 < u1.1 252 (65 + k) from by omega)]
    obtain ⟨s2, u2, t1, t2, t3, t4, t5⟩ := T_fail m g1.1 (kc := 3) (kr := 3) (by rw [if_neg (by omega)]) (by decide)
    rw [t1, t2]
    exact ⟨0, s2, u2, rfl, rfl, KC_trans (KC_of r4) (KC_of t4), KR_trans (KR_of r5) (KR_trans (KR_of (RF_w (by omega))) (KR_of t5)), Or.inr ⟨rfl, t3⟩⟩
theorem V_kin {m : Nat} (hm : 10000 ≤ m) {a : Int} {s u : mS} (h : TokG a s u) (hf : FV s u) (k2 : s.1 1 2 = 2) : Pst FV (a + 1) s u (if s.1 219 3 < 12 then f_Vs_readKin m s else f_Tp_fail m 4 s) (f_R_readKin m u) := by
  have W2 := WFv_dead hf.1
  have W3 := hf.1.2.2.2.1
  have ha := h.2.1
  have c3 : s.1 219 3 = u.1 252 3 := hf.2.1.2.2.2.1
  rw [f_R_readKin_eq, f_R_readFirst_eq, inR_pos (by omega) (by omega), show ((3 : Int)).toNat = 3 from rfl]
  by_cases cf : u.1 252 3 < 12
  · rw [if_pos (show s.1 219 3 < 12 from by omega), if_neg (show ¬ u.1 252 3 = 12 from by omega), f_Vs_readKin_eq]
    obtain ⟨s1, u1, r1, r2, r3, r4, r5, _⟩ := T_adv hm h (by omega) (by omega)
    have f1 := FV_keep hf r4 r5
    have A1 : u1.1 252 = u.1 252 := r5.1 252 (by decide)
    have cD : s1.1 219 2 = u1.1 252 2 := f1.2.1.2.2.1
    rw [r1, Option.bind_some, r2, Option.bind_some, Option.bind_some]
    dsimp only
    rw [if_neg (show ¬ (1 : Int) = 0 from by decide), f_Vs_takeDead_219_1_eq, cD]
    rcases T_see_225 hm r3 (u1.1 252 2) (by rw [A1]; omega) (by rw [A1]; omega) (fun k hk => f1.2.2.1.2.2 k hk) with ⟨k, kl, k3, q1, q2⟩ | ⟨s2, u2, q1, q2, q3, q4, q5⟩
    rotate_left
    · rw [q1, Option.bind_some]
      dsimp only
      rw [if_pos rfl, Option.bind_some, q2, Option.bind_some]
      exact ⟨0, s2, u2, rfl, rfl, KC_trans (KC_of r4) (KC_of q4), KR_trans (KR_of r5) (KR_of q5), Or.inr ⟨rfl, q3⟩⟩
    rw [A1] at kl
    rw [q1, Option.bind_some]
    dsimp only
    rw [if_neg (show ¬ ((k : Nat) : Int) = -1 from by omega), q2, Option.bind_some]
    dsimp only
    rw [if_neg (show ¬ (1 : Int) = 0 from by decide)]
    obtain ⟨s2, u2, t1, t2, t3, t4, t5, _⟩ := T_adv hm (TokG_told r3 (k : Int)) (by omega) (by omega)
    have f2 := FV_keep f1 t4 (RF_trans (RF_w (by omega)) t5)
    have A2 : u2.1 252 = u.1 252 := by rw [t5.1 252 (by decide), wI_ne (by decide), A1]
    have kc2 : KC s s2 := KC_trans (KC_of r4) (KC_of t4)
    have kr2 : KR u u2 := KR_trans (KR_of r5) (KR_trans (KR_of (RF_w (by omega))) (KR_of t5))
    have cD2 : s2.1 219 2 = u2.1 252 2 := f2.2.1.2.2.1
    rw [t1, Option.bind_some, Option.bind_some, t2, Option.bind_some]
    dsimp only
    rw [if_neg (show ¬ ((k : Nat) : Int) = -1 from by omega), f_Vs_seeDead_219_1_eq, cD2, wI_at]
    rcases T_see_225 hm t3 (u2.1 252 2) (by rw [A2]; omega) (by rw [A2]; omega) (fun j hj => f2.2.2.1.2.2 j hj) with ⟨j, jl, j3, p1, p2⟩ | ⟨s3, u3, p1, p2, p3, p4, p5⟩
    rotate_left
    · rw [p1, Option.bind_some, Option.bind_some, p2, Option.bind_some]
      exact ⟨0, s3, u3, rfl, rfl, KC_trans kc2 (KC_of p4), KR_trans kr2 (KR_of p5), Or.inr ⟨rfl, p3⟩⟩
    rw [A2] at jl
    rw [p1, Option.bind_some, Option.bind_some, p2, Option.bind_some]
    dsimp only
    rw [if_neg (show ¬ ((j : Nat) : Int) = -1 from by omega), if_neg (show ¬ (1 : Int) = 0 from by decide), wI_at]
    have g2 := TokG_told t3 (j : Int)
    obtain ⟨sf, uf, x1, x2, x3, x4, x5⟩ := T_fail m g2.1 (kc := 3) (kr := 3) (by rw [if_neg (by omega)]) (by decide)
    have kf : KR u uf := KR_trans kr2 (KR_trans (KR_of (RF_w (by omega))) (KR_of x5))
    by_cases ce : k = j
    · rw [if_pos (show (k : Int) = (j : Int) from by omega), if_pos (show (j : Int) = (k : Int) from by omega), x1, x2]
      exact ⟨0, sf, uf, rfl, rfl, KC_trans kc2 (KC_of x4), kf, Or.inr ⟨rfl, x3⟩⟩
    rw [if_neg (show ¬ (k : Int) = (j : Int) from by omega), if_neg (show ¬ (j : Int) = (k : Int) from by omega)]
    have e53 : w32 ((53 : Int) + (k : Int)) = ((53 + k : Nat) : Int) := w32n 53 k (by omega) (by omega)
    rw [e53]
    clear e53
    have vk := (f2.2.1.2.2.2.2.2.2.2.2.1 k (by rw [A2]; exact kl)).2.2.1
    have vj := (f2.2.1.2.2.2.2.2.2.2.2.1 j (by rw [A2]; exact jl)).2.2.1
    have wk := f2.1.2.2.2.2.2.2.2.2.1 k (by rw [A2]; exact kl)
    have wj := f2.1.2.2.2.2.2.2.2.2.1 j (by rw [A2]; exact jl)
    obtain ⟨x, hx⟩ : ∃ x : Nat, u2.1 252 (53 + k) = (x : Int) := ⟨(u2.1 252 (53 + k)).toNat, by omega⟩
    obtain ⟨y, hy⟩ : ∃ y : Nat, u2.1 252 (53 + j) = (y : Int) := ⟨(u2.1 252 (53 + j)).toNat, by omega⟩
    have x4096 : x < 4096 := by omega
    have y4096 : y < 4096 := by omega
    have hxs : s2.1 228 k = (x : Int) := by rw [← hx]; exact vk
    have hys : s2.1 228 j = (y : Int) := by rw [← hy]; exact vj
    rw [f_Vs_areKin_219_eq, if_neg (show ¬ ((j : Nat) : Int) = -1 from by omega), inR_pos (i := (k : Int)) (by omega) (by omega), Int.toNat_natCast k, hxs, bit_nat (by omega) (by omega), inR_pos (i := ((53 + k : Nat) : Int)) (by omega) (by omega), Int.toNat_natCast (53 + k), wI_ne (show (252 : Nat) ≠ 249 by decide), hx, R_has m _ (by omega) (by omega), Option.bind_some]
    dsimp only
    by_cases tb : x.testBit j = true
    · rw [if_pos tb, if_neg (show ¬ (1 : Int) = 0 from by decide), Option.bind_some]
      dsimp only
      rw [if_neg (show ¬ (1 : Int) = 0 from by decide), if_neg (show ¬ (1 : Int) = 0 from by decide), x1, x2]
      exact ⟨0, sf, uf, rfl, rfl, KC_trans kc2 (KC_of x4), kf, Or.inr ⟨rfl, x3⟩⟩
    rw [if_neg tb, if_pos rfl, Option.bind_some]
    dsimp only
    rw [if_pos rfl, if_pos rfl, wI_at, wI_ne (show (252 : Nat) ≠ 249 by decide), hx, bshl_nat (by omega), bor_nat (by omega) (Nat.pow_lt_pow_right (by decide) (show j < 31 by omega))]
    have e53j : ∀ t : mS, t.1 249 13 = (j : Int) → w32 ((53 : Int) + t.1 249 13) = ((53 + j : Nat) : Int) := fun t ht => by rw [ht]; exact w32n 53 j (by omega) (by omega)
    rw [e53j _ (by rw [wI_ne (by decide), wI_at])]
    clear e53j
    rw [inR_pos (i := ((53 + k : Nat) : Int)) (by omega) (by omega), inR_pos (i := ((53 + k : Nat) : Int)) (by omega) (by omega), inR_pos (i := ((53 + j : Nat) : Int)) (by omega) (by omega), inR_pos (i := ((53 + j : Nat) : Int)) (by omega) (by omega), Int.toNat_natCast (53 + j)]
    have pj : 2 ^ j < 4096 := Nat.pow_lt_pow_right (by decide) (show j < 12 by omega)
    have pk : 2 ^ k < 4096 := Nat.pow_lt_pow_right (by decide) (show k < 12 by omega)
    have xb : (x ||| 2 ^ j) < 2 ^ 12 := Nat.or_lt_two_pow (by omega) (by omega)
    have yb : (y ||| 2 ^ k) < 2 ^ 12 := Nat.or_lt_two_pow (by omega) (by omega)
    generalize hX : x ||| 2 ^ j = X at xb ⊢
    have yv : (wI (wI u2 249 13 (j : Int)) 252 (53 + k) (X : Int)).1 252 (53 + j) = (y : Int) := by rw [wI_f (by omega), wI_ne (by decide)]; exact hy
    rw [yv, bshl_nat (by omega), bor_nat (by omega) (by omega)]
    generalize hY : y ||| 2 ^ k = Y at yb ⊢
    have c33 : (wI (wI (wI u2 249 13 (j : Int)) 252 (53 + k) (X : Int)) 252 (53 + j) (Y : Int)).1 252 3 = u.1 252 3 := by rw [wI_f (by omega), wI_f (by omega), wI_ne (by decide), A2]
    rw [c33, w32_in (x := u.1 252 3 + 1) (by omega) (by omega)]
    have g3 : TokG (a + 1 + 1) s2 (wI (wI (wI (wI u2 249 13 (j : Int)) 252 (53 + k) (X : Int)) 252 (53 + j) (Y : Int)) 252 3 (u.1 252 3 + 1)) := TokG_cg g2 rfl rfl rfl (fun x _ => by rw [wI_ne (by decide), wI_ne (by decide), wI_ne (by decide)]) (by rw [wI_ne (by decide), wI_ne (by decide), wI_ne (by decide)]) rfl
    obtain ⟨s3, u3, z1, z2, z3, z4, z5, _⟩ := T_adv hm g3 (by omega) (by omega)
    have hxs3 : s3.1 228 k = (x : Int) := by rw [z4.1 228 (by decide)]; exact hxs
    have hys3 : (wI s3 228 k (X : Int)).1 228 j = (y : Int) := by rw [wI_f (by omega), z4.1 228 (by decide)]; exact hys
    have c3s : (wI (wI s3 228 k (X : Int)) 228 j (Y : Int)).1 219 3 = u.1 252 3 := by rw [wI_ne (by decide), wI_ne (by decide), z4.1 219 (by decide), t4.1 219 (by decide), r4.1 219 (by decide)]; exact c3
    rw [z1, Option.bind_some, z2, Option.bind_some]
    dsimp only
    rw [inR_pos (i := (k : Int)) (by omega) (by omega), inR_pos (i := (k : Int)) (by omega) (by omega), inR_pos (i := (j : Int)) (by omega) (by omega), inR_pos (i := (j : Int)) (by omega) (by omega), Int.toNat_natCast j, hxs3, bor_nat (by omega) (by omega), hX, hys3, bor_nat (by omega) (by omega), hY, c3s, w32_in (x := u.1 252 3 + 1) (by omega) (by omega)]
    refine ⟨1, _, _, rfl, rfl, KC_trans kc2 (KC_trans (KC_of z4) (KC_trans (KC_trans (KC_w (by omega) (by omega)) (KC_w (by omega) (by omega))) (KC_w (by omega) (by omega)))), KR_trans kr2 (KR_trans (KR_of (RF_w (k := 13) (by omega))) (KR_trans (KR_trans (KR_trans (KR_w (by omega)) (KR_w (by omega))) (KR_w (by omega))) (KR_of z5))), Or.inl ⟨rfl, ?_, ?_⟩⟩
    · exact TokG_mono (TokG_cg z3 (by rw [wI_ne (by decide), wI_ne (by decide), wI_ne (by decide)]) (by rw [wI_ne (by decide), wI_ne (by decide), wI_ne (by decide)]) rfl (fun _ _ => rfl) rfl rfl) (by omega) (by omega)
    · have uk : (u.1 252 (53 + k)).toNat = x := by rw [← A2, hx]; rfl
      have uj : (u.1 252 (53 + j)).toNat = y := by rw [← A2, hy]; rfl
      refine FV_kin hf (d := k) (e := j) (n := u.1 252 3) (y1 := (X : Int)) (y2 := (Y : Int)) kl jl ce rfl cf ⟨by omega, by omega⟩ ⟨by omega, by omega⟩ (fun i hi => ?_) (fun i hi => ?_) ?_ ?_ ?_ wI_at ?_ ?_ (fun x _ => ?_) ?_ (fun c x c1 c2 c3 c4 c5 => ?_) (fun c x c1 c2 => ?_) (fun x h1 h2 h3 => ?_)
      · rw [Int.toNat_natCast, ← hX, Nat.testBit_or, Bool.or_eq_true] at hi
        rw [uk]
        rcases hi with q | q
        · exact Or.inl q
        · rw [Nat.testBit_two_pow] at q; right; exact (of_decide_eq_true q).symm
      · rw [Int.toNat_natCast, ← hY, Nat.testBit_or, Bool.or_eq_true] at hi
        rw [uj]
        rcases hi with q | q
        · exact Or.inl q
        · rw [Nat.testBit_two_pow] at q; right; exact (of_decide_eq_true q).symm
      · rw [z5.1 252 (by decide), wI_at]
      · rw [z5.1 252 (by decide), wI_f (by omega), wI_f (by omega), wI_at]
      · rw [z5.1 252 (by decide), wI_f (by omega), wI_at]
      · rw [wI_ne (by decide), wI_f (by omega), wI_at]
      · rw [wI_ne (by decide), wI_at]
      · rw [z5.2.1 258 (by decide), wI_2, wI_2, wI_2, wI_2, t5.2.1 258 (by decide), wI_2, r5.2.1 258 (by decide)]
      · rw [z5.2.2 24 (by omega), wI_ne (by decide), wI_ne (by decide), wI_ne (by decide), wI_f (by decide), t5.2.2 24 (by omega), wI_f (by decide), r5.2.2 24 (by omega)]
      · rw [wI_1, if_neg c3, wI_1, if_neg c5, wI_1, if_neg c4, z4.1 c (by omega), t4.1 c (by omega), r4.1 c (by omega)]
      · rw [wI_2, wI_2, wI_2, z4.2.1 c (by omega), t4.2.1 c (by omega), r4.2.1 c (by omega)]
      · rw [z5.1 252 (by decide), wI_f h1, wI_f h3, wI_f h2, wI_ne (by decide), A2]
  · obtain ⟨s', u', r1, r2, r3, r4, r5⟩ := T_fail m h.1 (kc := 4) (kr := 4) (by rw [if_neg (by omega)]) (by decide)
    rw [if_neg (show ¬ s.1 219 3 < 12 from by omega), if_pos (show u.1 252 3 = 12 from by omega), r1, r2]
    exact ⟨0, s', u', rfl, rfl, KC_of r4, KR_of r5, Or.inr ⟨rfl, r3⟩⟩
