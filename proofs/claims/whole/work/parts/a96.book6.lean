/-! ===== layer 3: book, put together ===== -/
theorem C_kept {s : mS} {m : Nat} (hm : 1000 ≤ m) {f k : Nat} (hf : s.1 100 1 = (f : Int)) (hk : s.1 100 2 = (k : Int)) (hf8 : f < 8) (hk8 : k ≤ 8) {A : Row} (hS : SR s 17 A) (hv : WFv A) :
    ∃ s', f_Ps_keep_100_17 m s = some (0, s') ∧ SR s' (102 + 13 * ((f + k) % 8)) A ∧ s'.1 100 1 = (if k < 8 then (f : Int) else (((f + 1) % 8 : Nat) : Int)) ∧ s'.1 100 2 = (if k < 8 then (k : Int) + 1 else (k : Int)) ∧ s'.2 = s.2 ∧ ∀ c, c ≠ 100 → ¬ (102 + 13 * ((f + k) % 8) ≤ c ∧ c < 102 + 13 * ((f + k) % 8) + 13) → s'.1 c = s.1 c := by
  have hl : (f + k) % 8 < 8 := Nat.mod_lt _ (by decide)
  have o := cpS_only s (102 + 13 * ((f + k) % 8)) 17
  have q := cpS_SR (x := 102 + 13 * ((f + k) % 8)) hS hv (by omega)
  refine ⟨_, C_keep_17 hm hf hk hf8 hk8, ?_⟩
  by_cases c : k < 8
  · rw [if_pos c, if_pos c, if_pos c]
    refine ⟨SR_keep q (fun c' a b => wI_ne (by omega)), by rw [wI_f (by decide), o.1 100 (by omega)]; exact hf, wI_at, rfl, fun c' h1 h2 => ?_⟩
    rw [wI_ne h1, o.1 c' (by omega)]
  · rw [if_neg c, if_neg c, if_neg c]
    refine ⟨SR_keep q (fun c' a b => wI_ne (by omega)), wI_at, by rw [wI_f (by decide), o.1 100 (by omega)]; exact hk, rfl, fun c' h1 h2 => ?_⟩
    rw [wI_ne h1, o.1 c' (by omega)]
/-- what is told of the judging: the class -/
theorem C_told {m f k' : Nat} (hm : 10000 ≤ m) {w : Int} {s : mS} {A : Row} (hs : SR s 206 A) (hr : VR s 4 A) (hv : WFv A) :
    ∃ S, l_X_judge_L49 m (f + 1) w (k' : Int) s = some ((k' : Int), S) ∧ S.1 248 0 = w ∧ S.1 248 1 = (k' : Int) ∧ S.1 248 2 = A 85 ∧ S.1 248 3 = ((mk (fun d => decide (A (164 + d) = 3)) (A 2).toNat : Nat) : Int) ∧ S.1 0 18 = 1 ∧ (∀ k, k ≠ 18 → S.1 0 k = s.1 0 k) ∧ (∀ c, c ≠ 0 → c ≠ 248 → S.1 c = s.1 c) ∧ S.2 = s.2 := by
  obtain ⟨X, hX⟩ : ∃ X, X = wI (wI (wI s 248 0 w) 248 1 (k' : Int)) 248 2 (A 85) := ⟨_, rfl⟩
  have xc : ∀ c, c ≠ 248 → X.1 c = s.1 c := fun c hc => by rw [hX, wI_ne hc, wI_ne hc, wI_ne hc]
  have e6 : (wI (wI s 248 0 w) 248 1 (k' : Int)).1 206 0 = A 85 := by rw [wI_ne (by decide), wI_ne (by decide)]; exact hs.1
  have cb := C_bits_206 (s := X) (SR_keep hs (fun c x y => xc c (by omega))) (VR_keep hr (fun c x y => xc c (by omega))) hv (m := m) (by omega) 3
  refine ⟨wI (wI X 248 3 ((mk (fun d => decide (A (164 + d) = 3)) (A 2).toNat : Nat) : Int)) 0 18 1, ?_, ?_, ?_, ?_, ?_, wI_at, fun k hk => ?_, fun c c0 c1 => ?_, ?_⟩
  · rw [l_X_judge_L49_eq, e6, ← hX, cb, Option.bind_some]
  · rw [wI_ne (by decide), wI_f (by decide), hX, wI_f (by decide), wI_f (by decide), wI_at]
  · rw [wI_ne (by decide), wI_f (by decide), hX, wI_f (by decide), wI_at]
  · rw [wI_ne (by decide), wI_f (by decide), hX, wI_at]
  · rw [wI_ne (by decide), wI_at]
  · rw [wI_f hk, wI_ne (by decide), xc 0 (by decide)]
  · rw [wI_ne c0, wI_ne c1, xc c c1]
  · rw [wI_2, wI_2, hX]; rfl
theorem P_book {m : Nat} (hm : 10000 ≤ m) (a : Int) : PSim (f_X_book m a) (f_R_book m a) := by
  intro s u h hu
  have h' := h
  obtain ⟨g1, g2, g3, g4, g5, g6, g7, g8, g9, g10⟩ := h'
  by_cases ca : 0 ≤ a ∧ a ≤ 1
  rotate_left
  · refine ⟨-1000, s, wI u 249 0 0, ?_, ?_, fun _ _ => ⟨rfl, rfl⟩, fun c hc => ⟨wI_ne (by omega), rfl⟩, fun Z h1 h2 => ?_⟩
    · rw [f_X_book_eq]
      by_cases c : a < 0
      · rw [if_pos c]
      · rw [if_neg c, if_pos (by omega)]
    · rw [f_R_book_eq, R_isIn, if_neg ca, Option.bind_some, if_pos rfl]
    · have e : Z = wI s 249 0 0 := split_eq (fun c hc => ⟨by rw [(h1 c hc).1, wI_ne (by omega)], by rw [(h1 c hc).2]; rfl⟩) (fun c hc => by
        refine ⟨?_, by rw [(h2 c hc).2, wI_2, wI_2]; exact (hu c hc).2⟩
        rw [(h2 c hc).1]
        funext j
        rw [wI_1, wI_1, (hu c hc).1])
      rw [e]
      exact Inv_thrown h 0
  obtain ⟨u0, hu0⟩ : ∃ u0, u0 = wI u 249 0 0 := ⟨_, rfl⟩
  have v1 : ∀ c, 249 < c → u0.1 c = s.1 c := fun c hc => by rw [hu0, wI_ne (by omega)]; exact (hu c (by omega)).1
  have v2 : ∀ c, 249 ≤ c → u0.2 c = s.2 c := fun c hc => by rw [hu0, wI_2]; exact (hu c hc).2
  have v9 : ∀ k, k ≠ 0 → u0.1 249 k = s.1 249 k := fun k hk => by rw [hu0, wI_f hk, (hu 249 (by omega)).1]
  have vc : ∀ c, c < 249 → u0.1 c = u.1 c := fun c hc => by rw [hu0, wI_ne (by omega)]
  have vj : u0.2 = u.2 := by rw [hu0]; rfl
  have pt : PT s u0 := ⟨by rw [v9 2 (by decide)]; exact g2.1, by rw [g2.1]; exact g2.2.1, by rw [g2.1]; exact g2.2.2.1, fun k hk => by rw [v1 250 (by decide)]; exact g2.2.2.2 k hk⟩
  have rv : RV s u0 := by
    unfold RV
    rw [v1 251 (by decide), v2 257 (by decide)]
    exact ⟨g1.1.1, g1.2.1.1, g1.2.1.2.1, g1.2.1.2.2.1, g1.2.2.2.1⟩
  have hX : f_X_book m a s = (((f_Tp_open m 400 s).bind fun p0 => f_Bk_readFrom m p0.2).bind fun p1 => (if (wI p1.2 0 13 (p1.2.1 1 6)).1 0 13 = 0 then ((f_St_copyOf_206_17 m (wI p1.2 0 13 (p1.2.1 1 6))).bind fun p2 => ((f_X_judge m p2.2).bind fun p3 => (if a = 1 then (if 0 < p3.1 then ((f_Ps_keep_100_17 m p3.2).bind fun p4 => ((f_St_copyOf_17_206 m p4.2).bind fun p5 => (if p3.1 < p5.2.1 237 0 then (some (p3.1, p5.2)) else (some ((-1), p5.2))))) else (if p3.1 < p3.2.1 237 0 then (some (p3.1, p3.2)) else (some ((-1), p3.2)))) else (if p3.1 < p3.2.1 237 0 then (some (p3.1, p3.2)) else (some ((-1), p3.2)))))) else (some (w32 ((-2) - ((wI p1.2 0 13 (p1.2.1 1 6)).1 1 7)), wI p1.2 0 13 (p1.2.1 1 6))))) := by
    rw [f_X_book_eq, if_neg (by omega), if_neg (by omega), Option.bind_assoc]
  have hG : f_R_book m a u = ((f_R_begin m 400 u0).bind fun p1 => (l_R_book_L30 m m a (wI p1.2 249 39 0))) := by
    rw [f_R_book_eq, R_isIn, if_pos ca, Option.bind_some, if_neg (show ¬ (1 : Int) = 0 by decide), hu0]
  rcases B_read hm a pt rv with ⟨n, s', u', nr, z1, z2, z3, z4, z5, z6, z7, z8, z9⟩ | ⟨s', u', z1, z2, z3, z4, z5⟩
  rotate_left
  · -- it can't be read
    obtain ⟨t, ht⟩ : ∃ t, t = wI s' 0 13 (s'.1 1 6) := ⟨_, rfl⟩
    have t13 : t.1 0 13 = s'.1 1 6 := by rw [ht, wI_at]
    have t7 : t.1 1 7 = s'.1 1 7 := by rw [ht, wI_ne (by decide)]
    have tc : ∀ c, c ≠ 0 → t.1 c = s'.1 c := fun c hc => by rw [ht, wI_ne hc]
    have t0 : ∀ k, k ≠ 13 → t.1 0 k = s'.1 0 k := fun k hk => by rw [ht, wI_f hk]
    have tj : t.2 = s'.2 := by rw [ht]; rfl
    have p7 := z3.2.2
    refine ⟨-2 - s'.1 1 7, t, u', ?_, by rw [hG, z2], fun c hc => ⟨by rw [tc c (by omega), z4.1 c (by omega) (by omega)], by rw [tj, z4.2.1 c (by omega) (by omega)]⟩, fun c hc => ⟨by rw [z5.1 c (by omega) (by omega) (by omega) (by omega) (by omega), vc c hc], by rw [z5.2.1 c (by omega) (by omega) (by omega) (by omega) (by omega), vj]⟩, fun Z h1 h2 => ?_⟩
    · rw [hX, z1, Option.bind_some]
      dsimp only
      rw [← ht, t13, if_neg z3.2.1, t7, w32_in (by omega) (by omega)]
    · refine Inv_failed h (fun c c0 c1 c2 c3 c4 c5 c6 c7 => ?_) (fun c c1 c2 c3 c4 c5 c6 c7 => ?_) (fun k hk => ?_) (fun k hk => ?_) ?_ ?_ ?_
      · by_cases q : c < 249
        · rw [(h1 c q).1, tc c c0, z4.1 c c1 c2]
        · rw [(h2 c (by omega)).1, z5.1 c c3 c4 c5 c6 c7, v1 c (by omega)]
      · by_cases q : c < 249
        · rw [(h1 c q).2, tj, z4.2.1 c c1 c2]
        · rw [(h2 c (by omega)).2, z5.2.1 c c3 c4 c5 c6 c7, v2 c (by omega)]
      · rw [(h1 0 (by decide)).1, t0 k hk, z4.1 0 (by decide) (by omega)]
      · rw [(h2 249 (by decide)).1, z5.2.2.1 k hk, v9 k (by omega)]
      · rw [(h1 1 (by decide)).1, tc 1 (by decide)]; exact z4.2.2
      · rw [(h2 249 (by decide)).1]; exact z5.2.2.2.2
      · rw [(h1 0 (by decide)).1, (h2 249 (by decide)).1, t13]; exact z3.1
  -- it is read: lines judged
  obtain ⟨A, hA0⟩ : ∃ A, A = s.1 251 := ⟨_, rfl⟩
  have hW : WF A := by rw [hA0]; exact g1.1
  obtain ⟨t, ht⟩ : ∃ t, t = wI s' 0 13 (s'.1 1 6) := ⟨_, rfl⟩
  have t13 : t.1 0 13 = 0 := by rw [ht, wI_at]; exact z6
  have tc : ∀ c, c ≠ 0 → t.1 c = s'.1 c := fun c hc => by rw [ht, wI_ne hc]
  have t0 : ∀ k, k ≠ 13 → t.1 0 k = s'.1 0 k := fun k hk => by rw [ht, wI_f hk]
  have tj : t.2 = s'.2 := by rw [ht]; rfl
  have tS : ∀ c, c ≠ 0 → c ≠ 1 → c < 219 ∨ 240 < c → t.1 c = s.1 c := fun c c0 c1 c2 => by rw [tc c c0, z8.1 c c1 c2]
  have tSR : SR t 17 A := by rw [hA0]; exact SR_keep g1.2.2.1 (fun c x y => tS c (by omega) (by omega) (by omega))
  have tVR : VR t 4 A := by rw [hA0]; exact VR_keep g1.2.1 (fun c x y => tS c (by omega) (by omega) (by omega))
  obtain ⟨t2, b1, b2, b3, b4, b5⟩ := C_trial tSR tVR hW.1 m
  have uA : u'.1 251 = A := by rw [z9.1 251 (by decide) (by decide) (by decide) (by decide) (by decide), v1 251 (by decide), hA0]
  have sv := R_save_256 u' (m := m) (by omega) (o := 0) (by omega)
  rw [show ((0 : Nat) : Int) = 0 from rfl] at sv
  obtain ⟨u2, hu2⟩ : ∃ u2, u2 = sr u' 256 (rowPut (u'.1 256) 0 (u'.1 251) 85 139) := ⟨_, rfl⟩
  rw [← hu2] at sv
  have u2c : ∀ c, c ≠ 256 → u2.1 c = u'.1 c := fun c hc => by rw [hu2, sr_ne _ _ _ hc]
  have u2j : u2.2 = u'.2 := by rw [hu2, sr_2]
  have u256 : ∀ k, k < 139 → u2.1 256 k = A (85 + k) := fun k hk => by
    rw [hu2, sr_eq]; unfold rowPut; rw [if_pos (by omega), uA, show 85 + (k - 0) = 85 + k from by omega]
  obtain ⟨w, k', f1, f2, A', s3, y1, y2, y3, y4, y5, y6, y7, y8, y9⟩ := J_loop hm n z4 a n m nr 0 A t2 u2 (by omega) (by omega) (by omega) hW b2 b4 (by rw [u2c 251 (by decide)]; exact uA) (by rw [b5.1 237 (by omega), tc 237 (by decide)]; exact z5.2.1) (by rw [u2c 249 (by decide)]; exact z5.2.2.1)
    (fun j hj => LN_cg (z5.2.2.2 j hj) (by rw [b5.1 238 (by omega), tc 238 (by decide)]) (by rw [b5.1 239 (by omega), tc 239 (by decide)]) (by rw [b5.1 240 (by omega), tc 240 (by decide)]) (by rw [u2c 266 (by decide)]) (by rw [u2c 266 (by decide)]) (by rw [u2c 266 (by decide)]) (u2c 251 (by decide)))
  rw [show ((0 : Nat) : Int) = 0 from rfl] at y1 y2
  have s3c : ∀ c, ¬ (206 ≤ c ∧ c < 219) → s3.1 c = t.1 c := fun c hc => by rw [y6.1 c (by omega), b5.1 c (by omega)]
  have s3j : s3.2 = t.2 := by rw [y6.2, b5.2]
  have s3VR : VR s3 4 A' := VR_cg (VR_keep b4 (fun c x y => y6.1 c (by omega))) hW.1 (fun j hj => y4 j (by omega))
  obtain ⟨S5, c1, c2, c3, c4, c5, c6, c7, c8, c9⟩ := C_told (m := m) (f := f1) (k' := k') hm (w := w) y5 s3VR y3.1
  have hJ : f_X_judge m t2 = some ((k' : Int), S5) := by rw [f_X_judge_eq, y1, c1]
  have S5c : ∀ c, c ≠ 0 → c ≠ 248 → ¬ (206 ≤ c ∧ c < 219) → S5.1 c = t.1 c := fun c x y z => by rw [c8 c x y, s3c c z]
  have S5n : S5.1 237 0 = (n : Int) := by rw [S5c 237 (by decide) (by decide) (by omega), tc 237 (by decide)]; exact z5.2.1
  -- what the reference tells
  obtain ⟨Y, hY⟩ : ∃ Y, Y = wI (wI (wI (sr u2 251 A') 267 0 w) 267 1 (k' : Int)) 267 2 (A' 85) := ⟨_, rfl⟩
  have Yc : ∀ c, c ≠ 251 → c ≠ 267 → Y.1 c = u2.1 c := fun c x y => by rw [hY, wI_ne y, wI_ne y, wI_ne y, sr_ne _ _ _ x]
  have Y251 : Y.1 251 = A' := by rw [hY, wI_ne (by decide), wI_ne (by decide), wI_ne (by decide), sr_eq]
  have rt := R_those Y251 y3.1 (m := m) (by omega) 3
  obtain ⟨X, hXX⟩ : ∃ X, X = wI (wI Y 267 3 ((mk (fun d => decide (A' (164 + d) = 3)) (A' 2).toNat : Nat) : Int)) 249 40 1 := ⟨_, rfl⟩
  have Xc : ∀ c, c ≠ 249 → c ≠ 251 → c ≠ 267 → X.1 c = u2.1 c := fun c x y z => by rw [hXX, wI_ne x, wI_ne z, Yc c y z]
  have X251 : X.1 251 = A' := by rw [hXX, wI_ne (by decide), wI_ne (by decide)]; exact Y251
  have X9 : ∀ k, k ≠ 40 → X.1 249 k = u2.1 249 k := fun k hk => by rw [hXX, wI_f hk, wI_ne (by decide), Yc 249 (by decide) (by decide)]
  have X40 : X.1 249 40 = 1 := by rw [hXX, wI_at]
  have Xj : X.2 = u2.2 := by rw [hXX, hY]; rfl
  have x0 : X.1 267 0 = w := by rw [hXX, wI_ne (by decide), wI_f (by decide), hY, wI_f (by decide), wI_f (by decide), wI_at]
  have x1 : X.1 267 1 = (k' : Int) := by rw [hXX, wI_ne (by decide), wI_f (by decide), hY, wI_f (by decide), wI_at]
  have x2 : X.1 267 2 = A' 85 := by rw [hXX, wI_ne (by decide), wI_f (by decide), hY, wI_at]
  have x3 : X.1 267 3 = ((mk (fun d => decide (A' (164 + d) = 3)) (A' 2).toNat : Nat) : Int) := by rw [hXX, wI_ne (by decide), wI_at]
  have hL : ∀ st : Int, l_R_book_L108 m (f2 + 1) a (k' : Int) w (sr u2 251 A') = if a = 1 then (if 0 < (k' : Int) then ((f_R_stay m 1 X).bind fun p1 => (if w = 0 then (some ((-1), p1.2)) else (some ((k' : Int), p1.2)))) else ((f_R_stay m 0 X).bind fun p1 => (if w = 0 then (some ((-1), p1.2)) else (some ((k' : Int), p1.2))))) else ((f_R_stay m 0 X).bind fun p1 => (if w = 0 then (some ((-1), p1.2)) else (some ((k' : Int), p1.2)))) := by
    intro _
    have e85 : (wI (wI (sr u2 251 A') 267 0 w) 267 1 (k' : Int)).1 251 85 = A' 85 := by rw [wI_ne (by decide), wI_ne (by decide), sr_eq]
    rw [l_R_book_L108_eq, e85, ← hY, rt, Option.bind_some]
    dsimp only
    rw [← hXX]
  have hGL : f_R_book m a u = l_R_book_L108 m (f2 + 1) a (k' : Int) w (sr u2 251 A') := by
    rw [hG, z2, sv, Option.bind_some, y2]
  have hT : ∀ k, k < 139 → X.1 256 k = A (85 + k) := fun k hk => by rw [Xc 256 (by decide) (by decide) (by decide)]; exact u256 k hk
  obtain ⟨⟨U0, e1, e2, e3, e4⟩, stay1⟩ := R_stay hm X251 hT y4
  have hXb : f_X_book m a s = (if a = 1 then (if 0 < (k' : Int) then ((f_Ps_keep_100_17 m S5).bind fun p4 => ((f_St_copyOf_17_206 m p4.2).bind fun p5 => (if (k' : Int) < p5.2.1 237 0 then (some ((k' : Int), p5.2)) else (some ((-1), p5.2))))) else (if (k' : Int) < S5.1 237 0 then (some ((k' : Int), S5)) else (some ((-1), S5)))) else (if (k' : Int) < S5.1 237 0 then (some ((k' : Int), S5)) else (some ((-1), S5)))) := by
    rw [hX, z1, Option.bind_some]
    dsimp only
    rw [← ht, if_pos t13, b1, Option.bind_some, hJ, Option.bind_some]
  have hr : ∀ {α : Type} (p q : α), (if (k' : Int) < (n : Int) then p else q) = (if w = 0 then q else p) := by
    intro α p q
    by_cases c : w = 0
    · rw [if_neg (by have := y7.mp c; omega), if_pos c]
    · rw [if_pos (by rcases y9 with q | q; exact absurd q c; omega), if_neg c]
  -- cells of the reference, from its start
  have Uc : ∀ c, 249 < c → c ≠ 251 → c ≠ 252 → c ≠ 256 → c ≠ 258 → c ≠ 266 → c ≠ 267 → c ≠ 268 → X.1 c = s.1 c := fun c q1 q2 q3 q4 q5 q6 q7 q8 => by
    rw [Xc c (by omega) q2 q7, u2c c q4, z9.1 c (by omega) q3 q5 q6 q8, v1 c (by omega)]
  have Uj : ∀ c, 249 < c → c ≠ 252 → c ≠ 258 → c ≠ 266 → c ≠ 268 → X.2 c = s.2 c := fun c q1 q3 q5 q6 q8 => by
    rw [Xj, u2j, z9.2.1 c (by omega) q3 q5 q6 q8, v2 c (by omega)]
  have U9 : ∀ k, 13 < k ∧ k ≠ 24 ∧ k ≠ 39 ∧ k < 42 → k ≠ 40 → X.1 249 k = s.1 249 k := fun k hk h40 => by rw [X9 k h40, u2c 249 (by decide), z9.2.2.1 k hk, v9 k (by omega)]
  have U2 : X.1 249 2 = 0 := by rw [X9 2 (by decide), u2c 249 (by decide)]; exact z9.2.2.2.2
  have U10 : X.1 249 10 = 0 := by rw [X9 10 (by decide), u2c 249 (by decide)]; exact z7
  have UcC : ∀ c, c < 249 → X.1 c = u.1 c := fun c hc => by rw [Xc c (by omega) (by omega) (by omega), u2c c (by omega), z9.1 c (by omega) (by omega) (by omega) (by omega) (by omega), vc c hc]
  have UjC : ∀ c, c < 249 → X.2 c = u.2 c := fun c hc => by rw [Xj, u2j, z9.2.1 c (by omega) (by omega) (by omega) (by omega) (by omega), vj]
  have S5j : S5.2 = t.2 := by rw [c9, s3j]
  have S5s : ∀ c, c ≠ 0 → c ≠ 1 → c ≠ 248 → ¬ (206 ≤ c ∧ c < 219) → c < 219 ∨ 240 < c → S5.1 c = s.1 c := fun c x0 x y z v => by rw [S5c c x0 y z, tS c x0 x v]
  have S50 : ∀ k, k ≠ 13 → k ≠ 18 → S5.1 0 k = s.1 0 k := fun k x y => by rw [c7 k y, s3c 0 (by omega), t0 k x, z8.1 0 (by decide) (by omega)]
  have S513 : S5.1 0 13 = 0 := by rw [c7 13 (by decide), s3c 0 (by omega)]; exact t13
  have S51 : S5.1 1 1 = 0 := by rw [S5c 1 (by decide) (by decide) (by omega), tc 1 (by decide)]; exact z8.2.2
  have S5J : ∀ c, c ≠ 1 → c < 219 ∨ 240 < c → S5.2 c = s.2 c := fun c x v => by rw [S5j, tj, z8.2.1 c x v]
  have told : ∀ (Z : mS), Z.1 0 18 = 1 → Z.1 249 40 = 1 → Z.1 248 = S5.1 248 → Z.1 267 = X.1 267 → pTold Z := by
    intro Z q1 q2 q3 q4
    refine ⟨by rw [q1, q2], Or.inr q2, fun k hk _ => ?_⟩
    rw [q3, q4]
    have : k = 0 ∨ k = 1 ∨ k = 2 ∨ k = 3 := by omega
    rcases this with q | q | q | q
    · rw [q, c2, x0]
    · rw [q, c3, x1]
    · rw [q, c4, x2]
    · rw [q, c5, x3]
  by_cases cl : a = 1 ∧ 0 < (k' : Int)
  · -- it is lived
    obtain ⟨U, e5, e6, e7, e8, e9, e10, e11⟩ := stay1 (by rw [U9 25 (by omega) (by omega)]; exact g10.2.1) (by rw [U9 25 (by omega) (by omega)]; exact g10.2.2.1)
    obtain ⟨p1, p2, p3, p4, p5, p6⟩ := g10
    obtain ⟨f, hf⟩ : ∃ f : Nat, s.1 100 1 = (f : Int) := ⟨(s.1 100 1).toNat, by omega⟩
    obtain ⟨k, hk⟩ : ∃ k : Nat, s.1 100 2 = (k : Int) := ⟨(s.1 100 2).toNat, by omega⟩
    have S5SR17 : SR S5 17 A := SR_keep tSR (fun c x y => S5c c (by omega) (by omega) (by omega))
    obtain ⟨S6, d1, d2, d3, d4, d5, d6⟩ := C_kept (s := S5) (m := m) (by omega) (f := f) (k := k) (by rw [S5s 100 (by omega) (by omega) (by omega) (by omega) (by omega)]; exact hf) (by rw [S5s 100 (by omega) (by omega) (by omega) (by omega) (by omega)]; exact hk) (by omega) (by omega) S5SR17 hW.1
    have hl : (f + k) % 8 < 8 := Nat.mod_lt _ (by decide)
    have o := cpS_only S6 17 206
    have S5SR : SR S5 206 A' := SR_keep y5 (fun c x y => c8 c (by omega) (by omega))
    have S6SR : SR S6 206 A' := SR_keep S5SR (fun c x y => d6 c (by omega) (by omega))
    have S7SR : SR (cpS S6 17 206) 17 A' := cpS_SR S6SR y3.1 (by omega)
    have S7c : ∀ c, ¬ (17 ≤ c ∧ c < 30) → c ≠ 100 → ¬ (102 ≤ c ∧ c < 206) → (cpS S6 17 206).1 c = S5.1 c := fun c x y z => by rw [o.1 c (by omega), d6 c y (by omega)]
    have S7j : (cpS S6 17 206).2 = S5.2 := by rw [o.2, d5]
    have S7n : (cpS S6 17 206).1 237 0 = (n : Int) := by rw [S7c 237 (by omega) (by omega) (by omega)]; exact S5n
    refine ⟨if w = 0 then -1 else (k' : Int), cpS S6 17 206, U, ?_, ?_, fun c hc => ⟨by rw [S7c c (by omega) (by omega) (by omega), S5s c (by omega) (by omega) (by omega) (by omega) (by omega)], by rw [S7j, S5J c (by omega) (by omega)]⟩, fun c hc => ⟨by rw [e10 c (by omega) (by omega) (by omega) (by omega), UcC c hc], by rw [e11, UjC c hc]⟩, fun Z h1 h2 => ?_⟩
    · rw [hXb, if_pos cl.1, if_pos cl.2, d1, Option.bind_some, cpS_17_206, Option.bind_some]
      dsimp only
      rw [S7n, hr]
      split <;> rfl
    · rw [hGL, hL 0, if_pos cl.1, if_pos cl.2, e5, Option.bind_some]
      dsimp only
      split <;> rfl
    · have Z251 : Z.1 251 = A' := by rw [(h2 251 (by decide)).1]; exact e6
      have Z257 : Z.2 257 = s.2 257 := by rw [(h2 257 (by decide)).2, e11, Uj 257 (by decide) (by decide) (by decide) (by decide) (by decide)]
      have ZC : ∀ c, c < 249 → ¬ (17 ≤ c ∧ c < 30) → c ≠ 100 → ¬ (102 ≤ c ∧ c < 206) → Z.1 c = S5.1 c := fun c q x y z => by rw [(h1 c q).1, S7c c x y z]
      have ZR : ∀ c, 249 < c → c ≠ 251 → c ≠ 252 → c ≠ 254 → c ≠ 255 → c ≠ 256 → c ≠ 258 → c ≠ 266 → c ≠ 267 → c ≠ 268 → Z.1 c = s.1 c := fun c q0 q1 q2 q3 q4 q5 q6 q7 q8 q9 => by
        rw [(h2 c (by omega)).1, e10 c (by omega) q1 q3 q4, Uc c q0 q1 q2 q5 q6 q7 q8 q9]
      have ZJ : ∀ c, c < 249 → c ≠ 1 → c < 219 ∨ 240 < c → Z.2 c = s.2 c := fun c q x v => by rw [(h1 c q).2, S7j, S5J c x v]
      have Z9 : ∀ k, 13 < k ∧ k ≠ 24 ∧ k ≠ 25 ∧ k ≠ 39 ∧ k < 40 → Z.1 249 k = s.1 249 k := fun k hk => by rw [(h2 249 (by decide)).1, e9 k (by omega), U9 k (by omega) (by omega)]
      refine Inv_mk h ?_ ?_ ?_ (fun c hc => ?_) (fun c hc => ?_) (fun k hk => ?_) (fun k hk => ?_) ?_ ?_ ?_ ?_ ?_
      · rw [Z251, Z257]
        refine ⟨y3, ?_, ?_, ?_, ?_⟩
        · exact VR_cg (VR_keep tVR (fun c x y => by rw [ZC c (by omega) (by omega) (by omega) (by omega), S5c c (by omega) (by omega) (by omega)])) hW.1 (fun j hj => y4 j (by omega))
        · exact SR_keep S7SR (fun c x y => (h1 c (by omega)).1)
        · have vn := g1.2.2.2.1
          rw [← hA0] at vn
          exact VN_cg (VN_keep vn (fun c x y => ZJ c (by omega) (by omega) (by omega))) hW.1 (fun j hj => y4 j (by omega)) (fun _ _ => rfl)
        · have qr := g1.2.2.2.2
          rw [← hA0] at qr
          exact QR_cg (QR_keep qr (fun c x y => by rw [ZC c (by omega) (by omega) (by omega) (by omega), S5s c (by omega) (by omega) (by omega) (by omega) (by omega)])) (y4 0 (by omega)) (y4 2 (by omega)) (fun k x y => y4 k (by omega))
      · refine Past_push ⟨p1, p2, p3, p4, p5, p6⟩ hA0.symm hW hf hk (fun q hq => by rw [Z251]; exact y4 q (by omega)) ?_ ?_ ⟨?_, ?_⟩ ?_ (fun c x y z => ?_)
        · rw [(h2 254 (by decide)).1, e7, U9 25 (by omega) (by omega), Uc 254 (by decide) (by decide) (by decide) (by decide) (by decide) (by decide) (by decide) (by decide)]
        · rw [(h2 249 (by decide)).1, e8, U9 25 (by omega) (by omega)]
        · rw [(h1 100 (by decide)).1, o.1 100 (by omega)]; exact d3
        · rw [(h1 100 (by decide)).1, o.1 100 (by omega)]; exact d4
        · exact SR_keep d2 (fun c x y => by rw [(h1 c (by omega)).1, o.1 c (by omega)])
        · rw [(h1 c (by omega)).1, o.1 c (by omega), d6 c (by omega) z, S5s c (by omega) (by omega) (by omega) (by omega) (by omega)]
      · exact told Z (by rw [ZC 0 (by decide) (by omega) (by omega) (by omega)]; exact c6) (by rw [(h2 249 (by decide)).1, e9 40 (by decide)]; exact X40) (ZC 248 (by decide) (by omega) (by omega) (by omega)) (by rw [(h2 267 (by decide)).1, e10 267 (by decide) (by decide) (by decide) (by decide)])
      · by_cases q : c < 249
        · rw [ZC c q (by omega) (by omega) (by omega), S5s c (by omega) (by omega) (by omega) (by omega) (by omega)]
        · exact ZR c (by omega) (by omega) (by omega) (by omega) (by omega) (by omega) (by omega) (by omega) (by omega) (by omega)
      · by_cases q : c < 249
        · exact ZJ c q (by omega) (by omega)
        · rw [(h2 c (by omega)).2, e11, Uj c (by omega) (by omega) (by omega) (by omega) (by omega)]
      · rw [ZC 0 (by decide) (by omega) (by omega) (by omega), S50 k (by omega) (by omega)]
      · exact Z9 k (by omega)
      · rw [ZC 1 (by decide) (by omega) (by omega) (by omega)]; exact S51
      · rw [(h2 249 (by decide)).1, e9 2 (by decide)]; exact U2
      · rw [ZC 2 (by decide) (by omega) (by omega) (by omega), S5s 2 (by omega) (by omega) (by omega) (by omega) (by omega)]
      · exact ZR 250 (by omega) (by omega) (by omega) (by omega) (by omega) (by omega) (by omega) (by omega) (by omega) (by omega)
      · rw [ZC 0 (by decide) (by omega) (by omega) (by omega), S513, (h2 249 (by decide)).1, e9 10 (by decide), U10]
  · -- it is only judged
    refine ⟨if w = 0 then -1 else (k' : Int), S5, U0, ?_, ?_, fun c hc => ⟨S5s c (by omega) (by omega) (by omega) (by omega) (by omega), S5J c (by omega) (by omega)⟩, fun c hc => ⟨by rw [e3 c (by omega) (by omega), UcC c hc], by rw [e4, UjC c hc]⟩, fun Z h1 h2 => ?_⟩
    · have : f_X_book m a s = (if (k' : Int) < S5.1 237 0 then (some ((k' : Int), S5)) else (some ((-1), S5))) := by
        rw [hXb]
        by_cases c : a = 1
        · rw [if_pos c, if_neg (fun q => cl ⟨c, q⟩)]
        · rw [if_neg c]
      rw [this, S5n, hr]
      split <;> rfl
    · have : f_R_book m a u = ((f_R_stay m 0 X).bind fun p1 => (if w = 0 then (some ((-1), p1.2)) else (some ((k' : Int), p1.2)))) := by
        rw [hGL, hL 0]
        by_cases c : a = 1
        · rw [if_pos c, if_neg (fun q => cl ⟨c, q⟩)]
        · rw [if_neg c]
      rw [this, e1, Option.bind_some]
      dsimp only
      split <;> rfl
    · have Z251 : Z.1 251 = s.1 251 := by rw [(h2 251 (by decide)).1, e2, hA0]
      have ZR : ∀ c, 249 < c → c ≠ 251 → c ≠ 252 → c ≠ 255 → c ≠ 256 → c ≠ 258 → c ≠ 266 → c ≠ 267 → c ≠ 268 → Z.1 c = s.1 c := fun c q0 q1 q2 q4 q5 q6 q7 q8 q9 => by
        rw [(h2 c (by omega)).1, e3 c q1 q4, Uc c q0 q1 q2 q5 q6 q7 q8 q9]
      have Z9 : ∀ k, 13 < k ∧ k ≠ 24 ∧ k ≠ 39 ∧ k < 40 → Z.1 249 k = s.1 249 k := fun k hk => by rw [(h2 249 (by decide)).1, e3 249 (by decide) (by decide), U9 k (by omega) (by omega)]
      refine Inv_mk h ?_ ?_ ?_ (fun c hc => ?_) (fun c hc => ?_) (fun k hk => ?_) (fun k hk => ?_) ?_ ?_ ?_ ?_ ?_
      · rw [Z251, (h2 257 (by decide)).2, e4, Uj 257 (by decide) (by decide) (by decide) (by decide) (by decide)]
        exact World_keep g1 (fun c x y => by rw [(h1 c (by omega)).1, S5s c (by omega) (by omega) (by omega) (by omega) (by omega)]) (fun c x y => by rw [(h1 c (by omega)).2, S5J c (by omega) (by omega)]) (fun c x y => by rw [(h1 c (by omega)).1, S5s c (by omega) (by omega) (by omega) (by omega) (by omega)]) (fun c x y => by rw [(h1 c (by omega)).1, S5s c (by omega) (by omega) (by omega) (by omega) (by omega)])
      · exact pPast_keep g10 (by rw [(h1 100 (by decide)).1, S5s 100 (by omega) (by omega) (by omega) (by omega) (by omega)]) (Z9 25 (by omega)) (fun i _ k _ => by rw [pastRow_keep (s := s) (s' := Z) Z251 (ZR 254 (by omega) (by omega) (by omega) (by omega) (by omega) (by omega) (by omega) (by omega) (by omega))]) (fun c x y => by rw [(h1 c (by omega)).1, S5s c (by omega) (by omega) (by omega) (by omega) (by omega)])
      · exact told Z (by rw [(h1 0 (by decide)).1]; exact c6) (by rw [(h2 249 (by decide)).1, e3 249 (by decide) (by decide)]; exact X40) (h1 248 (by decide)).1 (by rw [(h2 267 (by decide)).1, e3 267 (by decide) (by decide)])
      · by_cases q : c < 249
        · rw [(h1 c q).1, S5s c (by omega) (by omega) (by omega) (by omega) (by omega)]
        · exact ZR c (by omega) (by omega) (by omega) (by omega) (by omega) (by omega) (by omega) (by omega) (by omega)
      · by_cases q : c < 249
        · rw [(h1 c q).2, S5J c (by omega) (by omega)]
        · rw [(h2 c (by omega)).2, e4, Uj c (by omega) (by omega) (by omega) (by omega) (by omega)]
      · rw [(h1 0 (by decide)).1, S50 k (by omega) (by omega)]
      · exact Z9 k (by omega)
      · rw [(h1 1 (by decide)).1]; exact S51
      · rw [(h2 249 (by decide)).1, e3 249 (by decide) (by decide)]; exact U2
      · rw [(h1 2 (by decide)).1, S5s 2 (by omega) (by omega) (by omega) (by omega) (by omega)]
      · exact ZR 250 (by omega) (by omega) (by omega) (by omega) (by omega) (by omega) (by omega) (by omega) (by omega)
      · rw [(h1 0 (by decide)).1, S513, (h2 249 (by decide)).1, e3 249 (by decide) (by decide), U10]
theorem S_book {m : Nat} (hm : 10000 ≤ m) (a : Int) : Sim (f_X_book m a) (f_R_book m a) := Sim_of (P_book hm a)
