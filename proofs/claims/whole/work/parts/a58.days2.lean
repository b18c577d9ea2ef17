/-! ===== layer 3: days, drawn, undo ===== -/
theorem daysA_hi : ∀ (n : Nat) {A : Row}, A 2 ≤ 12 → ∀ k, 224 ≤ k → daysA n A k = A k
  | 0, _, _, _, _ => rfl
  | n + 1, A, hn, k, hk => by
    have e2 := dayA_lo hn (i := 2) (by omega)
    unfold daysA; rw [daysA_hi n (by rw [e2]; exact hn) k hk, dayA_hi hn hk]
/-- some days went by, by themselves or drawn: the class, the reference -/
theorem Inv_went {s sb : mS} (h : Inv s) {m : Nat} (hm : 10000 ≤ m) {A' : Row} (hw : WF A') (hlo : ∀ k, k < 85 → A' k = s.1 251 k) (hhi : ∀ k, 224 ≤ k → k < 466 → A' k = s.1 251 k) {r : Int} (hr : 0 < r)
    (hS : SR sb 17 A') (hT : SR sb 206 (s.1 251)) (h1 : ∀ c, ¬ (17 ≤ c ∧ c < 30) → ¬ (206 ≤ c ∧ c < 219) → c ≠ 245 → sb.1 c = s.1 c) (h2 : sb.2 = s.2) (y : Int) :
    ∃ s3, f_X_wentBy m r sb = some (r, s3) ∧ s3.1 251 = s.1 251 ∧ f_R_snap m (wI s3 249 0 0) = some (0, sr (sr (wI s3 249 0 0) 254 (if s.1 249 25 = 8 then rowPut (shiftR (s.1 254) 0) 973 (s.1 251) 85 139 else rowPut (s.1 254) (139 * (s.1 249 25).toNat) (s.1 251) 85 139)) 249 (up ((wI s3 249 0 0).1 249) 25 (min 8 (s.1 249 25 + 1)))) ∧
      Inv (sr (sr (sr (wI s3 249 0 0) 254 (if s.1 249 25 = 8 then rowPut (shiftR (s.1 254) 0) 973 (s.1 251) 85 139 else rowPut (s.1 254) (139 * (s.1 249 25).toNat) (s.1 251) 85 139)) 249 (up ((wI s3 249 0 0).1 249) 25 (min 8 (s.1 249 25 + 1)))) 251 A') ∧
      Inv (sr (sd (sr (sr (wI s3 249 0 0) 254 (if s.1 249 25 = 8 then rowPut (shiftR (s.1 254) 0) 973 (s.1 251) 85 139 else rowPut (s.1 254) (139 * (s.1 249 25).toNat) (s.1 251) 85 139)) 249 (up ((wI s3 249 0 0).1 249) 25 (min 8 (s.1 249 25 + 1)))) y) 251 A') := by
  obtain ⟨p1, p2, p3, -⟩ := h.2.2.2.2.2.2.2.2.2
  obtain ⟨s3, d1, d2, d3, d4⟩ := Inv_done (s1 := sb) h (m := m) (by omega) hw hlo hhi hS hT h1 h2
  have hA4 : (wI s3 249 0 0).1 249 25 = s.1 249 25 := by rw [th_f s3 0 (by decide), d3 249 (by omega)]
  have e54 : (wI s3 249 0 0).1 254 = s.1 254 := by rw [th_ne s3 0 (by decide), d3 254 (by omega)]
  have e51 : (wI s3 249 0 0).1 251 = s.1 251 := by rw [th_ne s3 0 (by decide), d3 251 (by omega)]
  refine ⟨s3, ?_, d3 251 (by omega), ?_, ?_, ?_⟩
  · rw [f_X_wentBy_eq, if_pos hr, d1]; rfl
  · have q := R_snap (s := wI s3 249 0 0) hm (by rw [hA4]; exact p2) (by rw [hA4]; exact p3)
    rw [hA4, e54, e51] at q
    exact q
  · refine d4 _ (fun c hc => ?_) rfl (sr_eq _ _ _) ?_ (fun k x y z => ?_) ?_ (fun c x y z w v u => ?_)
    · rw [sr_ne _ _ _ (by omega), sr_ne _ _ _ (by omega), sr_ne _ _ _ (by omega), th_ne _ _ (by omega)]
    · rw [sr_ne _ _ _ (by decide), sr_eq, up_eq]
    · rw [sr_ne _ _ _ (by decide), sr_eq, up_ne y, th_f _ _ x, d3 249 (by omega)]
    · rw [sr_ne _ _ _ (by decide), sr_ne _ _ _ (by decide), sr_eq]
    · rw [sr_ne _ _ _ z, sr_ne _ _ _ (by omega), sr_ne _ _ _ w, th_ne _ _ (by omega), d3 c (by omega)]
  · refine d4 _ (fun c hc => ?_) rfl (sr_eq _ _ _) ?_ (fun k x y z => ?_) ?_ (fun c x y z w v u => ?_)
    · rw [sr_ne _ _ _ (by omega), sd_ne _ _ (by omega), sr_ne _ _ _ (by omega), sr_ne _ _ _ (by omega), th_ne _ _ (by omega)]
    · rw [sr_ne _ _ _ (by decide), sd_f _ _ (by decide), sr_eq, up_eq]
    · rw [sr_ne _ _ _ (by decide), sd_f _ _ z, sr_eq, up_ne y, th_f _ _ x, d3 249 (by omega)]
    · rw [sr_ne _ _ _ (by decide), sd_ne _ _ (by decide), sr_ne _ _ _ (by decide), sr_eq]
    · rw [sr_ne _ _ _ z, sd_ne _ _ (by omega), sr_ne _ _ _ (by omega), sr_ne _ _ _ w, th_ne _ _ (by omega), d3 c (by omega)]
/-- nothing went by -/
theorem Inv_still {s sb : mS} (h : Inv s) (hS : SR sb 17 (s.1 251)) (h1 : ∀ c, ¬ (17 ≤ c ∧ c < 30) → ¬ (206 ≤ c ∧ c < 219) → c ≠ 245 → sb.1 c = s.1 c) (h2 : sb.2 = s.2) : Inv (wI sb 249 0 0) := by
  have e251 : sb.1 251 = s.1 251 := h1 251 (by omega) (by omega) (by omega)
  have e249 : sb.1 249 = s.1 249 := h1 249 (by omega) (by omega) (by omega)
  refine Inv_st h h.1.1 (by rw [th_ne sb 0 (by decide), e251]) (fun _ _ => rfl) (fun _ _ _ => rfl) (SR_keep hS (fun c _ _ => th_ne sb 0 (by omega))) (pPast_keep h.2.2.2.2.2.2.2.2.2 ?_ ?_ (fun i _ k _ => ?_) (fun c x y => ?_)) (fun c x y z w v => ?_) h2 (fun c x y z w v u => ?_) (fun k x y z => ?_)
  · rw [th_ne sb 0 (by decide), h1 100 (by omega) (by omega) (by omega)]
  · rw [th_f sb 0 (by decide), e249]
  · rw [pastRow_keep (s := s) (by rw [th_ne sb 0 (by decide), e251]) (by rw [th_ne sb 0 (by decide), h1 254 (by omega) (by omega) (by omega)])]
  · rw [th_ne sb 0 (by omega), h1 c (by omega) (by omega) (by omega)]
  · rw [th_ne sb 0 (by omega), h1 c y z v]
  · rw [th_ne sb 0 (by omega), h1 c (by omega) (by omega) (by omega)]
  · rw [th_f sb 0 x, e249]
theorem S_days {m : Nat} (hm : 10000 ≤ m) (n : Int) : Sim (f_X_days m n) (f_R_days m n) := by
  intro s h
  obtain ⟨⟨hW, hr, hS, -, -⟩, -⟩ := id h
  have hdy := WFs_day hW.2.1
  have n1 : ¬ (1 : Int) = 0 := by decide
  by_cases cg : 1 ≤ n ∧ n ≤ 60
  · obtain ⟨sa, a1, a2, a3, a4, a5⟩ := C_trial hS hr hW.1 m
    obtain ⟨r, sb, b1, b2, b3, b4⟩ := C_days_17 a3 a4 hW.1 hW.2.1 hm (n := n) (by omega) (by omega)
    have hX : f_X_days m n s = ((f_X_wentBy m r sb).bind fun p2 => (some (p2.1, p2.2))) := by
      rw [f_X_days_eq, if_neg (by omega), if_neg (by omega), a1, Option.bind_some, b1, Option.bind_some]
    have hc : ∀ c, ¬ (17 ≤ c ∧ c < 30) → ¬ (206 ≤ c ∧ c < 219) → c ≠ 245 → sb.1 c = s.1 c := fun c x y z => by rw [b4.1 c (by omega), a5.1 c (by omega)]
    have h2 : sb.2 = s.2 := by rw [b4.2, a5.2]
    have hRi : ∀ u : mS, f_R_isIn m n 1 60 (wI u 249 0 0) = some (1, wI u 249 0 0) := fun u => by rw [R_isIn, if_pos cg]
    by_cases c4 : s.1 251 85 = 400
    · have r0 : r = 0 := by omega
      have k0 : (min n (400 - s.1 251 85)).toNat = 0 := by omega
      rw [k0] at b3
      rw [f_X_wentBy_eq, if_neg (by omega)] at hX
      refine ⟨r, sb, wI sb 249 0 0, hX, ?_, Inv_still h b3 hc h2⟩
      rw [f_R_days_eq, hRi, Option.bind_some]
      simp only [n1, if_false]
      rw [th_ne sb 0 (by decide), hc 251 (by omega) (by omega) (by omega), if_pos c4, r0]
    · obtain ⟨w1, w2⟩ := WF_daysA (min n (400 - s.1 251 85)).toNat hW (by omega)
      obtain ⟨s3, e1, e2, e3, e4, -⟩ := Inv_went h hm w1 (fun k hk => daysA_lo _ (WFv_dead hW.1).2 k hk) (fun k hk _ => daysA_hi _ (WFv_dead hW.1).2 k hk) (r := r) (by omega) b3 (SR_keep a2 (fun c _ _ => b4.1 c (by omega))) hc h2 0
      rw [e1, Option.bind_some] at hX
      refine ⟨r, s3, _, hX, ?_, e4⟩
      rw [f_R_days_eq, hRi, Option.bind_some]
      simp only [n1, if_false]
      rw [th_ne s3 0 (by decide), e2, if_neg c4, e3, Option.bind_some]
      have q := R_days (s := sr (sr (wI s3 249 0 0) 254 (if s.1 249 25 = 8 then rowPut (shiftR (s.1 254) 0) 973 (s.1 251) 85 139 else rowPut (s.1 254) (139 * (s.1 249 25).toNat) (s.1 251) 85 139)) 249 (up ((wI s3 249 0 0).1 249) 25 (min 8 (s.1 249 25 + 1)))) (A := s.1 251) (by rw [sr_ne _ _ _ (by decide), sr_ne _ _ _ (by decide), th_ne _ _ (by decide), e2]) hW hm (n := n) (by omega) (by omega)
      rw [q, Option.bind_some, b2]
  · refine ⟨-1, s, wI s 249 0 0, ?_, ?_, Inv_thrown h 0⟩
    · rw [f_X_days_eq]
      by_cases c1 : n < 1
      · rw [if_pos c1]
      · rw [if_neg c1, if_pos (by omega)]
    · rw [f_R_days_eq, R_isIn, if_neg cg, Option.bind_some]; rfl
theorem S_drawn {m : Nat} (hm : 10000 ≤ m) (n x : Int) : Sim (f_X_drawn m n x) (f_R_drawn m n x) := by
  intro s h
  obtain ⟨⟨hW, hr, hS, -, -⟩, -⟩ := id h
  have hdy := WFs_day hW.2.1
  have n1 : ¬ (1 : Int) = 0 := by decide
  by_cases cg : 1 ≤ n ∧ n ≤ 60
  · obtain ⟨sa, a1, a2, a3, a4, a5⟩ := C_trial hS hr hW.1 m
    obtain ⟨r, sb, b1, b2, b3, b4, b5⟩ := C_draws_17 a3 a4 hW hm (n := n) (by omega) (by omega) x
    have hX : f_X_drawn m n x s = ((f_X_wentBy m r sb).bind fun p2 => (some (p2.1, p2.2))) := by
      rw [f_X_drawn_eq, if_neg (by omega), if_neg (by omega), a1, Option.bind_some, b1, Option.bind_some]
    have hc : ∀ c, ¬ (17 ≤ c ∧ c < 30) → ¬ (206 ≤ c ∧ c < 219) → c ≠ 245 → sb.1 c = s.1 c := fun c x y z => by rw [b4 c (by omega) z, a5.1 c (by omega)]
    have h2 : sb.2 = s.2 := by rw [b5, a5.2]
    have hRi : ∀ u : mS, f_R_isIn m n 1 60 (wI u 249 0 0) = some (1, wI u 249 0 0) := fun u => by rw [R_isIn, if_pos cg]
    by_cases c4 : s.1 251 85 = 400
    · have r0 : r = 0 := by omega
      have k0 : (min n (400 - s.1 251 85)).toNat = 0 := by omega
      rw [k0] at b3
      rw [f_X_wentBy_eq, if_neg (by omega)] at hX
      refine ⟨r, sb, wI sb 249 0 0, hX, ?_, Inv_still h b3 hc h2⟩
      rw [f_R_drawn_eq, hRi, Option.bind_some]
      simp only [n1, if_false]
      rw [th_ne sb 0 (by decide), hc 251 (by omega) (by omega) (by omega), if_pos c4, r0]
    · obtain ⟨w1, w2, w3⟩ := WF_draws (min n (400 - s.1 251 85)).toNat (s.1 251) x hW (by omega)
      obtain ⟨s3, e1, e2, e3, -, e4⟩ := Inv_went h hm w1 (fun k hk => w3 k (Or.inl hk)) (fun k hk hk2 => w3 k (Or.inr hk)) (r := r) (by omega) b3 (SR_keep a2 (fun c _ _ => b4 c (by omega) (by omega))) hc h2 (drawsA (min n (400 - s.1 251 85)).toNat (s.1 251, x)).2
      rw [e1, Option.bind_some] at hX
      refine ⟨r, s3, _, hX, ?_, e4⟩
      rw [f_R_drawn_eq, hRi, Option.bind_some]
      simp only [n1, if_false]
      rw [th_ne s3 0 (by decide), e2, if_neg c4, e3, Option.bind_some]
      have q := R_draws (s := sr (sr (wI s3 249 0 0) 254 (if s.1 249 25 = 8 then rowPut (shiftR (s.1 254) 0) 973 (s.1 251) 85 139 else rowPut (s.1 254) (139 * (s.1 249 25).toNat) (s.1 251) 85 139)) 249 (up ((wI s3 249 0 0).1 249) 25 (min 8 (s.1 249 25 + 1)))) (A := s.1 251) (by rw [sr_ne _ _ _ (by decide), sr_ne _ _ _ (by decide), th_ne _ _ (by decide), e2]) hW hm (n := n) (by omega) (by omega) x
      rw [q, Option.bind_some, b2]
  · refine ⟨-1, s, wI s 249 0 0, ?_, ?_, Inv_thrown h 0⟩
    · rw [f_X_drawn_eq]
      by_cases c1 : n < 1
      · rw [if_pos c1]
      · rw [if_neg c1, if_pos (by omega)]
    · rw [f_R_drawn_eq, R_isIn, if_neg cg, Option.bind_some]; rfl
theorem S_undo {m : Nat} (hm : 10000 ≤ m) : Sim (f_X_undo m) (f_R_undo m) := by
  intro s h
  obtain ⟨⟨hW, hr, hS, -, -⟩, -⟩ := id h
  obtain ⟨p1, p2, p3, p4, p5, p6⟩ := h.2.2.2.2.2.2.2.2.2
  by_cases c0 : s.1 249 25 = 0
  · refine ⟨-1, s, wI s 249 0 0, ?_, ?_, Inv_thrown h 0⟩
    · rw [f_X_undo_eq, f_Ps_backTo_eq, if_pos (by omega)]; rfl
    · rw [f_R_undo_eq, th_f _ _ (by decide), if_pos c0]
  · obtain ⟨f, hf⟩ : ∃ f : Nat, s.1 100 1 = (f : Int) := ⟨(s.1 100 1).toNat, by omega⟩
    obtain ⟨k, hk⟩ : ∃ k : Nat, s.1 100 2 = (k : Int) := ⟨(s.1 100 2).toNat, by omega⟩
    have hk2 : s.1 249 25 = (k : Int) := by rw [← p1]; exact hk
    have hl : (f + (k - 1)) % 8 < 8 := Nat.mod_lt _ (by decide)
    have q := p6 (k - 1) (by omega)
    rw [hf, Int.toNat_natCast] at q
    have hb := C_back (s := s) (m := m) (by omega) hf hk (by omega) (by omega) (by omega)
    have o := cpS_only (wI s 100 2 ((k : Int) - 1)) 17 (102 + 13 * ((f + (k - 1)) % 8))
    have hS1 : SR (cpS (wI s 100 2 ((k : Int) - 1)) 17 (102 + 13 * ((f + (k - 1)) % 8))) 17 (pastRow s (k - 1)) := cpS_SR (SR_keep q.2 (fun c _ _ => wI_ne (by omega))) q.1.1 (by omega)
    generalize cpS (wI s 100 2 ((k : Int) - 1)) 17 (102 + 13 * ((f + (k - 1)) % 8)) = s1 at hb o hS1
    have oc : ∀ c, ¬ (17 ≤ c ∧ c < 30) → c ≠ 100 → s1.1 c = s.1 c := fun c x y => by rw [o.1 c (by omega), wI_ne y]
    have o100 : s1.1 100 = (wI s 100 2 ((k : Int) - 1)).1 100 := o.1 100 (by omega)
    have t1 : (wI s1 249 0 0).1 249 25 = (k : Int) := by rw [th_f _ _ (by decide), oc 249 (by omega) (by omega), hk2]
    have e1 : w32 ((k : Int) - 1) = ((k - 1 : Nat) : Int) := by rw [w32_in (by omega) (by omega)]; omega
    have e2 : w32 (139 * ((k - 1 : Nat) : Int)) = ((139 * (k - 1) : Nat) : Int) := by rw [w32_in (by omega) (by omega)]; omega
    have rb := R_back_254 (wI (wI s1 249 0 0) 249 25 ((k - 1 : Nat) : Int)) (m := m) (by omega) (o := 139 * (k - 1)) (by omega)
    have t2 : (wI (wI s1 249 0 0) 249 25 ((k - 1 : Nat) : Int)).1 251 = s.1 251 := by rw [wI_ne (by decide), wI_ne (by decide), oc 251 (by omega) (by omega)]
    have t3 : (wI (wI s1 249 0 0) 249 25 ((k - 1 : Nat) : Int)).1 254 = s.1 254 := by rw [wI_ne (by decide), wI_ne (by decide), oc 254 (by omega) (by omega)]
    rw [t2, t3] at rb
    refine ⟨(k : Int) - 1, s1, sr (wI (wI s1 249 0 0) 249 25 ((k - 1 : Nat) : Int)) 251 (pastRow s (k - 1)), ?_, ?_, ?_⟩
    · rw [f_X_undo_eq, hb]; rfl
    · rw [f_R_undo_eq, t1, if_neg (by omega), e1, wI_at, e2, rb, Option.bind_some]
      simp only []
      rw [sr_ne _ _ _ (by decide), wI_at, show ((k - 1 : Nat) : Int) = (k : Int) - 1 from by omega]
      rfl
    · have pl : ∀ q, q < 85 → pastRow s (k - 1) q = s.1 251 q := fun q hq => by rw [pastRow_at, if_neg (by omega)]
      refine Inv_st h q.1 (sr_eq _ _ _) pl (fun q h1 h2 => by rw [pastRow_at, if_neg (by omega)]) (SR_keep hS1 (fun c _ _ => by rw [sr_ne _ _ _ (by omega), wI_ne (by omega), wI_ne (by omega)])) ?_ (fun c x y z w v => ?_) ?_ (fun c x y z w v u => ?_) (fun j x y z => ?_)
      · unfold pPast
        have g100 : (sr (wI (wI s1 249 0 0) 249 25 ((k - 1 : Nat) : Int)) 251 (pastRow s (k - 1))).1 100 = s1.1 100 := by rw [sr_ne _ _ _ (by decide), wI_ne (by decide), wI_ne (by decide)]
        have g25 : (sr (wI (wI s1 249 0 0) 249 25 ((k - 1 : Nat) : Int)) 251 (pastRow s (k - 1))).1 249 25 = ((k - 1 : Nat) : Int) := by rw [sr_ne _ _ _ (by decide), wI_at]
        have g1 : s1.1 100 1 = (f : Int) := by rw [o100, wI_f (by decide)]; exact hf
        have g2 : s1.1 100 2 = (k : Int) - 1 := by rw [o100, wI_at]
        rw [g100, g25, g1, g2]
        refine ⟨by omega, by omega, by omega, by omega, by omega, fun i hi => ?_⟩
        have r := p6 i (by omega)
        rw [hf] at r
        have er : ∀ q, q < 224 → pastRow (sr (wI (wI s1 249 0 0) 249 25 ((k - 1 : Nat) : Int)) 251 (pastRow s (k - 1))) i q = pastRow s i q := by
          intro q hq
          rw [pastRow_at, pastRow_at, sr_eq, sr_ne _ _ _ (by decide), t3]
          by_cases c2 : 85 ≤ q ∧ q < 224
          · rw [if_pos c2, if_pos c2]
          · rw [if_neg c2, if_neg c2, pl q (by omega)]
        have hl2 : ((f : Int).toNat + i) % 8 < 8 := Nat.mod_lt _ (by decide)
        exact ⟨WF_cg r.1 er, SR_cg (SR_keep r.2 (fun c x y => by rw [sr_ne _ _ _ (by omega), wI_ne (by omega), wI_ne (by omega), oc c (by omega) (by omega)])) r.1.1 er⟩
      · rw [sr_ne _ _ _ (by omega), wI_ne (by omega), wI_ne (by omega), oc c y (by omega)]
      · show s1.2 = s.2
        exact o.2
      · rw [sr_ne _ _ _ z, wI_ne (by omega), wI_ne (by omega), oc c (by omega) (by omega)]
      · rw [sr_ne _ _ _ (by decide), wI_f y, wI_f x, oc 249 (by omega) (by omega)]
