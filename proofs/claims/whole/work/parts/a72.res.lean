/-! ===== written by gen_a72.py: restore ===== -/
theorem S_res0 {m : Nat} (hm : 10000 ≤ m) : Sim (f_X_restore m 0) (f_R_restore m 0) := by
  intro s h
  obtain ⟨n, hn⟩ : ∃ n, m = n + 1 + 1 := ⟨m - 2, by omega⟩
  have ez : (0 : Int).toNat = 0 := rfl
  have n1 : ¬ (1 : Int) = 0 := by decide
  have img := h.2.2.2.2.2.2.2.1
  have hX : f_X_restore m 0 s = if s.1 36 3 = 0 then some (0, s) else ((f_Wd_copyOf_3_36 m s).bind fun p0 => ((f_Ps_forget m p0.2).bind fun p1 => (some (1, p1.2)))) := by
    rw [f_X_restore_eq, if_neg (by decide), if_pos (by decide), inR_pos (by decide) (by decide), ez, R0_35.1]
    rw [show l_X_restore_L15 m m = l_X_restore_L15 m (n + 1 + 1) from by rw [← hn], l_X_restore_L15_eq0, inR_pos (by decide) (by decide), ez, R0_35.1, l_X_restore_L33_eq0]
  rcases img.2 with q | ⟨q1, q2⟩
  · refine ⟨0, s, wI s 249 0 0, by rw [hX, if_pos (by rw [img.1]; exact q)], ?_, Inv_thrown h 0⟩
    rw [f_R_restore_eq, R_isIn, if_pos (by decide), Option.bind_some]
    simp only [n1, if_false]
    rw [inR_pos (by decide) (by decide), ez, wI_ne (by decide), if_pos q]
  · have hb : s.1 37 6 = 0 ∨ s.1 37 6 = 1 := q2.2.1.2.2.2.2.2.2.2.2.2.2
    have ck : ¬ s.1 36 3 = 0 := by rw [img.1, q1]; exact n1
    rw [if_neg ck, cpW_3_36 m hb, Option.bind_some, f_Ps_forget_eq, Option.bind_some] at hX
    have cw := cpW_3_36_W q2
    have c1 : ∀ c, ¬ (4 ≤ c ∧ c < 34) → c ≠ 100 → (wI (wI (cpW s 4 37 17 50 30 63) 100 1 0) 100 2 0).1 c = s.1 c := fun c x y => by rw [wI_ne y, wI_ne y, cpW_3_36_1 s (by omega)]
    have c2 : ∀ c, ¬ (4 ≤ c ∧ c < 17) → (wI (wI (cpW s 4 37 17 50 30 63) 100 1 0) 100 2 0).2 c = s.2 c := fun c x => by rw [wI_2, wI_2, cpW_3_36_2 s (by omega)]
    have cw' : World (wI (wI (cpW s 4 37 17 50 30 63) 100 1 0) 100 2 0) 4 17 30 (imgRow s 0) (imgNames s 0) := World_keep cw (fun c _ _ => by rw [wI_ne (by omega), wI_ne (by omega)]) (fun c _ _ => rfl) (fun c _ _ => by rw [wI_ne (by omega), wI_ne (by omega)]) (fun c _ _ => by rw [wI_ne (by omega), wI_ne (by omega)])
    have p1 : (wI (wI (cpW s 4 37 17 50 30 63) 100 1 0) 100 2 0).1 100 1 = 0 := by rw [wI_f (by decide), wI_at]
    have p2 : (wI (wI (cpW s 4 37 17 50 30 63) 100 1 0) 100 2 0).1 100 2 = 0 := wI_at
    generalize wI (wI (cpW s 4 37 17 50 30 63) 100 1 0) 100 2 0 = s1 at hX c1 c2 cw' p1 p2
    have r := R_res (s := s1) hm (q := 0) (by decide) (by rw [c1 260 (by omega) (by omega)]; exact q1)
    refine ⟨1, s1, _, hX, r, ?_⟩
    rw [c1 253 (by omega) (by omega), c1 251 (by omega) (by omega), c2 259 (by omega), c2 257 (by omega)]
    generalize hs2 : wI (sj (sr (wI s1 249 0 0) 251 (rowPut (s.1 251) 0 (s.1 253) (466 * 0) 466)) 257 (rowPut (s.2 257) 0 (s.2 259) (26 * 0) 26)) 249 25 0 = s2
    have e1 : ∀ c, c ≠ 249 → c ≠ 251 → s2.1 c = s1.1 c := fun c x y => by rw [← hs2, wI_ne x, sj_1, sr_ne _ _ _ y, wI_ne x]
    have e2 : ∀ c, c ≠ 257 → s2.2 c = s1.2 c := fun c x => by rw [← hs2, wI_2, sj_ne _ _ _ x]; rfl
    have e3 : s2.1 251 = rowPut (s.1 251) 0 (s.1 253) (466 * 0) 466 := by rw [← hs2, wI_ne (by decide), sj_1, sr_eq]
    have e4 : s2.2 257 = rowPut (s.2 257) 0 (s.2 259) (26 * 0) 26 := by rw [← hs2, wI_2, sj_eq]
    have e5 : s2.1 249 25 = 0 := by rw [← hs2, wI_at]
    have e7 : ∀ k, k ≠ 0 → k ≠ 25 → s2.1 249 k = s.1 249 k := fun k hk hk2 => by rw [← hs2, wI_f hk2, sj_1, sr_ne _ _ _ (by decide), wI_f hk, c1 249 (by omega) (by omega)]
    have g : ∀ c, ¬ (4 ≤ c ∧ c < 34) → c ≠ 100 → c ≠ 249 → c ≠ 251 → s2.1 c = s.1 c := fun c x y z w => by rw [e1 c z w, c1 c x y]
    have gj : ∀ c, ¬ (4 ≤ c ∧ c < 17) → c ≠ 257 → s2.2 c = s.2 c := fun c x y => by rw [e2 c y, c2 c x]
    obtain ⟨g1, g2, g3, g4, g5, g6, g7, g8, g9, g10⟩ := h
    refine ⟨?_, pTape_keep g2 (by rw [g 1 (by omega) (by omega) (by omega) (by omega)]) (g _ (by omega) (by omega) (by omega) (by omega)) (e7 _ (by omega) (by omega)) (g _ (by omega) (by omega) (by omega) (by omega)), pMisc_keep g3 (by rw [g 0 (by omega) (by omega) (by omega) (by omega)]) (by rw [g 0 (by omega) (by omega) (by omega) (by omega)]) (by rw [g 0 (by omega) (by omega) (by omega) (by omega)]) (e7 _ (by omega) (by omega)) (e7 _ (by omega) (by omega)) (e7 _ (by omega) (by omega)), pRing_keep g4 (by rw [g 0 (by omega) (by omega) (by omega) (by omega)]) (e7 _ (by omega) (by omega)) (g _ (by omega) (by omega) (by omega) (by omega)) (g _ (by omega) (by omega) (by omega) (by omega)), pTag_keep g5 (by rw [g 0 (by omega) (by omega) (by omega) (by omega)]) (e7 _ (by omega) (by omega)) (g _ (by omega) (by omega) (by omega) (by omega)) (g _ (by omega) (by omega) (by omega) (by omega)), pTold_keep g6 (by rw [g 0 (by omega) (by omega) (by omega) (by omega)]) (e7 _ (by omega) (by omega)) (g _ (by omega) (by omega) (by omega) (by omega)) (g _ (by omega) (by omega) (by omega) (by omega)), pMatch_keep g7 (e7 _ (by omega) (by omega)) (g _ (by omega) (by omega) (by omega) (by omega)) (g _ (by omega) (by omega) (by omega) (by omega)), pImg_keep g8 (fun c _ _ => g c (by omega) (by omega) (by omega) (by omega)) (fun c _ _ => gj c (by omega) (by omega)) (g _ (by omega) (by omega) (by omega) (by omega)) (gj _ (by omega) (by omega)) (g _ (by omega) (by omega) (by omega) (by omega)), pImg_keep g9 (fun c _ _ => g c (by omega) (by omega) (by omega) (by omega)) (fun c _ _ => gj c (by omega) (by omega)) (g _ (by omega) (by omega) (by omega) (by omega)) (gj _ (by omega) (by omega)) (g _ (by omega) (by omega) (by omega) (by omega)), ?_⟩
    · refine World_cg (World_keep cw' (fun c _ _ => e1 c (by omega) (by omega)) (fun c _ _ => e2 c (by omega)) (fun c _ _ => e1 c (by omega) (by omega)) (fun c _ _ => e1 c (by omega) (by omega))) (fun q hq => ?_) (fun q hq => ?_)
      · unfold imgRow; rw [e3]; unfold rowPut; rw [if_pos (by omega), Nat.sub_zero]
      · unfold imgNames; rw [e4]; unfold rowPut; rw [if_pos (by omega), Nat.sub_zero]
    · unfold pPast
      have g100 : s2.1 100 = s1.1 100 := e1 100 (by decide) (by decide)
      rw [g100, p1, p2, e5]
      exact ⟨rfl, by omega, by omega, by omega, by omega, fun i hi => by omega⟩
theorem S_res1 {m : Nat} (hm : 10000 ≤ m) : Sim (f_X_restore m 1) (f_R_restore m 1) := by
  intro s h
  obtain ⟨n, hn⟩ : ∃ n, m = n + 1 + 1 := ⟨m - 2, by omega⟩
  have ez : (1 : Int).toNat = 1 := rfl
  have n1 : ¬ (1 : Int) = 0 := by decide
  have img := h.2.2.2.2.2.2.2.2.1
  have hX : f_X_restore m 1 s = if s.1 68 3 = 0 then some (0, s) else ((f_Wd_copyOf_3_68 m s).bind fun p0 => ((f_Ps_forget m p0.2).bind fun p1 => (some (1, p1.2)))) := by
    rw [f_X_restore_eq, if_neg (by decide), if_pos (by decide), inR_pos (by decide) (by decide), ez, R0_35.2]
    rw [show l_X_restore_L15 m m = l_X_restore_L15 m (n + 1 + 1) from by rw [← hn], l_X_restore_L15_eq1, inR_pos (by decide) (by decide), ez, R0_35.2, l_X_restore_L33_eq1]
  rcases img.2 with q | ⟨q1, q2⟩
  · refine ⟨0, s, wI s 249 0 0, by rw [hX, if_pos (by rw [img.1]; exact q)], ?_, Inv_thrown h 0⟩
    rw [f_R_restore_eq, R_isIn, if_pos (by decide), Option.bind_some]
    simp only [n1, if_false]
    rw [inR_pos (by decide) (by decide), ez, wI_ne (by decide), if_pos q]
  · have hb : s.1 69 6 = 0 ∨ s.1 69 6 = 1 := q2.2.1.2.2.2.2.2.2.2.2.2.2
    have ck : ¬ s.1 68 3 = 0 := by rw [img.1, q1]; exact n1
    rw [if_neg ck, cpW_3_68 m hb, Option.bind_some, f_Ps_forget_eq, Option.bind_some] at hX
    have cw := cpW_3_68_W q2
    have c1 : ∀ c, ¬ (4 ≤ c ∧ c < 34) → c ≠ 100 → (wI (wI (cpW s 4 69 17 82 30 95) 100 1 0) 100 2 0).1 c = s.1 c := fun c x y => by rw [wI_ne y, wI_ne y, cpW_3_68_1 s (by omega)]
    have c2 : ∀ c, ¬ (4 ≤ c ∧ c < 17) → (wI (wI (cpW s 4 69 17 82 30 95) 100 1 0) 100 2 0).2 c = s.2 c := fun c x => by rw [wI_2, wI_2, cpW_3_68_2 s (by omega)]
    have cw' : World (wI (wI (cpW s 4 69 17 82 30 95) 100 1 0) 100 2 0) 4 17 30 (imgRow s 1) (imgNames s 1) := World_keep cw (fun c _ _ => by rw [wI_ne (by omega), wI_ne (by omega)]) (fun c _ _ => rfl) (fun c _ _ => by rw [wI_ne (by omega), wI_ne (by omega)]) (fun c _ _ => by rw [wI_ne (by omega), wI_ne (by omega)])
    have p1 : (wI (wI (cpW s 4 69 17 82 30 95) 100 1 0) 100 2 0).1 100 1 = 0 := by rw [wI_f (by decide), wI_at]
    have p2 : (wI (wI (cpW s 4 69 17 82 30 95) 100 1 0) 100 2 0).1 100 2 = 0 := wI_at
    generalize wI (wI (cpW s 4 69 17 82 30 95) 100 1 0) 100 2 0 = s1 at hX c1 c2 cw' p1 p2
    have r := R_res (s := s1) hm (q := 1) (by decide) (by rw [c1 260 (by omega) (by omega)]; exact q1)
    refine ⟨1, s1, _, hX, r, ?_⟩
    rw [c1 253 (by omega) (by omega), c1 251 (by omega) (by omega), c2 259 (by omega), c2 257 (by omega)]
    generalize hs2 : wI (sj (sr (wI s1 249 0 0) 251 (rowPut (s.1 251) 0 (s.1 253) (466 * 1) 466)) 257 (rowPut (s.2 257) 0 (s.2 259) (26 * 1) 26)) 249 25 0 = s2
    have e1 : ∀ c, c ≠ 249 → c ≠ 251 → s2.1 c = s1.1 c := fun c x y => by rw [← hs2, wI_ne x, sj_1, sr_ne _ _ _ y, wI_ne x]
    have e2 : ∀ c, c ≠ 257 → s2.2 c = s1.2 c := fun c x => by rw [← hs2, wI_2, sj_ne _ _ _ x]; rfl
    have e3 : s2.1 251 = rowPut (s.1 251) 0 (s.1 253) (466 * 1) 466 := by rw [← hs2, wI_ne (by decide), sj_1, sr_eq]
    have e4 : s2.2 257 = rowPut (s.2 257) 0 (s.2 259) (26 * 1) 26 := by rw [← hs2, wI_2, sj_eq]
    have e5 : s2.1 249 25 = 0 := by rw [← hs2, wI_at]
    have e7 : ∀ k, k ≠ 0 → k ≠ 25 → s2.1 249 k = s.1 249 k := fun k hk hk2 => by rw [← hs2, wI_f hk2, sj_1, sr_ne _ _ _ (by decide), wI_f hk, c1 249 (by omega) (by omega)]
    have g : ∀ c, ¬ (4 ≤ c ∧ c < 34) → c ≠ 100 → c ≠ 249 → c ≠ 251 → s2.1 c = s.1 c := fun c x y z w => by rw [e1 c z w, c1 c x y]
    have gj : ∀ c, ¬ (4 ≤ c ∧ c < 17) → c ≠ 257 → s2.2 c = s.2 c := fun c x y => by rw [e2 c y, c2 c x]
    obtain ⟨g1, g2, g3, g4, g5, g6, g7, g8, g9, g10⟩ := h
    refine ⟨?_, pTape_keep g2 (by rw [g 1 (by omega) (by omega) (by omega) (by omega)]) (g _ (by omega) (by omega) (by omega) (by omega)) (e7 _ (by omega) (by omega)) (g _ (by omega) (by omega) (by omega) (by omega)), pMisc_keep g3 (by rw [g 0 (by omega) (by omega) (by omega) (by omega)]) (by rw [g 0 (by omega) (by omega) (by omega) (by omega)]) (by rw [g 0 (by omega) (by omega) (by omega) (by omega)]) (e7 _ (by omega) (by omega)) (e7 _ (by omega) (by omega)) (e7 _ (by omega) (by omega)), pRing_keep g4 (by rw [g 0 (by omega) (by omega) (by omega) (by omega)]) (e7 _ (by omega) (by omega)) (g _ (by omega) (by omega) (by omega) (by omega)) (g _ (by omega) (by omega) (by omega) (by omega)), pTag_keep g5 (by rw [g 0 (by omega) (by omega) (by omega) (by omega)]) (e7 _ (by omega) (by omega)) (g _ (by omega) (by omega) (by omega) (by omega)) (g _ (by omega) (by omega) (by omega) (by omega)), pTold_keep g6 (by rw [g 0 (by omega) (by omega) (by omega) (by omega)]) (e7 _ (by omega) (by omega)) (g _ (by omega) (by omega) (by omega) (by omega)) (g _ (by omega) (by omega) (by omega) (by omega)), pMatch_keep g7 (e7 _ (by omega) (by omega)) (g _ (by omega) (by omega) (by omega) (by omega)) (g _ (by omega) (by omega) (by omega) (by omega)), pImg_keep g8 (fun c _ _ => g c (by omega) (by omega) (by omega) (by omega)) (fun c _ _ => gj c (by omega) (by omega)) (g _ (by omega) (by omega) (by omega) (by omega)) (gj _ (by omega) (by omega)) (g _ (by omega) (by omega) (by omega) (by omega)), pImg_keep g9 (fun c _ _ => g c (by omega) (by omega) (by omega) (by omega)) (fun c _ _ => gj c (by omega) (by omega)) (g _ (by omega) (by omega) (by omega) (by omega)) (gj _ (by omega) (by omega)) (g _ (by omega) (by omega) (by omega) (by omega)), ?_⟩
    · refine World_cg (World_keep cw' (fun c _ _ => e1 c (by omega) (by omega)) (fun c _ _ => e2 c (by omega)) (fun c _ _ => e1 c (by omega) (by omega)) (fun c _ _ => e1 c (by omega) (by omega))) (fun q hq => ?_) (fun q hq => ?_)
      · unfold imgRow; rw [e3]; unfold rowPut; rw [if_pos (by omega), Nat.sub_zero]
      · unfold imgNames; rw [e4]; unfold rowPut; rw [if_pos (by omega), Nat.sub_zero]
    · unfold pPast
      have g100 : s2.1 100 = s1.1 100 := e1 100 (by decide) (by decide)
      rw [g100, p1, p2, e5]
      exact ⟨rfl, by omega, by omega, by omega, by omega, fun i hi => by omega⟩
theorem S_restore {m : Nat} (hm : 10000 ≤ m) (a : Int) : Sim (f_X_restore m a) (f_R_restore m a) := by
  by_cases c0 : a = 0
  · subst c0; exact S_res0 hm
  · by_cases c1 : a = 1
    · subst c1; exact S_res1 hm
    · intro s h
      refine ⟨0, s, wI s 249 0 0, ?_, ?_, Inv_thrown h 0⟩
      · rw [f_X_restore_eq]
        by_cases c2 : a < 0
        · rw [if_pos c2]
        · rw [if_neg c2, if_neg (by omega)]
      · rw [f_R_restore_eq, R_isIn, if_neg (by omega), Option.bind_some]; rfl
