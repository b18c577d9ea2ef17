/-! ===== layer 3: feed, end, days, undo ===== -/
def pushC (s : mS) (v : Int) : mS := wI (wI s 2 (s.1 1 1).toNat v) 1 1 (s.1 1 1 + 1)
def pushR (s : mS) (v : Int) : mS := wI (wI s 250 (s.1 249 2).toNat v) 249 2 (s.1 249 2 + 1)
def bsC (x : Int) : List Int := [b8 (b8 (bushr x 24)), b8 (b8 (bushr x 16)), b8 (b8 (bushr x 8)), b8 (b8 (bushr x 0))]
def bsR (x : Int) : List Int := [band (bushr x 24) 255, band (bushr x 16) 255, band (bushr x 8) 255, band (bushr x 0) 255]
theorem pushC_len (s : mS) (v : Int) : (pushC s v).1 1 1 = s.1 1 1 + 1 := wI_at
theorem pushR_len (s : mS) (v : Int) : (pushR s v).1 249 2 = s.1 249 2 + 1 := wI_at
theorem C_append {s : mS} {m : Nat} (hm : 10 ≤ m) (x : Int) (h0 : 0 ≤ s.1 1 1) (h1 : s.1 1 1 + 4 ≤ 940) : f_Tp_append m x s = some (0, (bsC x).foldl pushC s) := by
  obtain ⟨n, hn⟩ : ∃ n, m = n + 1 + 1 + 1 + 1 + 1 := ⟨m - 5, by omega⟩
  have step : ∀ (k : Nat) (u : mS) (y : Int), 0 ≤ y → y ≤ 24 → 0 ≤ u.1 1 1 → u.1 1 1 < 940 → l_Tp_append_L3 m (k + 1) x y u = l_Tp_append_L3 m k x (y - 8) (pushC u (b8 (b8 (bushr x y)))) := by
    intro k u y y0 y1 u0 u1
    have e : (wI u 2 (u.1 1 1).toNat (b8 (b8 (bushr x y)))).1 1 1 = u.1 1 1 := by rw [wI_ne (by decide)]
    rw [l_Tp_append_L3_eq, if_neg (by omega), if_pos u1, inR_pos u0 (by omega), e, w32_in (by omega) (by omega), w32_in (by omega) (by omega)]
    rfl
  rw [f_Tp_append_eq]
  rw [show l_Tp_append_L3 m m = l_Tp_append_L3 m (n + 1 + 1 + 1 + 1 + 1) from by rw [← hn]]
  have c1 := pushC_len s (b8 (b8 (bushr x 24)))
  have c2 := pushC_len (pushC s (b8 (b8 (bushr x 24)))) (b8 (b8 (bushr x 16)))
  have c3 := pushC_len (pushC (pushC s (b8 (b8 (bushr x 24)))) (b8 (b8 (bushr x 16)))) (b8 (b8 (bushr x 8)))
  rw [step _ s 24 (by omega) (by omega) h0 (by omega), show (24 : Int) - 8 = 16 from rfl, step _ _ 16 (by omega) (by omega) (by omega) (by omega), show (16 : Int) - 8 = 8 from rfl, step _ _ 8 (by omega) (by omega) (by omega) (by omega), show (8 : Int) - 8 = 0 from rfl, step _ _ 0 (by omega) (by omega) (by omega) (by omega), l_Tp_append_L3_eq, if_pos (by decide)]
  rfl
theorem R_comea {s : mS} {m : Nat} (hm : 10 ≤ m) (x : Int) (h0 : 0 ≤ s.1 249 2) (h1 : s.1 249 2 + 4 ≤ 940) : f_R_comea m x s = some (0, (bsR x).foldl pushR s) := by
  obtain ⟨n, hn⟩ : ∃ n, m = n + 1 + 1 + 1 + 1 + 1 := ⟨m - 5, by omega⟩
  have step : ∀ (k : Nat) (u : mS) (y : Int), 0 ≤ y → y ≤ 24 → 0 ≤ u.1 249 2 → u.1 249 2 < 940 → l_R_comea_L3 m (k + 1) x y u = l_R_comea_L3 m k x (y - 8) (pushR u (band (bushr x y) 255)) := by
    intro k u y y0 y1 u0 u1
    have e : (wI u 250 (u.1 249 2).toNat (band (bushr x y) 255)).1 249 2 = u.1 249 2 := by rw [wI_ne (by decide)]
    rw [l_R_comea_L3_eq, if_neg (by omega), inR_pos u0 (by omega), e, w32_in (by omega) (by omega), w32_in (by omega) (by omega)]
    rfl
  rw [f_R_comea_eq]
  rw [show l_R_comea_L3 m m = l_R_comea_L3 m (n + 1 + 1 + 1 + 1 + 1) from by rw [← hn]]
  have c1 := pushR_len s (band (bushr x 24) 255)
  have c2 := pushR_len (pushR s (band (bushr x 24) 255)) (band (bushr x 16) 255)
  have c3 := pushR_len (pushR (pushR s (band (bushr x 24) 255)) (band (bushr x 16) 255)) (band (bushr x 8) 255)
  rw [step _ s 24 (by omega) (by omega) h0 (by omega), show (24 : Int) - 8 = 16 from rfl, step _ _ 16 (by omega) (by omega) (by omega) (by omega), show (16 : Int) - 8 = 8 from rfl, step _ _ 8 (by omega) (by omega) (by omega) (by omega), show (8 : Int) - 8 = 0 from rfl, step _ _ 0 (by omega) (by omega) (by omega) (by omega), l_R_comea_L3_eq, if_pos (by decide)]
  rfl
theorem pushC_all : ∀ (vs : List Int) (s : mS), 0 ≤ s.1 1 1 → (vs.foldl pushC s).1 1 1 = s.1 1 1 + vs.length ∧ (vs.foldl pushC s).2 = s.2 ∧ (∀ c, c ≠ 1 → c ≠ 2 → (vs.foldl pushC s).1 c = s.1 c) ∧
    (∀ q : Nat, (vs.foldl pushC s).1 2 q = if (s.1 1 1).toNat ≤ q ∧ q < (s.1 1 1).toNat + vs.length then vs.getD (q - (s.1 1 1).toNat) 0 else s.1 2 q)
  | [], s, h => ⟨by simp, rfl, fun _ _ _ => rfl, fun q => by rw [if_neg (by simp)]; rfl⟩
  | v :: vs, s, h => by
    have hl := pushC_len s v
    obtain ⟨a1, a2, a3, a4⟩ := pushC_all vs (pushC s v) (by omega)
    have e2 : ∀ c, c ≠ 1 → c ≠ 2 → (pushC s v).1 c = s.1 c := by intro c h1 h2; unfold pushC; rw [wI_ne h1, wI_ne h2]
    refine ⟨?_, a2, fun c h1 h2 => by rw [List.foldl_cons, a3 c h1 h2, e2 c h1 h2], fun q => ?_⟩
    · rw [List.foldl_cons, a1, hl]; simp only [List.length_cons]; omega
    · have e4 : (pushC s v).1 2 q = if q = (s.1 1 1).toNat then v else s.1 2 q := by
        unfold pushC; rw [wI_ne (by decide), wI_1]; by_cases hq : q = (s.1 1 1).toNat
        · rw [if_pos ⟨rfl, hq⟩, if_pos hq]
        · rw [if_neg (fun h => hq h.2), if_neg hq]
      have e5 : (s.1 1 1 + 1).toNat = (s.1 1 1).toNat + 1 := by omega
      rw [List.foldl_cons, a4 q, hl, e4, e5]
      simp only [List.length_cons]
      by_cases hq : q = (s.1 1 1).toNat
      · rw [if_neg (by omega), if_pos hq, if_pos (by omega), hq, Nat.sub_self]; rfl
      · by_cases hr : (s.1 1 1).toNat + 1 ≤ q ∧ q < (s.1 1 1).toNat + 1 + vs.length
        · rw [if_pos hr, if_pos (by omega), show q - (s.1 1 1).toNat = (q - ((s.1 1 1).toNat + 1)) + 1 from by omega]; rfl
        · rw [if_neg hr, if_neg hq, if_neg (by omega)]
theorem pushR_all : ∀ (vs : List Int) (s : mS), 0 ≤ s.1 249 2 → (vs.foldl pushR s).1 249 2 = s.1 249 2 + vs.length ∧ (vs.foldl pushR s).2 = s.2 ∧ (∀ c, c ≠ 249 → c ≠ 250 → (vs.foldl pushR s).1 c = s.1 c) ∧ (∀ k, k ≠ 2 → (vs.foldl pushR s).1 249 k = s.1 249 k) ∧
    (∀ q : Nat, (vs.foldl pushR s).1 250 q = if (s.1 249 2).toNat ≤ q ∧ q < (s.1 249 2).toNat + vs.length then vs.getD (q - (s.1 249 2).toNat) 0 else s.1 250 q)
  | [], s, h => ⟨by simp, rfl, fun _ _ _ => rfl, fun _ _ => rfl, fun q => by rw [if_neg (by simp)]; rfl⟩
  | v :: vs, s, h => by
    have hl := pushR_len s v
    obtain ⟨a1, a2, a3, a5, a4⟩ := pushR_all vs (pushR s v) (by omega)
    have e2 : ∀ c, c ≠ 249 → c ≠ 250 → (pushR s v).1 c = s.1 c := by intro c h1 h2; unfold pushR; rw [wI_ne h1, wI_ne h2]
    have e3 : ∀ k, k ≠ 2 → (pushR s v).1 249 k = s.1 249 k := by intro k hk; unfold pushR; rw [wI_f hk, wI_ne (by decide)]
    refine ⟨?_, a2, fun c h1 h2 => by rw [List.foldl_cons, a3 c h1 h2, e2 c h1 h2], fun k hk => by rw [List.foldl_cons, a5 k hk, e3 k hk], fun q => ?_⟩
    · rw [List.foldl_cons, a1, hl]; simp only [List.length_cons]; omega
    · have e4 : (pushR s v).1 250 q = if q = (s.1 249 2).toNat then v else s.1 250 q := by
        unfold pushR; rw [wI_ne (by decide), wI_1]; by_cases hq : q = (s.1 249 2).toNat
        · rw [if_pos ⟨rfl, hq⟩, if_pos hq]
        · rw [if_neg (fun h => hq h.2), if_neg hq]
      have e5 : (s.1 249 2 + 1).toNat = (s.1 249 2).toNat + 1 := by omega
      rw [List.foldl_cons, a4 q, hl, e4, e5]
      simp only [List.length_cons]
      by_cases hq : q = (s.1 249 2).toNat
      · rw [if_neg (by omega), if_pos hq, if_pos (by omega), hq, Nat.sub_self]; rfl
      · by_cases hr : (s.1 249 2).toNat + 1 ≤ q ∧ q < (s.1 249 2).toNat + 1 + vs.length
        · rw [if_pos hr, if_pos (by omega), show q - (s.1 249 2).toNat = (q - ((s.1 249 2).toNat + 1)) + 1 from by omega]; rfl
        · rw [if_neg hr, if_neg hq, if_neg (by omega)]
theorem bs_rel (x : Int) : ∀ i : Nat, i < 4 → -128 ≤ (bsC x).getD i 0 ∧ (bsC x).getD i 0 < 128 ∧ (bsR x).getD i 0 = (bsC x).getD i 0 % 256 := by
  have k : ∀ y : Int, -128 ≤ b8 (b8 (bushr x y)) ∧ b8 (b8 (bushr x y)) < 128 ∧ band (bushr x y) 255 = b8 (b8 (bushr x y)) % 256 := by
    intro y
    refine ⟨by unfold b8; omega, by unfold b8; omega, ?_⟩
    rw [band255 (can_bushr x y), b8_mod, b8_mod]
  intro i hi
  match i, hi with
  | 0, _ => exact k 24
  | 1, _ => exact k 16
  | 2, _ => exact k 8
  | 3, _ => exact k 0
  | n + 4, h => exact absurd h (by omega)
/-- cells of the tapes alone have changed -/
theorem Inv_tape {s s2 : mS} (h : Inv s) (h1 : ∀ c, c ≠ 1 → c ≠ 2 → c ≠ 249 → c ≠ 250 → s2.1 c = s.1 c) (h2 : s2.2 = s.2) (h4 : ∀ k, k ≠ 0 → k ≠ 2 → s2.1 249 k = s.1 249 k) (hT : pTape s2) : Inv s2 := by
  obtain ⟨g1, g2, g3, g4, g5, g6, g7, g8, g9, g10⟩ := h
  have e : ∀ c, c ≠ 1 → c ≠ 2 → c ≠ 249 → c ≠ 250 → s2.1 c = s.1 c := h1
  refine ⟨?_, hT, pMisc_keep g3 (by rw [e 0 (by omega) (by omega) (by omega) (by omega)]) (by rw [e 0 (by omega) (by omega) (by omega) (by omega)]) (by rw [e 0 (by omega) (by omega) (by omega) (by omega)]) (h4 _ (by omega) (by omega)) (h4 _ (by omega) (by omega)) (h4 _ (by omega) (by omega)),
    pRing_keep g4 (by rw [e 0 (by omega) (by omega) (by omega) (by omega)]) (h4 _ (by omega) (by omega)) (e _ (by omega) (by omega) (by omega) (by omega)) (e _ (by omega) (by omega) (by omega) (by omega)), pTag_keep g5 (by rw [e 0 (by omega) (by omega) (by omega) (by omega)]) (h4 _ (by omega) (by omega)) (e _ (by omega) (by omega) (by omega) (by omega)) (e _ (by omega) (by omega) (by omega) (by omega)), pTold_keep g6 (by rw [e 0 (by omega) (by omega) (by omega) (by omega)]) (h4 _ (by omega) (by omega)) (e _ (by omega) (by omega) (by omega) (by omega)) (e _ (by omega) (by omega) (by omega) (by omega)), pMatch_keep g7 (h4 _ (by omega) (by omega)) (e _ (by omega) (by omega) (by omega) (by omega)) (e _ (by omega) (by omega) (by omega) (by omega)),
    pImg_keep g8 (fun c _ _ => e c (by omega) (by omega) (by omega) (by omega)) (fun c _ _ => by rw [h2]) (e _ (by omega) (by omega) (by omega) (by omega)) (by rw [h2]) (e _ (by omega) (by omega) (by omega) (by omega)), pImg_keep g9 (fun c _ _ => e c (by omega) (by omega) (by omega) (by omega)) (fun c _ _ => by rw [h2]) (e _ (by omega) (by omega) (by omega) (by omega)) (by rw [h2]) (e _ (by omega) (by omega) (by omega) (by omega)), pPast_keep g10 (e _ (by omega) (by omega) (by omega) (by omega)) (h4 _ (by omega) (by omega)) (fun i _ k _ => by rw [pastRow_keep (s := s) (s' := s2) (e _ (by omega) (by omega) (by omega) (by omega)) (e _ (by omega) (by omega) (by omega) (by omega))]) (fun c _ _ => e c (by omega) (by omega) (by omega) (by omega))⟩
  rw [e 251 (by omega) (by omega) (by omega) (by omega), h2]
  exact World_keep g1 (fun c _ _ => e c (by omega) (by omega) (by omega) (by omega)) (fun c _ _ => by rw [h2]) (fun c _ _ => e c (by omega) (by omega) (by omega) (by omega)) (fun c _ _ => e c (by omega) (by omega) (by omega) (by omega))
theorem S_end (m : Nat) (a : Int) : Sim (f_X_end m a) (f_R_end m a) := by
  intro s h
  obtain ⟨t1, t2, t3, t4⟩ := h.2.1
  by_cases c : 0 ≤ a ∧ a ≤ s.1 249 2
  · have c1 : ¬ a < 0 := by omega
    have c2 : ¬ s.1 1 1 < a := by omega
    have c3 : ¬ (wI (wI s 1 1 a) 249 0 0).1 249 2 < a := by rw [th_f _ _ (by decide), wI_ne (by decide)]; omega
    refine ⟨1, wI s 1 1 a, wI (wI (wI s 1 1 a) 249 0 0) 249 2 a, by rw [f_X_end_eq, if_neg c1, if_neg c2], by rw [f_R_end_eq, if_neg c1, if_neg c3], ?_⟩
    refine Inv_tape h (fun c x y z w => by rw [wI_ne z, wI_ne z, wI_ne x]) rfl (fun k x y => by rw [wI_f y, wI_f x, wI_ne (by decide)]) ⟨?_, ?_, ?_, fun k hk => ?_⟩
    · rw [wI_ne (by decide), wI_ne (by decide), wI_at, wI_at]
    · rw [wI_at]; omega
    · rw [wI_at]; omega
    · rw [wI_ne (by decide), wI_ne (by decide), wI_ne (by decide), wI_ne (by decide), wI_ne (by decide), wI_ne (by decide)]; exact t4 k hk
  · refine ⟨0, s, wI s 249 0 0, ?_, ?_, Inv_thrown h 0⟩
    · rw [f_X_end_eq]
      by_cases c1 : a < 0
      · rw [if_pos c1]
      · rw [if_neg c1, if_pos (by omega)]
    · rw [f_R_end_eq, th_f _ _ (by decide)]
      by_cases c1 : a < 0
      · rw [if_pos c1]
      · rw [if_neg c1, if_pos (by omega)]
theorem S_feed {m : Nat} (hm : 10 ≤ m) (a b c d e : Int) : Sim (f_X_feed m a b c d e) (f_R_feed m a b c d e) := by
  intro s h
  obtain ⟨t1, t2, t3, t4⟩ := h.2.1
  have hf : (wI s 249 0 0).1 249 2 = s.1 249 2 := th_f _ _ (by decide)
  by_cases cl : 940 < s.1 249 2 + 20
  · refine ⟨-1, s, wI s 249 0 0, ?_, ?_, Inv_thrown h 0⟩
    · rw [f_X_feed_eq, t1, w32_in (by omega) (by omega), if_pos cl]
    · rw [f_R_feed_eq, hf, w32_in (by omega) (by omega), if_pos cl]
  · -- the class
    have lenC : ∀ (x : Int) (u : mS), 0 ≤ u.1 1 1 → ((bsC x).foldl pushC u).1 1 1 = u.1 1 1 + 4 := fun x u hu => by rw [(pushC_all (bsC x) u hu).1]; rfl
    have lenR : ∀ (x : Int) (u : mS), 0 ≤ u.1 249 2 → ((bsR x).foldl pushR u).1 249 2 = u.1 249 2 + 4 := fun x u hu => by rw [(pushR_all (bsR x) u hu).1]; rfl
    have hX : f_X_feed m a b c d e s = some (s.1 1 1 + 20, (bsC a ++ (bsC b ++ (bsC c ++ (bsC d ++ bsC e)))).foldl pushC s) := by
      rw [f_X_feed_eq, w32_in (by omega) (by omega), if_neg (by omega)]
      have l1 := lenC a s (by omega)
      have l2 := lenC b _ (by omega : 0 ≤ ((bsC a).foldl pushC s).1 1 1)
      have l3 := lenC c _ (by omega : 0 ≤ ((bsC b).foldl pushC ((bsC a).foldl pushC s)).1 1 1)
      have l4 := lenC d _ (by omega : 0 ≤ ((bsC c).foldl pushC ((bsC b).foldl pushC ((bsC a).foldl pushC s))).1 1 1)
      have l5 := lenC e _ (by omega : 0 ≤ ((bsC d).foldl pushC ((bsC c).foldl pushC ((bsC b).foldl pushC ((bsC a).foldl pushC s)))).1 1 1)
      have r0 := C_append (s := s) hm a (by omega) (by omega)
      have r1 := C_append (s := ((bsC a).foldl pushC s)) hm b (by omega) (by omega)
      have r2 := C_append (s := ((bsC b).foldl pushC ((bsC a).foldl pushC s))) hm c (by omega) (by omega)
      have r3 := C_append (s := ((bsC c).foldl pushC ((bsC b).foldl pushC ((bsC a).foldl pushC s)))) hm d (by omega) (by omega)
      have r4 := C_append (s := ((bsC d).foldl pushC ((bsC c).foldl pushC ((bsC b).foldl pushC ((bsC a).foldl pushC s))))) hm e (by omega) (by omega)
      rw [r0, Option.bind_some, r1, Option.bind_some, r2, Option.bind_some, r3, Option.bind_some, r4, Option.bind_some]
      simp only [List.foldl_append]
      rw [l5, l4, l3, l2, l1]
      congr 2; omega
    have hR : ∀ u : mS, u.1 249 2 = s.1 249 2 → f_R_feed m a b c d e u = some (s.1 249 2 + 20, (bsR a ++ (bsR b ++ (bsR c ++ (bsR d ++ bsR e)))).foldl pushR (wI u 249 0 0)) := by
      intro u hu
      have hu2 : (wI u 249 0 0).1 249 2 = s.1 249 2 := by rw [th_f _ _ (by decide), hu]
      rw [f_R_feed_eq, hu2, w32_in (by omega) (by omega), if_neg (by omega)]
      have l1 := lenR a (wI u 249 0 0) (by omega)
      have l2 := lenR b _ (by omega : 0 ≤ ((bsR a).foldl pushR (wI u 249 0 0)).1 249 2)
      have l3 := lenR c _ (by omega : 0 ≤ ((bsR b).foldl pushR ((bsR a).foldl pushR (wI u 249 0 0))).1 249 2)
      have l4 := lenR d _ (by omega : 0 ≤ ((bsR c).foldl pushR ((bsR b).foldl pushR ((bsR a).foldl pushR (wI u 249 0 0)))).1 249 2)
      have l5 := lenR e _ (by omega : 0 ≤ ((bsR d).foldl pushR ((bsR c).foldl pushR ((bsR b).foldl pushR ((bsR a).foldl pushR (wI u 249 0 0))))).1 249 2)
      have r0 := R_comea (s := (wI u 249 0 0)) hm a (by omega) (by omega)
      have r1 := R_comea (s := ((bsR a).foldl pushR (wI u 249 0 0))) hm b (by omega) (by omega)
      have r2 := R_comea (s := ((bsR b).foldl pushR ((bsR a).foldl pushR (wI u 249 0 0)))) hm c (by omega) (by omega)
      have r3 := R_comea (s := ((bsR c).foldl pushR ((bsR b).foldl pushR ((bsR a).foldl pushR (wI u 249 0 0))))) hm d (by omega) (by omega)
      have r4 := R_comea (s := ((bsR d).foldl pushR ((bsR c).foldl pushR ((bsR b).foldl pushR ((bsR a).foldl pushR (wI u 249 0 0)))))) hm e (by omega) (by omega)
      rw [r0, Option.bind_some, r1, Option.bind_some, r2, Option.bind_some, r3, Option.bind_some, r4, Option.bind_some]
      simp only [List.foldl_append]
      rw [l5, l4, l3, l2, l1]
      congr 2; omega
    obtain ⟨x1, x2, x3, x4⟩ := pushC_all (bsC a ++ (bsC b ++ (bsC c ++ (bsC d ++ bsC e)))) s (by omega)
    generalize hs1 : (bsC a ++ (bsC b ++ (bsC c ++ (bsC d ++ bsC e)))).foldl pushC s = s1 at hX x1 x2 x3 x4
    have k2 : s1.1 249 2 = s.1 249 2 := by rw [x3 249 (by decide) (by decide)]
    obtain ⟨y1, y2, y3, y5, y4⟩ := pushR_all (bsR a ++ (bsR b ++ (bsR c ++ (bsR d ++ bsR e)))) (wI s1 249 0 0) (by rw [th_f _ _ (by decide), k2]; omega)
    refine ⟨s.1 1 1 + 20, s1, _, hX, by rw [hR s1 k2, t1], ?_⟩
    generalize (bsR a ++ (bsR b ++ (bsR c ++ (bsR d ++ bsR e)))).foldl pushR (wI s1 249 0 0) = s2 at y1 y2 y3 y4 y5
    have ln : ((bsC a ++ (bsC b ++ (bsC c ++ (bsC d ++ bsC e)))).length : Int) = 20 := rfl
    have ln2 : ((bsR a ++ (bsR b ++ (bsR c ++ (bsR d ++ bsR e)))).length : Int) = 20 := rfl
    have ln' : (bsC a ++ (bsC b ++ (bsC c ++ (bsC d ++ bsC e)))).length = 20 := rfl
    have ln2' : (bsR a ++ (bsR b ++ (bsR c ++ (bsR d ++ bsR e)))).length = 20 := rfl
    rw [th_f _ _ (by decide), k2, ln2] at y1
    refine Inv_tape h (fun c x y z w => by rw [y3 c z w, wI_ne z, x3 c x y]) (by rw [y2]; show s1.2 = s.2; exact x2) (fun k x y => by rw [y5 k y, th_f _ _ x, x3 249 (by decide) (by decide)]) ⟨?_, by omega, by omega, fun k hk => ?_⟩
    · rw [y3 1 (by decide) (by decide), wI_ne (by decide), x1, y1, ln, t1]
    · have q2 : s2.1 2 = s1.1 2 := by rw [y3 2 (by decide) (by decide), wI_ne (by decide)]
      have q5 : (wI s1 249 0 0).1 250 = s.1 250 := by rw [wI_ne (by decide), x3 250 (by decide) (by decide)]
      have q6 := y4 k
      rw [th_f _ _ (by decide), k2, q5, ln2'] at q6
      have q7 := x4 k
      rw [t1, ln'] at q7
      rw [q2, q6, q7]
      by_cases hr : (s.1 249 2).toNat ≤ k ∧ k < (s.1 249 2).toNat + 20
      · rw [if_pos hr, if_pos hr]
        have hi : k - (s.1 249 2).toNat < 20 := by omega
        generalize k - (s.1 249 2).toNat = i at hi
        have ra := bs_rel a
        have rb := bs_rel b
        have rc := bs_rel c
        have rd := bs_rel d
        have re := bs_rel e
        match i, hi with
        | 0, _ => exact ra 0 (by omega)
        | 1, _ => exact ra 1 (by omega)
        | 2, _ => exact ra 2 (by omega)
        | 3, _ => exact ra 3 (by omega)
        | 4, _ => exact rb 0 (by omega)
        | 5, _ => exact rb 1 (by omega)
        | 6, _ => exact rb 2 (by omega)
        | 7, _ => exact rb 3 (by omega)
        | 8, _ => exact rc 0 (by omega)
        | 9, _ => exact rc 1 (by omega)
        | 10, _ => exact rc 2 (by omega)
        | 11, _ => exact rc 3 (by omega)
        | 12, _ => exact rd 0 (by omega)
        | 13, _ => exact rd 1 (by omega)
        | 14, _ => exact rd 2 (by omega)
        | 15, _ => exact rd 3 (by omega)
        | 16, _ => exact re 0 (by omega)
        | 17, _ => exact re 1 (by omega)
        | 18, _ => exact re 2 (by omega)
        | 19, _ => exact re 3 (by omega)
        | n + 20, h => exact absurd h (by omega)
      · rw [if_neg hr, if_neg hr]; exact t4 k hk
