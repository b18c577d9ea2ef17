/-! ===== written by gen_a91.py: book (1): lines read ===== -/
/-- the vestry's names, class and reference -/
def RV (s u : mS) : Prop := WFv (u.1 251) ∧ s.1 4 0 = u.1 251 0 ∧ s.1 4 1 = u.1 251 1 ∧ s.1 4 2 = u.1 251 2 ∧ VN s 4 (u.1 251) (u.2 257)
theorem RV_cg {s u s' u' : mS} (h : RV s u) (h1 : s'.1 4 = s.1 4) (h2 : ∀ c, 4 ≤ c → c ≤ 16 → s'.2 c = s.2 c) (g1 : u'.1 251 = u.1 251) (g2 : u'.2 257 = u.2 257) : RV s' u' := by
  unfold RV
  rw [h1, g1, g2]
  exact ⟨h.1, h.2.1, h.2.2.1, h.2.2.2.1, VN_keep h.2.2.2.2 (fun c x y => h2 c (by omega) (by omega))⟩
theorem RV_keep {s u s' u' : mS} (h : RV s u) (hs : KC s s') (hu : KR u u') : RV s' u' :=
  RV_cg h (hs.1 4 (by decide) (by omega)) (fun c x y => hs.2.1 c (by omega) (by omega)) (hu.1 251 (by decide) (by decide) (by decide) (by decide) (by decide)) (hu.2.1 257 (by decide) (by decide) (by decide) (by decide) (by decide))
theorem T_named_5 {m : Nat} (hm : 10000 ≤ m) {a : Int} {s u : mS} (g : TokG a s u) (cnt : Int) (h0 : 0 ≤ cnt) (hc : cnt ≤ 9) (hn : ∀ k : Nat, (k : Int) < cnt → NM (s.2 5 k) (u.2 257 (0 + k))) :
    (∃ (k : Nat) (s' u' : mS), (k : Int) < cnt ∧ ((f_Vs_see_1_5 m cnt s).bind fun p0 => (if p0.1 = (-1) then (some (p0.1, p0.2)) else ((f_Tp_advance m p0.2).bind fun p1 => (some (p0.1, p1.2))))) = some ((k : Int), s') ∧ f_R_readNamed m 0 cnt u = some (1, u') ∧ u'.1 249 13 = (k : Int) ∧ TokG (a + 1) s' u' ∧ TF s s' ∧ RF u u') ∨
    (∃ s' u', ((f_Vs_see_1_5 m cnt s).bind fun p0 => (if p0.1 = (-1) then (some (p0.1, p0.2)) else ((f_Tp_advance m p0.2).bind fun p1 => (some (p0.1, p1.2))))) = some (-1, s') ∧ f_R_readNamed m 0 cnt u = some (0, u') ∧ Flt s' u' ∧ TF s s' ∧ RF u u') := by
  rw [f_Vs_see_1_5_eq, f_R_readNamed_eq, R_isName (by omega) g.1, Option.bind_some]
  dsimp only
  by_cases k3 : s.1 1 2 = 3
  · have nm := T_name g.1 k3
    have ef := fnd_rel (s.2 5) (fun j => u.2 257 (0 + j)) (s.2 1 4) (u.2 249 12) nm cnt.toNat 0 (fun j _ hj => hn j (by omega))
    have rg := fnd_rng (s.2 5) (s.2 1 4) cnt.toNat 0
    have rf := R_find_257 (m := m) (by omega) (u.2 249 12) 0 cnt h0 (by omega) u
    rw [show ((0 : Nat) : Int) = 0 from rfl, ← ef] at rf
    rw [if_pos k3, if_pos k3, if_neg (show ¬ (1 : Int) = 0 from by decide), C_place_5 (by omega) _ cnt h0 hc, Option.bind_some, rf, Option.bind_some]
    dsimp only
    rw [wI_at]
    by_cases c : fndA (s.2 5) (s.2 1 4) cnt.toNat 0 = -1
    · right
      rw [if_pos c, if_pos c, c]
      obtain ⟨s', u', r1, r2, r3, r4, r5⟩ := T_fail m (TokR_told g.1 (-1)) (kc := 3) (kr := 3) (by rw [if_neg (by omega)]) (by decide)
      rw [r1, r2, Option.bind_some, Option.bind_some]
      exact ⟨s', u', rfl, rfl, r3, r4, RF_trans (RF_w (by omega)) r5⟩
    · left
      rw [if_neg c, if_neg c, Option.bind_some]
      dsimp only
      rw [if_neg c]
      obtain ⟨s', u', r1, r2, r3, r4, r5, r6⟩ := T_adv hm (TokG_told g (fndA (s.2 5) (s.2 1 4) cnt.toNat 0)) (by omega) (by omega)
      rw [r1, r2, Option.bind_some, Option.bind_some]
      refine ⟨(fndA (s.2 5) (s.2 1 4) cnt.toNat 0).toNat, s', u', by omega, ?_, rfl, ?_, r3, r4, RF_trans (RF_w (by omega)) r5⟩
      · rw [Int.toNat_of_nonneg (by omega)]
      · rw [r6, wI_at, Int.toNat_of_nonneg (by omega)]
  · right
    obtain ⟨s', u', r1, r2, r3, r4, r5⟩ := T_fail m g.1 (kc := 1) (kr := 1) (by split <;> rfl) (by decide)
    rw [if_neg k3, if_neg k3, if_pos rfl, r1, r2]
    exact ⟨s', u', rfl, rfl, r3, r4, r5⟩
theorem T_box {m : Nat} (hm : 10000 ≤ m) {a : Int} {s u : mS} (g : TokG a s u) (h : RV s u) :
    (∃ (k : Nat) (s' u' : mS), (k : Int) < u.1 251 0 ∧ f_Vs_takeBox_4_1 m s = some ((k : Int), s') ∧ f_R_readBoxName m u = some (1, u') ∧ u'.1 249 13 = (k : Int) ∧ TokG (a + 1) s' u' ∧ TF s s' ∧ RF u u') ∨
    (∃ s' u', f_Vs_takeBox_4_1 m s = some (-1, s') ∧ f_R_readBoxName m u = some (0, u') ∧ Flt s' u' ∧ TF s s' ∧ RF u u') := by
  have W := WFv_boxes h.1
  rw [f_Vs_takeBox_4_1_eq, h.2.1, f_R_readBoxName_eq]
  rcases T_named_5 hm g (u.1 251 0) (by omega) (by omega) (fun k hk => by rw [Nat.zero_add]; exact h.2.2.2.2.1 k hk) with ⟨k, s', u', r1, r2, r3, r4⟩ | ⟨s', u', r1, r2, r3⟩
  · left
    exact ⟨k, s', u', r1, r2, by rw [r3]; rfl, r4⟩
  · right
    exact ⟨s', u', r1, by rw [r2]; rfl, r3⟩
theorem T_named_10 {m : Nat} (hm : 10000 ≤ m) {a : Int} {s u : mS} (g : TokG a s u) (cnt : Int) (h0 : 0 ≤ cnt) (hc : cnt ≤ 12) (hn : ∀ k : Nat, (k : Int) < cnt → NM (s.2 10 k) (u.2 257 (14 + k))) :
    (∃ (k : Nat) (s' u' : mS), (k : Int) < cnt ∧ ((f_Vs_see_1_10 m cnt s).bind fun p0 => (if p0.1 = (-1) then (some (p0.1, p0.2)) else ((f_Tp_advance m p0.2).bind fun p1 => (some (p0.1, p1.2))))) = some ((k : Int), s') ∧ f_R_readNamed m 14 cnt u = some (1, u') ∧ u'.1 249 13 = (k : Int) ∧ TokG (a + 1) s' u' ∧ TF s s' ∧ RF u u') ∨
    (∃ s' u', ((f_Vs_see_1_10 m cnt s).bind fun p0 => (if p0.1 = (-1) then (some (p0.1, p0.2)) else ((f_Tp_advance m p0.2).bind fun p1 => (some (p0.1, p1.2))))) = some (-1, s') ∧ f_R_readNamed m 14 cnt u = some (0, u') ∧ Flt s' u' ∧ TF s s' ∧ RF u u') := by
  rw [f_Vs_see_1_10_eq, f_R_readNamed_eq, R_isName (by omega) g.1, Option.bind_some]
  dsimp only
  by_cases k3 : s.1 1 2 = 3
  · have nm := T_name g.1 k3
    have ef := fnd_rel (s.2 10) (fun j => u.2 257 (14 + j)) (s.2 1 4) (u.2 249 12) nm cnt.toNat 0 (fun j _ hj => hn j (by omega))
    have rg := fnd_rng (s.2 10) (s.2 1 4) cnt.toNat 0
    have rf := R_find_257 (m := m) (by omega) (u.2 249 12) 14 cnt h0 (by omega) u
    rw [show ((14 : Nat) : Int) = 14 from rfl, ← ef] at rf
    rw [if_pos k3, if_pos k3, if_neg (show ¬ (1 : Int) = 0 from by decide), C_place_10 (by omega) _ cnt h0 hc, Option.bind_some, rf, Option.bind_some]
    dsimp only
    rw [wI_at]
    by_cases c : fndA (s.2 10) (s.2 1 4) cnt.toNat 0 = -1
    · right
      rw [if_pos c, if_pos c, c]
      obtain ⟨s', u', r1, r2, r3, r4, r5⟩ := T_fail m (TokR_told g.1 (-1)) (kc := 3) (kr := 3) (by rw [if_neg (by omega)]) (by decide)
      rw [r1, r2, Option.bind_some, Option.bind_some]
      exact ⟨s', u', rfl, rfl, r3, r4, RF_trans (RF_w (by omega)) r5⟩
    · left
      rw [if_neg c, if_neg c, Option.bind_some]
      dsimp only
      rw [if_neg c]
      obtain ⟨s', u', r1, r2, r3, r4, r5, r6⟩ := T_adv hm (TokG_told g (fndA (s.2 10) (s.2 1 4) cnt.toNat 0)) (by omega) (by omega)
      rw [r1, r2, Option.bind_some, Option.bind_some]
      refine ⟨(fndA (s.2 10) (s.2 1 4) cnt.toNat 0).toNat, s', u', by omega, ?_, rfl, ?_, r3, r4, RF_trans (RF_w (by omega)) r5⟩
      · rw [Int.toNat_of_nonneg (by omega)]
      · rw [r6, wI_at, Int.toNat_of_nonneg (by omega)]
  · right
    obtain ⟨s', u', r1, r2, r3, r4, r5⟩ := T_fail m g.1 (kc := 1) (kr := 1) (by split <;> rfl) (by decide)
    rw [if_neg k3, if_neg k3, if_pos rfl, r1, r2]
    exact ⟨s', u', rfl, rfl, r3, r4, r5⟩
theorem T_dead {m : Nat} (hm : 10000 ≤ m) {a : Int} {s u : mS} (g : TokG a s u) (h : RV s u) :
    (∃ (k : Nat) (s' u' : mS), (k : Int) < u.1 251 2 ∧ f_Vs_takeDead_4_1 m s = some ((k : Int), s') ∧ f_R_readDeadName m u = some (1, u') ∧ u'.1 249 13 = (k : Int) ∧ TokG (a + 1) s' u' ∧ TF s s' ∧ RF u u') ∨
    (∃ s' u', f_Vs_takeDead_4_1 m s = some (-1, s') ∧ f_R_readDeadName m u = some (0, u') ∧ Flt s' u' ∧ TF s s' ∧ RF u u') := by
  have W := WFv_dead h.1
  rw [f_Vs_takeDead_4_1_eq, h.2.2.2.1, f_R_readDeadName_eq]
  rcases T_named_10 hm g (u.1 251 2) (by omega) (by omega) (fun k hk => h.2.2.2.2.2.2 k hk) with ⟨k, s', u', r1, r2, r3, r4⟩ | ⟨s', u', r1, r2, r3⟩
  · left
    exact ⟨k, s', u', r1, r2, by rw [r3]; rfl, r4⟩
  · right
    exact ⟨s', u', r1, by rw [r2]; rfl, r3⟩
theorem T_named_8 {m : Nat} (hm : 10000 ≤ m) {a : Int} {s u : mS} (g : TokG a s u) (cnt : Int) (h0 : 0 ≤ cnt) (hc : cnt ≤ 5) (hn : ∀ k : Nat, (k : Int) < cnt → NM (s.2 8 k) (u.2 257 (9 + k))) :
    (∃ (k : Nat) (s' u' : mS), (k : Int) < cnt ∧ ((f_Vs_see_1_8 m cnt s).bind fun p0 => (if p0.1 = (-1) then (some (p0.1, p0.2)) else ((f_Tp_advance m p0.2).bind fun p1 => (some (p0.1, p1.2))))) = some ((k : Int), s') ∧ f_R_readNamed m 9 cnt u = some (1, u') ∧ u'.1 249 13 = (k : Int) ∧ TokG (a + 1) s' u' ∧ TF s s' ∧ RF u u') ∨
    (∃ s' u', ((f_Vs_see_1_8 m cnt s).bind fun p0 => (if p0.1 = (-1) then (some (p0.1, p0.2)) else ((f_Tp_advance m p0.2).bind fun p1 => (some (p0.1, p1.2))))) = some (-1, s') ∧ f_R_readNamed m 9 cnt u = some (0, u') ∧ Flt s' u' ∧ TF s s' ∧ RF u u') := by
  rw [f_Vs_see_1_8_eq, f_R_readNamed_eq, R_isName (by omega) g.1, Option.bind_some]
  dsimp only
  by_cases k3 : s.1 1 2 = 3
  · have nm := T_name g.1 k3
    have ef := fnd_rel (s.2 8) (fun j => u.2 257 (9 + j)) (s.2 1 4) (u.2 249 12) nm cnt.toNat 0 (fun j _ hj => hn j (by omega))
    have rg := fnd_rng (s.2 8) (s.2 1 4) cnt.toNat 0
    have rf := R_find_257 (m := m) (by omega) (u.2 249 12) 9 cnt h0 (by omega) u
    rw [show ((9 : Nat) : Int) = 9 from rfl, ← ef] at rf
    rw [if_pos k3, if_pos k3, if_neg (show ¬ (1 : Int) = 0 from by decide), C_place_8 (by omega) _ cnt h0 hc, Option.bind_some, rf, Option.bind_some]
    dsimp only
    rw [wI_at]
    by_cases c : fndA (s.2 8) (s.2 1 4) cnt.toNat 0 = -1
    · right
      rw [if_pos c, if_pos c, c]
      obtain ⟨s', u', r1, r2, r3, r4, r5⟩ := T_fail m (TokR_told g.1 (-1)) (kc := 3) (kr := 3) (by rw [if_neg (by omega)]) (by decide)
      rw [r1, r2, Option.bind_some, Option.bind_some]
      exact ⟨s', u', rfl, rfl, r3, r4, RF_trans (RF_w (by omega)) r5⟩
    · left
      rw [if_neg c, if_neg c, Option.bind_some]
      dsimp only
      rw [if_neg c]
      obtain ⟨s', u', r1, r2, r3, r4, r5, r6⟩ := T_adv hm (TokG_told g (fndA (s.2 8) (s.2 1 4) cnt.toNat 0)) (by omega) (by omega)
      rw [r1, r2, Option.bind_some, Option.bind_some]
      refine ⟨(fndA (s.2 8) (s.2 1 4) cnt.toNat 0).toNat, s', u', by omega, ?_, rfl, ?_, r3, r4, RF_trans (RF_w (by omega)) r5⟩
      · rw [Int.toNat_of_nonneg (by omega)]
      · rw [r6, wI_at, Int.toNat_of_nonneg (by omega)]
  · right
    obtain ⟨s', u', r1, r2, r3, r4, r5⟩ := T_fail m g.1 (kc := 1) (kr := 1) (by split <;> rfl) (by decide)
    rw [if_neg k3, if_neg k3, if_pos rfl, r1, r2]
    exact ⟨s', u', rfl, rfl, r3, r4, r5⟩
theorem T_plot {m : Nat} (hm : 10000 ≤ m) {a : Int} {s u : mS} (g : TokG a s u) (h : RV s u) :
    (∃ (k : Nat) (s' u' : mS), (k : Int) < u.1 251 1 ∧ f_Vs_takePlot m s = some ((k : Int), s') ∧ f_R_readNamed m 9 (u.1 251 1) u = some (1, u') ∧ u'.1 249 13 = (k : Int) ∧ TokG (a + 1) s' u' ∧ TF s s' ∧ RF u u') ∨
    (∃ s' u', f_Vs_takePlot m s = some (-1, s') ∧ f_R_readNamed m 9 (u.1 251 1) u = some (0, u') ∧ Flt s' u' ∧ TF s s' ∧ RF u u') := by
  have W := WFv_plots h.1
  rw [f_Vs_takePlot_eq, h.2.2.1]
  rcases T_named_8 hm g (u.1 251 1) (by omega) (by omega) (fun k hk => h.2.2.2.2.2.1 k hk) with ⟨k, s', u', r1, r2, r3, r4⟩ | ⟨s', u', r1, r2, r3⟩
  · left
    exact ⟨k, s', u', r1, r2, r3, r4⟩
  · right
    exact ⟨s', u', r1, r2, r3⟩
/-- a line of a book that can be -/
def BL (a x y : Int) (A : Row) : Prop := (a = 0 ∧ 0 ≤ x ∧ x < A 2 ∧ 0 ≤ y ∧ y < A 0) ∨ (a = 1 ∧ 0 ≤ x ∧ x < A 2 ∧ 0 ≤ y ∧ y < A 1) ∨ (a = 2 ∧ 0 ≤ x ∧ x < A 2 ∧ 0 ≤ y ∧ y < A 2 ∧ x ≠ y) ∨ (a = 3 ∧ 0 ≤ x ∧ x < A 0) ∨ (a = 4 ∧ 1 ≤ x ∧ x ≤ 60)
/-- line k, class and reference -/
def LN (s u : mS) (k : Nat) : Prop := s.1 238 k = u.1 266 (3 * k) ∧ s.1 239 k = u.1 266 (3 * k + 1) ∧ (s.1 238 k ≤ 2 → s.1 240 k = u.1 266 (3 * k + 2)) ∧ BL (s.1 238 k) (s.1 239 k) (s.1 240 k) (u.1 251)
/-- n lines are read -/
def BR (n : Nat) (s u : mS) : Prop := RV s u ∧ s.1 237 0 = (n : Int) ∧ u.1 249 39 = (n : Int) ∧ ∀ k, k < n → LN s u k
theorem LN_cg {s u s' u' : mS} {k : Nat} (h : LN s u k) (h1 : s'.1 238 k = s.1 238 k) (h2 : s'.1 239 k = s.1 239 k) (h3 : s'.1 240 k = s.1 240 k) (g0 : u'.1 266 (3 * k) = u.1 266 (3 * k)) (g1 : u'.1 266 (3 * k + 1) = u.1 266 (3 * k + 1)) (g2 : u'.1 266 (3 * k + 2) = u.1 266 (3 * k + 2)) (ga : u'.1 251 = u.1 251) : LN s' u' k := by
  unfold LN; rw [h1, h2, h3, g0, g1, g2, ga]; exact h
theorem BR_keep {n : Nat} {s u s' u' : mS} (h : BR n s u) (hs : TF s s') (hu : RF u u') : BR n s' u' :=
  ⟨RV_keep h.1 (KC_of hs) (KR_of hu), by rw [hs.1 237 (by decide)]; exact h.2.1, by rw [hu.2.2 39 (by omega)]; exact h.2.2.1, fun k hk => LN_cg (h.2.2.2 k hk) (by rw [hs.1 238 (by decide)]) (by rw [hs.1 239 (by decide)]) (by rw [hs.1 240 (by decide)]) (by rw [hu.1 266 (by decide)]) (by rw [hu.1 266 (by decide)]) (by rw [hu.1 266 (by decide)]) (hu.1 251 (by decide))⟩
/-- n lines are read, and one more -/
def BR1 (n : Nat) (s u : mS) : Prop := (BR n s u ∧ n < 40) ∧ LN s u n
theorem BR1_keep {n : Nat} {s u s' u' : mS} (h : BR1 n s u) (hs : TF s s') (hu : RF u u') : BR1 n s' u' :=
  ⟨⟨BR_keep h.1.1 hs hu, h.1.2⟩, LN_cg h.2 (by rw [hs.1 238 (by decide)]) (by rw [hs.1 239 (by decide)]) (by rw [hs.1 240 (by decide)]) (by rw [hu.1 266 (by decide)]) (by rw [hu.1 266 (by decide)]) (by rw [hu.1 266 (by decide)]) (hu.1 251 (by decide))⟩
/-- what is written for the line at hand leaves the lines ahead alone -/
theorem BR_w {n : Nat} {s u : mS} (h : BR n s u) {c : Nat} (hc : c = 238 ∨ c = 239 ∨ c = 240) (v : Int) : BR n (wI s c n v) u := by
  refine ⟨RV_cg h.1 (wI_ne (by omega)) (fun _ _ _ => rfl) rfl rfl, by rw [wI_ne (by omega)]; exact h.2.1, h.2.2.1, fun k hk => LN_cg (h.2.2.2 k hk) ?_ ?_ ?_ rfl rfl rfl rfl⟩
  · rw [wI_1, if_neg (by omega)]
  · rw [wI_1, if_neg (by omega)]
  · rw [wI_1, if_neg (by omega)]
theorem BR_u {n : Nat} {s u : mS} (h : BR n s u) {j : Nat} (hj : 3 * n ≤ j) (v : Int) : BR n s (wI u 266 j v) := by
  refine ⟨RV_cg h.1 rfl (fun _ _ _ => rfl) (wI_ne (by decide)) rfl, h.2.1, by rw [wI_ne (by decide)]; exact h.2.2.1, fun k hk => LN_cg (h.2.2.2 k hk) rfl rfl rfl ?_ ?_ ?_ (wI_ne (by decide))⟩
  · rw [wI_f (by omega)]
  · rw [wI_f (by omega)]
  · rw [wI_f (by omega)]
theorem R_keep0 (m : Nat) (k : Int) (u : mS) : f_R_keep m k 0 u = some (0, u) := by rw [f_R_keep_eq, if_pos rfl, if_pos (Or.inl rfl)]
theorem R_keep1 (m : Nat) (k : Nat) (hk : k < 120) (u : mS) : f_R_keep m (k : Int) 1 u = some (1, wI u 266 k (u.1 249 13)) := by
  rw [f_R_keep_eq, if_neg (by decide), inR_pos (by omega) (by omega), if_pos (Or.inr rfl), Int.toNat_natCast]
theorem B_end {m : Nat} (hm : 10000 ≤ m) {n : Nat} {a : Int} {s u : mS} (g : TokG a s u) (h : BR1 n s u) : Pst (BR1 n) (a + 1) s u ((f_Tp_takeSign m 59 s).bind fun p1 => (if p1.1 = 0 then some (0, p1.2) else some (1, p1.2))) ((f_R_readEnd m u).bind fun p5 => (if p5.1 = 0 then (some (0, p5.2)) else (some (1, p5.2)))) := by
  rcases T_end hm g with ⟨s2, u2, q1, q2, q3, q4, q5⟩ | ⟨s2, u2, q1, q2, q3, q4, q5⟩
  · rw [q1, q2]
    exact ⟨1, s2, u2, rfl, rfl, KC_of q4, KR_of q5, Or.inl ⟨rfl, q3, BR1_keep h q4 q5⟩⟩
  · rw [q1, q2]
    exact ⟨0, s2, u2, rfl, rfl, KC_of q4, KR_of q5, Or.inr ⟨rfl, q3⟩⟩
theorem Pst_mono {Ψ : mS → mS → Prop} {a b : Int} {s u s0 u0 : mS} {F G : Option (Int × mS)} (h : Pst Ψ a s u F G) (b0 : 0 ≤ b) (hb : b ≤ a) (k1 : KC s0 s) (k2 : KR u0 u) : Pst Ψ b s0 u0 F G := by
  obtain ⟨r, s', u', h1, h2, h3, h4, h5⟩ := h
  refine ⟨r, s', u', h1, h2, KC_trans k1 h3, KR_trans k2 h4, ?_⟩
  rcases h5 with ⟨q1, q2, q3⟩ | q
  · exact Or.inl ⟨q1, TokG_mono q2 b0 hb, q3⟩
  · exact Or.inr q
/-- the word at hand, as both see it -/
theorem T_word {s u : mS} (h : TokR s u) : s.1 1 3 = -1 ∨ (∃ w : Nat, w < 24 ∧ s.1 1 3 = (w : Int) ∧ s.1 1 2 = 2) := by
  rcases h.2.1 with q | q | ⟨_, ⟨ws, _, _, _, w4⟩, q⟩ | q | q
  · exact Or.inl q.2.2
  · exact Or.inl q.2.2
  · have rg := wix_rng ((E256 ws : Nat) : Int)
    rw [← w4] at rg
    rcases rg with r | r
    · exact Or.inl r
    · right; rw [if_neg (by omega)] at q; exact ⟨(s.1 1 3).toNat, by omega, by omega, q⟩
  · exact Or.inl q.2.2.1
  · exact Or.inl q.2.1
def actW (w : Int) : Int := if 7 ≤ w ∧ w ≤ 11 then w - 7 else -1
theorem C_actOf (m : Nat) {s u : mS} (h : TokR s u) : f_Bk_actOf m s = some (actW (s.1 1 3), s) := by
  rw [f_Bk_actOf_eq]
  rcases T_word h with q | ⟨w, w24, q, _⟩
  · rw [q, if_pos (show encW (-1) = none from rfl)]; rfl
  · have e : encW (w : Int) = some (1000 + w) := by unfold encW; rw [if_neg (by omega)]; rfl
    have g : gIn 1 (1000 + w) = true := by
      have : ∀ k, k < 24 → gIn 1 (1000 + k) = true := by decide
      exact this w w24
    have eo : f_Je_ordinal m (1000 + w) s = some ((w : Int), s) := by
      rw [f_Je_ordinal_eq, if_pos g]
      exact congrArg (fun z : Int => some (z, s)) (by omega)
    rw [q, e, if_neg (fun q => by cases q)]
    show (if gIn 1 (1000 + w) = true then ((f_Je_ordinal m (1000 + w) s).bind _) else none) = _
    rw [if_pos g, eo, Option.bind_some]
    dsimp only
    rw [inR_pos (by omega) (by omega), Int.toNat_natCast]
    have tb : ∀ k, k < 24 → (if swM k = 8 then (0 : Int) else if swM k = 9 then 1 else if swM k = 10 then 2 else if swM k = 11 then 3 else if swM k = 12 then 4 else -1) = actW (k : Int) := by decide
    rw [← tb w w24]
    repeat' split
    all_goals rfl
theorem R_actL {m : Nat} (hm : 10 ≤ m) {s u : mS} (h : TokR s u) (n : Nat) : f_R_readBookLine m u = l_R_readBookLine_L17 m m (if s.1 1 3 = 11 then 4 else -1) 0 u ∧
    l_R_readBookLine_L17 m (n + 1 + 1 + 1 + 1) (if s.1 1 3 = 11 then 4 else -1) 0 u = l_R_readBookLine_L17 m n (actW (s.1 1 3)) 4 u := by
  have i10 := R_isWord hm h (k := 10) (by decide)
  have i6 := R_isWord hm h (k := 6) (by decide)
  have i7 := R_isWord hm h (k := 7) (by decide)
  have i8 := R_isWord hm h (k := 8) (by decide)
  have i9 := R_isWord hm h (k := 9) (by decide)
  rw [show ((10 : Nat) : Int) = 10 from rfl, show ((cpw 10 : Nat) : Int) = 11 from rfl] at i10
  rw [show ((6 : Nat) : Int) = w32 (6 + 0) from rfl, show ((cpw 6 : Nat) : Int) = 7 from rfl] at i6
  rw [show ((7 : Nat) : Int) = w32 (6 + 1) from rfl, show ((cpw 7 : Nat) : Int) = 8 from rfl] at i7
  rw [show ((8 : Nat) : Int) = w32 (6 + 2) from rfl, show ((cpw 8 : Nat) : Int) = 9 from rfl] at i8
  rw [show ((9 : Nat) : Int) = w32 (6 + 3) from rfl, show ((cpw 9 : Nat) : Int) = 10 from rfl] at i9
  constructor
  · rw [f_R_readBookLine_eq, i10, Option.bind_some]
    dsimp only
    by_cases c : s.1 1 3 = 11
    · rw [if_pos c, if_neg (by decide), if_pos c]
    · rw [if_neg c, if_pos rfl, if_neg c]
  · have st : ∀ (k : Nat) (x1 x2 x2' t : Int), f_R_isWord m (w32 (6 + x2)) u = some (if s.1 1 3 = t then 1 else 0, u) → ¬ 3 < x2 → w32 (x2 + 1) = x2' → l_R_readBookLine_L17 m (k + 1) x1 x2 u = l_R_readBookLine_L17 m k (if s.1 1 3 = t then x2 else x1) x2' u := by
      intro k x1 x2 x2' t hi h3 hx
      rw [l_R_readBookLine_L17_eq, if_neg h3, hi, Option.bind_some, hx]
      dsimp only
      by_cases c : s.1 1 3 = t
      · rw [if_pos c, if_neg (by decide), if_pos c]
      · rw [if_neg c, if_pos rfl, if_neg c]
    rw [st _ _ 0 1 7 i6 (by decide) rfl, st _ _ 1 2 8 i7 (by decide) rfl, st _ _ 2 3 9 i8 (by decide) rfl, st _ _ 3 4 10 i9 (by decide) rfl]
    have e : (if s.1 1 3 = 10 then (3 : Int) else if s.1 1 3 = 9 then 2 else if s.1 1 3 = 8 then 1 else if s.1 1 3 = 7 then 0 else if s.1 1 3 = 11 then 4 else -1) = actW (s.1 1 3) := by
      unfold actW
      repeat' split
      all_goals omega
    rw [e]
