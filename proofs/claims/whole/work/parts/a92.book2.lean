/-! ===== layer 3: book (2): a line, read ===== -/
theorem L111_m1 (m f n : Nat) (x3 : Int) {s : mS} (hn : n < 40) (h : s.1 237 0 = (n : Int)) : l_Bk_readLine_L111 m (f + 1) x3 (n : Int) (-1) s = some (0, wI s 239 n (-1)) := by
  have e : (wI s 239 n (-1)).1 237 0 = (n : Int) := by rw [wI_ne (by decide)]; exact h
  rw [l_Bk_readLine_L111_eq, inR_pos (by omega) (by omega), Int.toNat_natCast, e, inR_pos (by omega) (by omega), Int.toNat_natCast, wI_at, if_pos rfl, inR_pos (by omega) (by omega), if_pos rfl]
theorem L111_3 (m f n : Nat) (y : Int) {s : mS} (hn : n < 40) (h : s.1 237 0 = (n : Int)) (hy : 0 ≤ y) : l_Bk_readLine_L111 m (f + 1) 3 (n : Int) y s = some (1, wI s 239 n y) := by
  have e : (wI s 239 n y).1 237 0 = (n : Int) := by rw [wI_ne (by decide)]; exact h
  rw [l_Bk_readLine_L111_eq, inR_pos (by omega) (by omega), Int.toNat_natCast, e, inR_pos (by omega) (by omega), Int.toNat_natCast, wI_at, if_neg (by omega), if_pos rfl, inR_pos (by omega) (by omega), if_neg (by omega)]
theorem L111_2 (m f n : Nat) (y : Int) {s : mS} (hn : n < 40) (h : s.1 237 0 = (n : Int)) (hy : 0 ≤ y) : l_Bk_readLine_L111 m (f + 1) 2 (n : Int) y s = (f_Bk_readOther m (wI s 239 n y)).bind fun p0 => (if p0.1 = 0 ∨ p0.1 = 1 then some (p0.1, p0.2) else none) := by
  have e : (wI s 239 n y).1 237 0 = (n : Int) := by rw [wI_ne (by decide)]; exact h
  rw [l_Bk_readLine_L111_eq, inR_pos (by omega) (by omega), Int.toNat_natCast, e, inR_pos (by omega) (by omega), Int.toNat_natCast, wI_at, if_neg (by omega), if_neg (by decide), if_pos rfl]
theorem L111_0 (m f n : Nat) (y v : Int) {s t : mS} (hn : n < 40) (h : s.1 237 0 = (n : Int)) (hy : 0 ≤ y) (ht : f_Vs_takeBox_4_1 m (wI s 239 n y) = some (v, t)) (h2 : t.1 237 0 = (n : Int)) : l_Bk_readLine_L111 m (f + 1) 0 (n : Int) y s = if v = -1 then some (0, wI t 240 n v) else some (1, wI t 240 n v) := by
  have e : (wI s 239 n y).1 237 0 = (n : Int) := by rw [wI_ne (by decide)]; exact h
  have e2 : (wI t 240 n v).1 237 0 = (n : Int) := by rw [wI_ne (by decide)]; exact h2
  rw [l_Bk_readLine_L111_eq, inR_pos (by omega) (by omega), Int.toNat_natCast, e, inR_pos (by omega) (by omega), Int.toNat_natCast, wI_at, if_neg (by omega), if_neg (by decide), if_neg (by decide), if_pos rfl, ht, Option.bind_some]
  dsimp only
  rw [inR_pos (by omega) (by omega), e2, inR_pos (by omega) (by omega), Int.toNat_natCast, wI_at]
theorem L111_1 (m f n : Nat) (y v : Int) {s t : mS} (hn : n < 40) (h : s.1 237 0 = (n : Int)) (hy : 0 ≤ y) (ht : f_Vs_takePlot m (wI s 239 n y) = some (v, t)) (h2 : t.1 237 0 = (n : Int)) : l_Bk_readLine_L111 m (f + 1) 1 (n : Int) y s = if v = -1 then some (0, wI t 240 n v) else some (1, wI t 240 n v) := by
  have e : (wI s 239 n y).1 237 0 = (n : Int) := by rw [wI_ne (by decide)]; exact h
  have e2 : (wI t 240 n v).1 237 0 = (n : Int) := by rw [wI_ne (by decide)]; exact h2
  rw [l_Bk_readLine_L111_eq, inR_pos (by omega) (by omega), Int.toNat_natCast, e, inR_pos (by omega) (by omega), Int.toNat_natCast, wI_at, if_neg (by omega), if_neg (by decide), if_neg (by decide), if_neg (by decide), ht, Option.bind_some]
  dsimp only
  rw [inR_pos (by omega) (by omega), e2, inR_pos (by omega) (by omega), Int.toNat_natCast, wI_at]
/-- another one than the one ahead -/
theorem B_other {m : Nat} (hm : 10000 ≤ m) {a : Int} {s u : mS} (g : TokG a s u) (h : RV s u) {n : Nat} (hn : n < 40) (hc : s.1 237 0 = (n : Int)) (hx : s.1 239 n = u.1 266 (3 * n + 1)) :
    (∃ (k : Nat) (s' u' : mS), (k : Int) < u.1 251 2 ∧ (k : Int) ≠ s.1 239 n ∧ f_Bk_readOther m s = some (1, s') ∧ f_R_readOther m ((3 * n + 1 : Nat) : Int) u = some (1, u') ∧ TokG (a + 1) s' u' ∧ TF (wI s 240 n (k : Int)) s' ∧ RF (wI u 266 (3 * n + 2) (k : Int)) u') ∨
    (∃ s' u', f_Bk_readOther m s = some (0, s') ∧ f_R_readOther m ((3 * n + 1 : Nat) : Int) u = some (0, u') ∧ Flt s' u' ∧ KC s s' ∧ KR u u') := by
  have W := WFv_dead h.1
  have e1 : w32 (((3 * n + 1 : Nat) : Int) + 1) = ((3 * n + 2 : Nat) : Int) := by rw [w32_in (by omega) (by omega)]; omega
  have en : ∀ (t : mS) (v : Int), t.1 237 0 = (n : Int) → (wI t 240 n v).1 237 0 = (n : Int) := fun t v ht => by rw [wI_ne (by decide)]; exact ht
  rw [f_Bk_readOther_eq, f_Vs_seeDead_4_1_eq, h.2.2.2.1, f_Vs_see_1_10_eq, f_R_readOther_eq, e1, R_isName (by omega) g.1, Option.bind_some, hc]
  clear e1
  dsimp only
  by_cases k3 : s.1 1 2 = 3
  · have nm := T_name g.1 k3
    have ef := fnd_rel (s.2 10) (fun j => u.2 257 (14 + j)) (s.2 1 4) (u.2 249 12) nm (u.1 251 2).toNat 0 (fun j _ hj => h.2.2.2.2.2.2 j (by omega))
    have rg := fnd_rng (s.2 10) (s.2 1 4) (u.1 251 2).toNat 0
    have rf := R_find_257 (m := m) (by omega) (u.2 249 12) 14 (u.1 251 2) (by omega) (by omega) u
    rw [show ((14 : Nat) : Int) = 14 from rfl, ← ef] at rf
    have cp := C_place_10 (m := m) (by omega) (s.2 1 4) (u.1 251 2) (by omega) (by omega) s
    rw [if_pos k3, if_pos k3, if_neg (show ¬ (1 : Int) = 0 from by decide), cp, Option.bind_some, rf, Option.bind_some]
    dsimp only
    generalize fndA (s.2 10) (s.2 1 4) (u.1 251 2).toNat 0 = k at rg
    rw [inR_pos (i := ((3 * n + 2 : Nat) : Int)) (by omega) (by omega), inR_pos (i := ((3 * n + 2 : Nat) : Int)) (by omega) (by omega), Int.toNat_natCast (3 * n + 2), wI_at]
    by_cases c : k = -1
    · right
      subst c
      have g' : TokR s (wI u 266 (3 * n + 2) (-1)) := TokR_cg g.1 rfl rfl rfl (fun j _ => by rw [wI_ne (by decide)]) (wI_ne (by decide)) rfl
      obtain ⟨s', u', r1, r2, r3, r4, r5⟩ := T_fail m g' (kc := 3) (kr := 3) (by rw [if_neg (by omega)]) (by decide)
      rw [if_pos rfl, if_pos rfl, r1, r2, Option.bind_some, Option.bind_some, Option.bind_some]
      dsimp only
      have c2 : s'.1 237 0 = (n : Int) := by rw [r4.1 237 (by decide)]; exact hc
      rw [inR_pos (by omega) (by omega), Int.toNat_natCast, en _ _ c2, inR_pos (by omega) (by omega), Int.toNat_natCast, wI_at, if_pos rfl]
      exact ⟨_, u', rfl, rfl, Flt_w r3 (by decide), KC_trans (KC_of r4) (KC_w (by omega) (by omega)), KR_trans (KR_w (by omega)) (KR_of r5)⟩
    · obtain ⟨j, rfl⟩ : ∃ j : Nat, k = (j : Int) := ⟨k.toNat, by omega⟩
      have e9 : (wI s 240 n (j : Int)).1 239 n = s.1 239 n := by rw [wI_ne (by decide)]
      have e6 : (wI u 266 (3 * n + 2) (j : Int)).1 266 (3 * n + 1) = s.1 239 n := by rw [wI_f (by omega)]; exact hx.symm
      rw [if_neg c, if_neg c, Option.bind_some, Option.bind_some]
      dsimp only
      rw [inR_pos (i := (n : Int)) (by omega) (by omega), Int.toNat_natCast, en _ _ hc, inR_pos (i := (n : Int)) (by omega) (by omega), Int.toNat_natCast, wI_at, if_neg c, inR_pos (i := (n : Int)) (by omega) (by omega), inR_pos (i := (n : Int)) (by omega) (by omega), e9, inR_pos (i := ((3 * n + 2 : Nat) : Int)) (by omega) (by omega), inR_pos (i := ((3 * n + 1 : Nat) : Int)) (by omega) (by omega), Int.toNat_natCast, e6]
      have g' : TokG a (wI s 240 n (j : Int)) (wI u 266 (3 * n + 2) (j : Int)) := TokG_cg g (wI_ne (by decide)) (wI_ne (by decide)) rfl (fun j _ => by rw [wI_ne (by decide)]) (wI_ne (by decide)) rfl
      have k3' : (wI s 240 n (j : Int)).1 1 2 = 3 := by rw [wI_ne (by decide)]; exact k3
      by_cases ce : (j : Int) = s.1 239 n
      · right
        obtain ⟨s', u', r1, r2, r3, r4, r5⟩ := T_fail m g'.1 (kc := 3) (kr := 3) (by rw [if_neg (by omega)]) (by decide)
        rw [if_pos ce, if_pos ce, r1, r2]
        exact ⟨s', u', rfl, rfl, r3, KC_trans (KC_w (by omega) (by omega)) (KC_of r4), KR_trans (KR_w (by omega)) (KR_of r5)⟩
      · left
        obtain ⟨s', u', r1, r2, r3, r4, r5, _⟩ := T_adv hm g' (by omega) (by omega)
        rw [if_neg ce, if_neg ce, r1, r2]
        exact ⟨j, s', u', by omega, ce, rfl, rfl, r3, r4, r5⟩
  · right
    obtain ⟨s', u', r1, r2, r3, r4, r5⟩ := T_fail m g.1 (kc := 1) (kr := 1) (by split <;> rfl) (by decide)
    rw [if_neg k3, if_neg k3, if_pos rfl, r1, r2, Option.bind_some, Option.bind_some, Option.bind_some]
    dsimp only
    have c2 : s'.1 237 0 = (n : Int) := by rw [r4.1 237 (by decide)]; exact hc
    rw [inR_pos (by omega) (by omega), Int.toNat_natCast, en _ _ c2, inR_pos (by omega) (by omega), Int.toNat_natCast, wI_at, if_pos rfl]
    exact ⟨_, u', rfl, rfl, Flt_w r3 (by decide), KC_trans (KC_of r4) (KC_w (by omega) (by omega)), KR_of r5⟩
/-- a line and what ends it -/
def FB (m : Nat) (s : mS) : Option (Int × mS) := (f_Bk_readLine m s).bind fun p0 => (if p0.1 = 0 then some (0, p0.2) else ((f_Tp_takeSign m 59 p0.2).bind fun p1 => (if p1.1 = 0 then some (0, p1.2) else some (1, p1.2))))
theorem B_line {m : Nat} (hm : 10000 ≤ m) {n : Nat} (hn : n ≤ 40) {a : Int} {s u : mS} (g : TokG a s u) (h : BR n s u) : Pst (BR1 n) (a + 1) s u (FB m s) (f_R_readBookLine m u) := by
  have ha := g.2.1
  have W0 := WFv_boxes h.1.1
  have W1 := WFv_plots h.1.1
  have W2 := WFv_dead h.1.1
  obtain ⟨k, hk⟩ : ∃ k, m = k + 1 + 1 + 1 + 1 + 1 := ⟨m - 5, by omega⟩
  obtain ⟨R1, R2⟩ := R_actL (m := m) (by omega) g.1 (k + 1)
  have R0 : f_R_readBookLine m u = l_R_readBookLine_L17 m (k + 1) (actW (s.1 1 3)) 4 u := by
    rw [R1, ← R2]
    rw [show l_R_readBookLine_L17 m m = l_R_readBookLine_L17 m (k + 1 + 1 + 1 + 1 + 1) from by rw [← hk]]
  have kact : actW (s.1 1 3) ≠ -1 → s.1 1 2 = 2 := by
    intro q
    rcases T_word g.1 with r | ⟨w, _, _, r⟩
    · exact absurd (by rw [r]; rfl) q
    · exact r
  have ract : actW (s.1 1 3) = -1 ∨ (0 ≤ actW (s.1 1 3) ∧ actW (s.1 1 3) ≤ 4) := by unfold actW; split <;> omega
  unfold FB
  rw [R0, l_R_readBookLine_L17_eq, if_pos (by decide), f_Bk_readLine_eq, C_actOf m g.1, Option.bind_some]
  clear R0 R1 R2
  dsimp only
  generalize actW (s.1 1 3) = act at kact ract
  by_cases cm : act = -1
  · rw [if_pos cm, if_pos cm]
    obtain ⟨s', u', r1, r2, r3, r4, r5⟩ := T_fail m g.1 (kc := 1) (kr := 1) (by split <;> rfl) (by decide)
    rw [r1, r2]
    exact ⟨0, s', u', rfl, rfl, KC_of r4, KR_of r5, Or.inr ⟨rfl, r3⟩⟩
  have k2 := kact cm
  rw [if_neg cm, if_neg cm, h.2.1, h.2.2.1]
  by_cases cf : n = 40
  · subst cf
    rw [if_neg (show ¬ ((40 : Nat) : Int) < 40 by decide), if_pos (show ((40 : Nat) : Int) = 40 from rfl)]
    obtain ⟨s', u', r1, r2, r3, r4, r5⟩ := T_fail m g.1 (kc := 4) (kr := 4) (by rw [if_neg (by omega)]) (by decide)
    rw [r1, r2]
    exact ⟨0, s', u', rfl, rfl, KC_of r4, KR_of r5, Or.inr ⟨rfl, r3⟩⟩
  have n40 : n < 40 := by omega
  have e3 : w32 (3 * (n : Int)) = ((3 * n : Nat) : Int) := by rw [w32_in (by omega) (by omega)]; omega
  rw [e3]
  clear e3
  have e3 : w32 (((3 * n : Nat) : Int) + 2) = ((3 * n + 2 : Nat) : Int) := by rw [w32_in (by omega) (by omega)]; omega
  rw [e3]
  clear e3
  have e3 : w32 (((3 * n : Nat) : Int) + 1) = ((3 * n + 1 : Nat) : Int) := by rw [w32_in (by omega) (by omega)]; omega
  rw [e3]
  clear e3
  rw [if_pos (show (n : Int) < 40 by omega), if_neg (show ¬ (n : Int) = 40 by omega), inR_pos (i := ((3 * n : Nat) : Int)) (by omega) (by omega), inR_pos (i := ((3 * n + 2 : Nat) : Int)) (by omega) (by omega), Int.toNat_natCast, Int.toNat_natCast]
  obtain ⟨u', hu'⟩ : ∃ u', u' = wI (wI u 266 (3 * n) act) 266 (3 * n + 2) 0 := ⟨_, rfl⟩
  rw [← hu']
  have g' : TokG a s u' := TokG_cg g rfl rfl rfl (fun j _ => by rw [hu', wI_ne (by decide), wI_ne (by decide)]) (by rw [hu', wI_ne (by decide), wI_ne (by decide)]) (by rw [hu']; rfl)
  have h' : BR n s u' := by rw [hu']; exact BR_u (BR_u h (by omega) _) (by omega) _
  obtain ⟨s1, u1, r1, r2, r3, r4, r5, _⟩ := T_adv hm g' (by omega) (by omega)
  have h1 := BR_keep h' r4 r5
  have v0 : u1.1 266 (3 * n) = act := by rw [r5.1 266 (by decide), hu', wI_f (by omega), wI_at]
  have kc1 : KC s s1 := KC_of r4
  have kr1 : KR u u1 := by
    refine KR_trans ?_ (KR_of r5)
    rw [hu']
    exact KR_trans (KR_w (by omega)) (KR_w (by omega))
  have A1 : u1.1 251 = u.1 251 := by rw [r5.1 251 (by decide), hu', wI_ne (by decide), wI_ne (by decide)]
  rw [r1, Option.bind_some, r2, Option.bind_some]
  dsimp only
  rw [h1.2.1, inR_pos (i := (n : Int)) (by omega) (by omega), Int.toNat_natCast]
  obtain ⟨s2, hs2⟩ : ∃ s2, s2 = wI s1 238 n act := ⟨_, rfl⟩
  rw [← hs2]
  have h2 : BR n s2 u1 := by rw [hs2]; exact BR_w h1 (by omega) _
  have g2 : TokG (a + 1) s2 u1 := TokG_cg r3 (by rw [hs2, wI_ne (by decide)]) (by rw [hs2, wI_ne (by decide)]) (by rw [hs2]; rfl) (fun _ _ => rfl) rfl rfl
  have kc2 : KC s s2 := by rw [hs2]; exact KC_trans kc1 (KC_w (by omega) (by omega))
  have w0 : s2.1 238 n = act := by rw [hs2, wI_at]
  rw [h2.2.1]
  by_cases c4 : act = 4
  · -- days
    subst c4
    rw [if_pos rfl, if_neg (by decide), if_neg (by decide), if_neg (by decide), if_neg (by decide)]
    rcases T_num hm g2 1 60 with ⟨v, s3, u3, b1, b1', b1'', _, q7, q8, q9, q10, q11, q12⟩ | ⟨s3, u3, q7, q8, q9, q10, q11⟩
    rotate_left
    · have d3 : (wI s3 239 n (-1)).1 237 0 = (n : Int) := by rw [wI_ne (by decide), q10.1 237 (by decide)]; exact h2.2.1
      rw [q7, Option.bind_some, q8, Option.bind_some]
      dsimp only
      rw [inR_pos (i := (n : Int)) (by omega) (by omega), Int.toNat_natCast, d3, inR_pos (i := (n : Int)) (by omega) (by omega), Int.toNat_natCast, wI_at, if_pos rfl, Option.bind_some, R_keep0, Option.bind_some]
      exact ⟨0, _, _, rfl, rfl, KC_trans kc2 (KC_trans (KC_of q10) (KC_w (by omega) (by omega))), KR_trans kr1 (KR_of q11), Or.inr ⟨rfl, Flt_w q9 (by decide)⟩⟩
    have d3 : (wI s3 239 n v).1 237 0 = (n : Int) := by rw [wI_ne (by decide), q11.1 237 (by decide)]; exact h2.2.1
    rw [q7, Option.bind_some, q8, Option.bind_some]
    dsimp only
    rw [inR_pos (i := (n : Int)) (by omega) (by omega), Int.toNat_natCast, d3, inR_pos (i := (n : Int)) (by omega) (by omega), Int.toNat_natCast, wI_at, if_neg (show ¬ v = -1 by omega), Option.bind_some, R_keep1 m _ (by omega), Option.bind_some, q9]
    dsimp only
    rw [if_neg (show ¬ (1 : Int) = 0 by decide), if_neg (show ¬ (1 : Int) = 0 by decide)]
    have h3 : BR1 n (wI s3 239 n v) (wI u3 266 (3 * n + 1) v) := by
      refine ⟨⟨BR_u (BR_w (BR_keep h2 q11 q12) (by omega) _) (by omega) _, n40⟩, ?_, ?_, ?_, ?_⟩
      · rw [wI_ne (by decide), q11.1 238 (by decide), w0, wI_f (by omega), q12.1 266 (by decide), v0]
      · rw [wI_at, wI_at]
      · rw [wI_ne (by decide), q11.1 238 (by decide), w0]; intro q; omega
      · rw [wI_ne (show (238 : Nat) ≠ 239 by decide), q11.1 238 (by decide), w0, wI_at]
        exact Or.inr (Or.inr (Or.inr (Or.inr ⟨rfl, b1, b1'⟩)))
    exact Pst_mono (B_end hm (TokG_cg q10 (wI_ne (by decide)) (wI_ne (by decide)) rfl (fun j _ => by rw [wI_ne (by decide)]) (wI_ne (by decide)) rfl) h3) (by omega) (by omega) (KC_trans kc2 (KC_trans (KC_of q11) (KC_w (by omega) (by omega)))) (KR_trans kr1 (KR_trans (KR_of q12) (KR_w (by omega))))
  rw [if_neg c4]
  obtain ⟨m0, hm0⟩ : ∃ m0, m = m0 + 1 := ⟨m - 1, by omega⟩
  have LL : ∀ (x y z : Int) (t : mS), l_Bk_readLine_L111 m m x y z t = l_Bk_readLine_L111 m (m0 + 1) x y z t := fun x y z t => by rw [← hm0]
  by_cases c3 : act = 3
  · -- mend
    subst c3
    rw [if_pos rfl, if_neg (by decide), if_neg (by decide), if_neg (by decide), if_pos rfl]
    rcases T_box hm g2 h2.1 with ⟨j, s3, u3, jl, q7, q8, q9, q10, q11, q12⟩ | ⟨s3, u3, q7, q8, q9, q10, q11⟩
    rotate_left
    · rw [q7, Option.bind_some, q8, Option.bind_some, LL]
      dsimp only
      rw [L111_m1 m m0 n _ n40 (by rw [q10.1 237 (by decide)]; exact h2.2.1), Option.bind_some, R_keep0, Option.bind_some]
      exact ⟨0, _, _, rfl, rfl, KC_trans kc2 (KC_trans (KC_of q10) (KC_w (by omega) (by omega))), KR_trans kr1 (KR_of q11), Or.inr ⟨rfl, Flt_w q9 (by decide)⟩⟩
    rw [q7, Option.bind_some, q8, Option.bind_some, LL]
    dsimp only
    rw [L111_3 m m0 n _ n40 (by rw [q11.1 237 (by decide)]; exact h2.2.1) (by omega), Option.bind_some, R_keep1 m _ (by omega), Option.bind_some, q9]
    dsimp only
    rw [if_neg (show ¬ (1 : Int) = 0 by decide), if_neg (show ¬ (1 : Int) = 0 by decide)]
    have h3 : BR1 n (wI s3 239 n (j : Int)) (wI u3 266 (3 * n + 1) (j : Int)) := by
      refine ⟨⟨BR_u (BR_w (BR_keep h2 q11 q12) (by omega) _) (by omega) _, n40⟩, ?_, ?_, ?_, ?_⟩
      · rw [wI_ne (by decide), q11.1 238 (by decide), w0, wI_f (by omega), q12.1 266 (by decide), v0]
      · rw [wI_at, wI_at]
      · rw [wI_ne (by decide), q11.1 238 (by decide), w0]; intro q; omega
      · rw [wI_ne (show (238 : Nat) ≠ 239 by decide), q11.1 238 (by decide), w0, wI_at, wI_ne (show (251 : Nat) ≠ 266 by decide), q12.1 251 (by decide)]
        exact Or.inr (Or.inr (Or.inr (Or.inl ⟨rfl, by omega, jl⟩)))
    exact Pst_mono (B_end hm (TokG_cg q10 (wI_ne (by decide)) (wI_ne (by decide)) rfl (fun j _ => by rw [wI_ne (by decide)]) (wI_ne (by decide)) rfl) h3) (by omega) (by omega) (KC_trans kc2 (KC_trans (KC_of q11) (KC_w (by omega) (by omega)))) (KR_trans kr1 (KR_trans (KR_of q12) (KR_w (by omega))))
  rw [if_neg c3]
  -- one of the dead first
  have dd := T_dead hm g2 h2.1
  rcases dd with ⟨j, s3, u3, jl, q7, q8, q9, q10, q11, q12⟩ | ⟨s3, u3, q7, q8, q9, q10, q11⟩
  rotate_left
  · rw [q7, Option.bind_some, LL]
    dsimp only
    rw [L111_m1 m m0 n _ n40 (by rw [q10.1 237 (by decide)]; exact h2.2.1), Option.bind_some]
    have res : Pst (BR1 n) (a + 1) s u (some (0, wI s3 239 n (-1))) (some (0, u3)) := ⟨0, _, _, rfl, rfl, KC_trans kc2 (KC_trans (KC_of q10) (KC_w (by omega) (by omega))), KR_trans kr1 (KR_of q11), Or.inr ⟨rfl, Flt_w q9 (by decide)⟩⟩
    by_cases a0 : act = 0
    · rw [if_pos a0, q8, Option.bind_some, R_keep0, Option.bind_some]; exact res
    · rw [if_neg a0]
      by_cases a1 : act = 1
      · rw [if_pos a1, q8, Option.bind_some, R_keep0, Option.bind_some]; exact res
      · rw [if_neg a1, if_pos (show act = 2 by omega), q8, Option.bind_some, R_keep0, Option.bind_some]; exact res
  have kc3 : KC s (wI s3 239 n (j : Int)) := KC_trans kc2 (KC_trans (KC_of q11) (KC_w (by omega) (by omega)))
  have kr3 : KR u (wI u3 266 (3 * n + 1) (j : Int)) := KR_trans kr1 (KR_trans (KR_of q12) (KR_w (by omega)))
  have g3 : TokG (a + 1) (wI s3 239 n (j : Int)) (wI u3 266 (3 * n + 1) (j : Int)) := TokG_mono (TokG_cg q10 (wI_ne (by decide)) (wI_ne (by decide)) rfl (fun j _ => by rw [wI_ne (by decide)]) (wI_ne (by decide)) rfl) (by omega) (by omega)
  have h3 : BR n (wI s3 239 n (j : Int)) (wI u3 266 (3 * n + 1) (j : Int)) := BR_u (BR_w (BR_keep h2 q11 q12) (by omega) _) (by omega) _
  have x238 : (wI s3 239 n (j : Int)).1 238 n = act := by rw [wI_ne (by decide), q11.1 238 (by decide)]; exact w0
  have x239 : (wI s3 239 n (j : Int)).1 239 n = (j : Int) := wI_at
  have y0 : (wI u3 266 (3 * n + 1) (j : Int)).1 266 (3 * n) = act := by rw [wI_f (by omega), q12.1 266 (by decide)]; exact v0
  have y1 : (wI u3 266 (3 * n + 1) (j : Int)).1 266 (3 * n + 1) = (j : Int) := wI_at
  have yA : (wI u3 266 (3 * n + 1) (j : Int)).1 251 = u1.1 251 := by rw [wI_ne (by decide), q12.1 251 (by decide)]
  have c237 : s3.1 237 0 = (n : Int) := by rw [q11.1 237 (by decide)]; exact h2.2.1
  rw [q7, Option.bind_some, LL]
  dsimp only
  by_cases a0 : act = 0
  · -- lend
    subst a0
    rw [if_pos rfl, q8, Option.bind_some, R_keep1 m _ (by omega), Option.bind_some, q9]
    dsimp only
    rw [if_neg (show ¬ (1 : Int) = 0 by decide)]
    generalize hU : wI u3 266 (3 * n + 1) (j : Int) = U at kr3 g3 h3 y0 y1 yA
    rcases T_box hm g3 h3.1 with ⟨b, s4, u4, bl, p7, p8, p9, p10, p11, p12⟩ | ⟨s4, u4, p7, p8, p9, p10, p11⟩
    rotate_left
    · rw [L111_0 m m0 n _ _ n40 c237 (by omega) p7 (by rw [p10.1 237 (by decide), wI_ne (by decide)]; exact c237), if_pos rfl, Option.bind_some, p8, Option.bind_some]
      dsimp only
      rw [R_keep0, Option.bind_some]
      exact ⟨0, _, _, rfl, rfl, KC_trans kc3 (KC_trans (KC_of p10) (KC_w (by omega) (by omega))), KR_trans kr3 (KR_of p11), Or.inr ⟨rfl, Flt_w p9 (by decide)⟩⟩
    rw [L111_0 m m0 n _ _ n40 c237 (by omega) p7 (by rw [p11.1 237 (by decide), wI_ne (by decide)]; exact c237), if_neg (by omega), Option.bind_some, p8, Option.bind_some]
    dsimp only
    rw [if_neg (show ¬ (1 : Int) = 0 by decide), R_keep1 m _ (by omega), Option.bind_some, p9]
    dsimp only
    rw [if_neg (show ¬ (1 : Int) = 0 by decide)]
    have h4 : BR1 n (wI s4 240 n (b : Int)) (wI u4 266 (3 * n + 2) (b : Int)) := by
      refine ⟨⟨BR_u (BR_w (BR_keep h3 p11 p12) (by omega) _) (by omega) _, n40⟩, ?_, ?_, ?_, ?_⟩
      · rw [wI_ne (by decide), p11.1 238 (by decide), x238, wI_f (by omega), p12.1 266 (by decide), y0]
      · rw [wI_ne (by decide), p11.1 239 (by decide), x239, wI_f (by omega), p12.1 266 (by decide), y1]
      · intro _; rw [wI_at, wI_at]
      · rw [wI_ne (show (238 : Nat) ≠ 240 by decide), p11.1 238 (by decide), x238, wI_ne (show (239 : Nat) ≠ 240 by decide), p11.1 239 (by decide), x239, wI_at, wI_ne (show (251 : Nat) ≠ 266 by decide), p12.1 251 (by decide), yA]
        rw [yA] at bl
        exact Or.inl ⟨rfl, by omega, jl, by omega, bl⟩
    exact Pst_mono (B_end hm (TokG_cg p10 (wI_ne (by decide)) (wI_ne (by decide)) rfl (fun j _ => by rw [wI_ne (by decide)]) (wI_ne (by decide)) rfl) h4) (by omega) (by omega) (KC_trans kc3 (KC_trans (KC_of p11) (KC_w (by omega) (by omega)))) (KR_trans kr3 (KR_trans (KR_of p12) (KR_w (by omega))))
  rw [if_neg a0]
  by_cases a1 : act = 1
  · -- lay
    subst a1
    rw [if_pos rfl, q8, Option.bind_some, R_keep1 m _ (by omega), Option.bind_some, q9]
    dsimp only
    rw [if_neg (show ¬ (1 : Int) = 0 by decide)]
    generalize hU : wI u3 266 (3 * n + 1) (j : Int) = U at kr3 g3 h3 y0 y1 yA
    rcases T_plot hm g3 h3.1 with ⟨b, s4, u4, bl, p7, p8, p9, p10, p11, p12⟩ | ⟨s4, u4, p7, p8, p9, p10, p11⟩
    rotate_left
    · rw [L111_1 m m0 n _ _ n40 c237 (by omega) p7 (by rw [p10.1 237 (by decide), wI_ne (by decide)]; exact c237), if_pos rfl, Option.bind_some, p8, Option.bind_some]
      dsimp only
      rw [R_keep0, Option.bind_some]
      exact ⟨0, _, _, rfl, rfl, KC_trans kc3 (KC_trans (KC_of p10) (KC_w (by omega) (by omega))), KR_trans kr3 (KR_of p11), Or.inr ⟨rfl, Flt_w p9 (by decide)⟩⟩
    rw [L111_1 m m0 n _ _ n40 c237 (by omega) p7 (by rw [p11.1 237 (by decide), wI_ne (by decide)]; exact c237), if_neg (by omega), Option.bind_some, p8, Option.bind_some]
    dsimp only
    rw [if_neg (show ¬ (1 : Int) = 0 by decide), R_keep1 m _ (by omega), Option.bind_some, p9]
    dsimp only
    rw [if_neg (show ¬ (1 : Int) = 0 by decide)]
    have h4 : BR1 n (wI s4 240 n (b : Int)) (wI u4 266 (3 * n + 2) (b : Int)) := by
      refine ⟨⟨BR_u (BR_w (BR_keep h3 p11 p12) (by omega) _) (by omega) _, n40⟩, ?_, ?_, ?_, ?_⟩
      · rw [wI_ne (by decide), p11.1 238 (by decide), x238, wI_f (by omega), p12.1 266 (by decide), y0]
      · rw [wI_ne (by decide), p11.1 239 (by decide), x239, wI_f (by omega), p12.1 266 (by decide), y1]
      · intro _; rw [wI_at, wI_at]
      · rw [wI_ne (show (238 : Nat) ≠ 240 by decide), p11.1 238 (by decide), x238, wI_ne (show (239 : Nat) ≠ 240 by decide), p11.1 239 (by decide), x239, wI_at, wI_ne (show (251 : Nat) ≠ 266 by decide), p12.1 251 (by decide), yA]
        rw [yA] at bl
        exact Or.inr (Or.inl ⟨rfl, by omega, jl, by omega, bl⟩)
    exact Pst_mono (B_end hm (TokG_cg p10 (wI_ne (by decide)) (wI_ne (by decide)) rfl (fun j _ => by rw [wI_ne (by decide)]) (wI_ne (by decide)) rfl) h4) (by omega) (by omega) (KC_trans kc3 (KC_trans (KC_of p11) (KC_w (by omega) (by omega)))) (KR_trans kr3 (KR_trans (KR_of p12) (KR_w (by omega))))
  rw [if_neg a1]
  -- swap
  have a2 : act = 2 := by omega
  subst a2
  rw [if_pos rfl, q8, Option.bind_some, R_keep1 m _ (by omega), Option.bind_some, q9]
  dsimp only
  rw [if_neg (show ¬ (1 : Int) = 0 by decide), L111_2 m m0 n _ n40 c237 (by omega)]
  generalize hU : wI u3 266 (3 * n + 1) (j : Int) = U at kr3 g3 h3 y0 y1 yA
  rcases B_other hm g3 h3.1 n40 h3.2.1 (by rw [x239, y1]) with ⟨b, s4, u4, bl, bne, p7, p8, p9, p10, p11⟩ | ⟨s4, u4, p7, p8, p9, p10, p11⟩
  rotate_left
  · rw [p7, p8]
    exact ⟨0, _, _, rfl, rfl, KC_trans kc3 p10, KR_trans kr3 p11, Or.inr ⟨rfl, p9⟩⟩
  rw [p7, p8, Option.bind_some, Option.bind_some]
  dsimp only
  rw [if_pos (Or.inr rfl), Option.bind_some]
  dsimp only
  rw [if_neg (show ¬ (1 : Int) = 0 by decide), if_neg (show ¬ (1 : Int) = 0 by decide)]
  have h4 : BR1 n s4 u4 := by
    refine ⟨⟨BR_keep (BR_u (BR_w h3 (show 240 = 238 ∨ 240 = 239 ∨ 240 = 240 by omega) (b : Int)) (show 3 * n ≤ 3 * n + 2 by omega) (b : Int)) p10 p11, n40⟩, ?_, ?_, ?_, ?_⟩
    · rw [p10.1 238 (by decide), wI_ne (by decide), x238, p11.1 266 (by decide), wI_f (by omega), y0]
    · rw [p10.1 239 (by decide), wI_ne (by decide), x239, p11.1 266 (by decide), wI_f (by omega), y1]
    · intro _; rw [p10.1 240 (by decide), wI_at, p11.1 266 (by decide), wI_at]
    · rw [p10.1 238 (by decide), wI_ne (by decide), x238, p10.1 239 (by decide), wI_ne (by decide), x239, p10.1 240 (by decide), wI_at, p11.1 251 (by decide), wI_ne (by decide), yA]
      rw [yA] at bl
      rw [x239] at bne
      exact Or.inr (Or.inr (Or.inl ⟨rfl, by omega, jl, by omega, bl, fun q => bne q.symm⟩))
  exact Pst_mono (B_end hm p9 h4) (by omega) (by omega) (KC_trans kc3 (KC_trans (KC_w (by omega) (by omega)) (KC_of p10))) (KR_trans kr3 (KR_trans (KR_w (by omega)) (KR_of p11)))
