/-! ===== written by gen_a86.py: reading (4): lines of a vestry, read ===== -/
theorem Pst_01 {Ψ : mS → mS → Prop} {a : Int} {s u : mS} {F G : Option (Int × mS)} (h : Pst Ψ a s u F G) : Pst Ψ a s u (F.bind fun p => (if p.1 = 0 ∨ p.1 = 1 then some (p.1, p.2) else none)) G := by
  obtain ⟨r, s', u', h1, h2, h3, h4, h5⟩ := h
  refine ⟨r, s', u', ?_, h2, h3, h4, h5⟩
  rw [h1, Option.bind_some]
  dsimp only
  rw [if_pos (by rcases h5 with q | q; exact Or.inr q.1; exact Or.inl q.1)]
theorem Pst_10 {Ψ : mS → mS → Prop} {a : Int} {s u : mS} {F G : Option (Int × mS)} (h : Pst Ψ a s u F G) : Pst Ψ a s u F (G.bind fun p => (if p.1 = 0 ∨ p.1 = 1 then some (p.1, p.2) else none)) := by
  obtain ⟨r, s', u', h1, h2, h3, h4, h5⟩ := h
  refine ⟨r, s', u', h1, ?_, h3, h4, h5⟩
  rw [h2, Option.bind_some]
  dsimp only
  rw [if_pos (by rcases h5 with q | q; exact Or.inr q.1; exact Or.inl q.1)]
theorem Flt_w {s u : mS} (h : Flt s u) {c k : Nat} {v : Int} (hc : c ≠ 1) : Flt (wI s c k v) u := by unfold Flt at h ⊢; rw [wI_ne (fun q => hc q.symm)]; exact h
theorem Flt_u {s u : mS} (h : Flt s u) {c k : Nat} {v : Int} (hc : c ≠ 249) : Flt s (wI u c k v) := by unfold Flt at h ⊢; rw [wI_ne (fun q => hc q.symm)]; exact h
theorem Pst_fail {Ψ : mS → mS → Prop} {a : Int} (m : Nat) {s u : mS} (h : TokR s u) {kc kr : Int} (hk : kc = if s.1 1 2 = 1 then 1 else kr) (hr : kr ≠ 0) : Pst Ψ a s u (f_Tp_fail m kc s) (f_R_bad m kr u) := by
  obtain ⟨s', u', r1, r2, r3, r4, r5⟩ := T_fail m h hk hr
  exact ⟨0, s', u', r1, r2, KC_of r4, KR_of r5, Or.inr ⟨rfl, r3⟩⟩
theorem w32n (k n : Nat) (hk : k < 1000) (hn : n < 1000) : w32 ((k : Int) + (n : Int)) = ((k + n : Nat) : Int) := by rw [w32_in (by omega) (by omega)]; omega
theorem V_box {m : Nat} (hm : 10000 ≤ m) {a : Int} {s u : mS} (h : TokG a s u) (hf : FV s u) (k2 : s.1 1 2 = 2) : Pst FV (a + 1) s u (if s.1 219 0 < 9 then f_Vs_readBox m s else f_Tp_fail m 4 s) (f_R_readBox m u) := by
  have W0 := WFv_boxes hf.1
  have W1 := WFv_plots hf.1
  have W2 := WFv_dead hf.1
  have W4 := hf.1.2.2.2.2.1
  obtain ⟨n, hn⟩ : ∃ n : Nat, u.1 252 0 = (n : Int) := ⟨(u.1 252 0).toNat, by omega⟩
  have c0 : s.1 219 0 = u.1 252 0 := hf.2.1.1
  have c1 : s.1 219 1 = u.1 252 1 := hf.2.1.2.1
  have c2 : s.1 219 2 = u.1 252 2 := hf.2.1.2.2.1
  have c4 : s.1 219 4 = u.1 252 4 := hf.2.1.2.2.2.2.1
  rw [f_R_readBox_eq, f_R_readFirst_eq, inR_pos (by omega) (by omega)]
  by_cases cf : n < 9
  · rw [if_pos (show s.1 219 0 < 9 from by omega), show ((0 : Int)).toNat = 0 from rfl, if_neg (show ¬ u.1 252 0 = 9 from by omega), f_Vs_readBox_eq]
    obtain ⟨s1, u1, r1, r2, r3, r4, r5, _⟩ := T_adv hm h (by omega) (by omega)
    have ha := h.2.1
    have f1 := FV_keep hf r4 r5
    have n1 : u1.1 252 0 = (n : Int) := by rw [r5.1 252 (by decide)]; exact hn
    have d1 : s1.1 219 0 = (n : Int) := by rw [r4.1 219 (by decide)]; omega
    rw [r1, Option.bind_some, r2, Option.bind_some, Option.bind_some]
    dsimp only
    rw [if_neg (show ¬ (1 : Int) = 0 from by decide), n1]
    rw [d1, inR_pos (by omega) (by omega), Int.toNat_natCast]
    obtain ⟨t1, ht1⟩ : ∃ t1, t1 = wJ s1 220 n (s1.2 1 4) := ⟨_, rfl⟩
    rw [← ht1]
    have g1 : TokG (a + 1) t1 u1 := TokG_cg r3 (by rw [ht1]; rfl) (by rw [ht1]; rfl) (by rw [ht1]; exact wJ_ne2 (by decide)) (fun _ _ => rfl) rfl rfl
    have eJ1 : ∀ c k, ¬ (c = 220 ∧ k = n) → t1.2 c k = s1.2 c k := by intro c k q; rw [ht1, wJ_2, if_neg q]
    have vn1 : VN t1 219 (u1.1 252) (u1.2 258) := by
      obtain ⟨p1, p2, p3⟩ := f1.2.2.1
      refine ⟨fun b hb => ?_, fun b hb => ?_, fun b hb => ?_⟩
      · rw [eJ1 220 b (by omega)]; exact p1 b hb
      · rw [eJ1 223 b (by omega)]; exact p2 b hb
      · rw [eJ1 225 b (by omega)]; exact p3 b hb
    have k219 : t1.1 = s1.1 := by rw [ht1]; rfl
    have tn := T_new hm g1 f1.1 (by rw [k219]; exact f1.2.1.1) (by rw [k219]; exact f1.2.1.2.1) (by rw [k219]; exact f1.2.1.2.2.1) vn1 n (by omega)
    have kc1 : KC s t1 := by rw [ht1]; exact KC_trans (KC_of r4) (KC_j (by omega) (by omega))
    have kr1 : KR u u1 := KR_of r5
    rcases tn with ⟨s2, u2, q1, q2, q3, q4, q5, q6⟩ | ⟨s2, u2, q1, q2, q3, q4, q5⟩
    rotate_left
    · rw [q1, Option.bind_some, q2, Option.bind_some]
      exact ⟨0, s2, u2, rfl, rfl, KC_trans kc1 (KC_of q4), KR_trans kr1 (KR_of q5), Or.inr ⟨rfl, q3⟩⟩
    rw [q1, Option.bind_some, q2, Option.bind_some]
    dsimp only
    rw [if_neg (show ¬ (1 : Int) = 0 from by decide), if_neg (show ¬ (1 : Int) = 0 from by decide)]
    have kc2 : KC s s2 := KC_trans kc1 (KC_of q5)
    have kr2 : KR u u2 := KR_trans kr1 (KR_trans KR_j (KR_of q6))
    have d2 : s2.1 219 0 = (n : Int) := by rw [q5.1 219 (by decide), k219]; exact d1
    have E2 : ∀ c, c ≠ 1 → s2.1 c = s.1 c := fun c hc => by rw [q5.1 c hc, k219, r4.1 c hc]
    have J2 : ∀ c k, c ≠ 1 → ¬ (c = 220 ∧ k = n) → s2.2 c k = s.2 c k := fun c k hc q => by rw [q5.2.1 c hc, eJ1 c k q, r4.2.1 c hc]
    have JN : s2.2 220 n = s1.2 1 4 := by rw [q5.2.1 220 (by decide), ht1, wJ_at2]
    have A2 : u2.1 252 = u.1 252 := by rw [q6.1 252 (by decide), wJ_1, r5.1 252 (by decide)]
    have N2 : ∀ k, k ≠ n → u2.2 258 k = u.2 258 k := fun k hk => by rw [q6.2.1 258 (by decide), wJ_f2 hk, r5.2.1 258 (by decide)]
    have NN : u2.2 258 n = u1.2 249 12 := by rw [q6.2.1 258 (by decide), wJ_at2]
    have H2 : u2.1 249 24 = u.1 249 24 := by rw [q6.2.2 24 (by omega), wJ_1, r5.2.2 24 (by omega)]
    have nmx : NM (s1.2 1 4) (u1.2 249 12) := by have := q3; rw [ht1, wJ_ne2 (by decide)] at this; exact this
    have G2 := q4
    rcases T_num hm G2 10 99 with ⟨y1, s3, u3, b1, b1', b1'', _, q7, q8, q9, q10, q11, q12⟩ | ⟨s3, u3, q7, q8, q9, q10, q11⟩
    rotate_left
    · rw [q7, Option.bind_some, q8, Option.bind_some]
      dsimp only
      have d3 : (wI s3 221 n (-1)).1 219 0 = (n : Int) := by rw [wI_ne (by decide), q10.1 219 (by decide)]; exact d2
      rw [d2, inR_pos (by omega) (by omega), Int.toNat_natCast, d3, inR_pos (by omega) (by omega), Int.toNat_natCast, wI_at, if_pos rfl, R_noted0, Option.bind_some]
      exact ⟨0, _, _, rfl, rfl, KC_trans kc2 (KC_trans (KC_of q10) (KC_w (by omega) (by omega))), KR_trans kr2 (KR_of q11), Or.inr ⟨rfl, Flt_w q9 (by decide)⟩⟩
    rw [q7, Option.bind_some, q8, Option.bind_some]
    dsimp only
    have d3 : (wI s3 221 n y1).1 219 0 = (n : Int) := by rw [wI_ne (by decide), q11.1 219 (by decide)]; exact d2
    have nt1 := R_noted1 m (6 + n) (by omega) u3
    rw [d2, inR_pos (by omega) (by omega), Int.toNat_natCast, d3, inR_pos (by omega) (by omega), Int.toNat_natCast, wI_at, if_neg (show ¬ y1 = -1 from by omega)]
    have e1w : w32 ((6 : Int) + (n : Int)) = ((6 + n : Nat) : Int) := w32n 6 n (by omega) (by omega)
    rw [e1w, nt1, Option.bind_some]
    clear e1w
    dsimp only
    rw [if_neg (show ¬ (1 : Int) = 0 from by decide), q9]
    have G3 : TokG (a + 1) (wI s3 221 n y1) (wI u3 252 (6 + n) y1) := TokG_mono (TokG_cg q10 (wI_ne (by decide)) (wI_ne (by decide)) rfl (fun k _ => by rw [wI_ne (by decide)]) (wI_ne (by decide)) rfl) (by omega) (by omega)
    have kc3 : KC s (wI s3 221 n y1) := KC_trans kc2 (KC_trans (KC_of q11) (KC_w (by omega) (by omega)))
    have kr3 : KR u (wI u3 252 (6 + n) y1) := KR_trans kr2 (KR_trans (KR_of q12) (KR_w (by omega)))
    have E3 : ∀ c k, c ≠ 1 → ¬ (c = 221 ∧ k = n) → (wI s3 221 n y1).1 c k = s.1 c k := fun c k hc q => by rw [wI_1, if_neg q, q11.1 c hc, E2 c hc]
    have Z3 : (wI s3 221 n y1).1 221 n = y1 := wI_at
    have J3 : ∀ c k, c ≠ 1 → ¬ (c = 220 ∧ k = n) → (wI s3 221 n y1).2 c k = s.2 c k := fun c k hc q => by rw [wI_2, q11.2.1 c hc, J2 c k hc q]
    have JN3 : (wI s3 221 n y1).2 220 n = s1.2 1 4 := by rw [wI_2, q11.2.1 220 (by decide), JN]
    have N3 : ∀ k, k ≠ n → (wI u3 252 (6 + n) y1).2 258 k = u.2 258 k := fun k hk => by rw [wI_2, q12.2.1 258 (by decide), N2 k hk]
    have NN3 : (wI u3 252 (6 + n) y1).2 258 n = u1.2 249 12 := by rw [wI_2, q12.2.1 258 (by decide), NN]
    have A3 : ∀ k, k ≠ 6 + n → (wI u3 252 (6 + n) y1).1 252 k = u.1 252 k := fun k hk => by rw [wI_f hk, q12.1 252 (by decide), A2]
    have V3 : (wI u3 252 (6 + n) y1).1 252 (6 + n) = y1 := wI_at
    have H3 : (wI u3 252 (6 + n) y1).1 249 24 = u.1 249 24 := by rw [wI_ne (by decide), q12.2.2 24 (by omega), H2]
    generalize wI s3 221 n y1 = S3 at d3 G3 kc3 E3 Z3 J3 JN3 ⊢
    generalize wI u3 252 (6 + n) y1 = U3 at G3 kr3 N3 NN3 A3 V3 H3 ⊢
    rcases T_num hm G3 1 99 with ⟨y2, s4, u4, b2, b2', b2'', _, p7, p8, p9, p10, p11, p12⟩ | ⟨s4, u4, p7, p8, p9, p10, p11⟩
    rotate_left
    · rw [p7, Option.bind_some, p8, Option.bind_some]
      dsimp only
      have d4 : (wI s4 222 n (-1)).1 219 0 = (n : Int) := by rw [wI_ne (by decide), p10.1 219 (by decide)]; exact d3
      rw [d4, inR_pos (by omega) (by omega), inR_pos (by omega) (by omega), Int.toNat_natCast, wI_at, if_pos rfl, R_noted0, Option.bind_some]
      exact ⟨0, _, _, rfl, rfl, KC_trans kc3 (KC_trans (KC_of p10) (KC_w (by omega) (by omega))), KR_trans kr3 (KR_of p11), Or.inr ⟨rfl, Flt_w p9 (by decide)⟩⟩
    rw [p7, Option.bind_some, p8, Option.bind_some]
    dsimp only
    have d4 : (wI s4 222 n y2).1 219 0 = (n : Int) := by rw [wI_ne (by decide), p11.1 219 (by decide)]; exact d3
    have nt2 := R_noted1 m (15 + n) (by omega) u4
    have cU : (wI u4 252 (15 + n) (u4.1 249 13)).1 252 0 = (n : Int) := by rw [wI_f (by omega), p12.1 252 (by decide), A3 0 (by omega)]; exact hn
    rw [d4, inR_pos (by omega) (by omega), inR_pos (by omega) (by omega), Int.toNat_natCast, wI_at, if_neg (show ¬ y2 = -1 from by omega)]
    have e2w : w32 ((15 : Int) + (n : Int)) = ((15 + n : Nat) : Int) := w32n 15 n (by omega) (by omega)
    rw [e2w, nt2, Option.bind_some]
    clear e2w
    dsimp only
    rw [if_neg (show ¬ (1 : Int) = 0 from by decide), cU, p9, w32_in (by omega) (by omega)]
    refine ⟨1, _, _, rfl, rfl, KC_trans kc3 (KC_trans (KC_trans (KC_of p11) (KC_w (by omega) (by omega))) (KC_w (by omega) (by omega))), KR_trans kr3 (KR_trans (KR_trans (KR_of p12) (KR_w (by omega))) (KR_w (by omega))), Or.inl ⟨rfl, ?_, ?_⟩⟩
    · exact TokG_mono (TokG_cg p10 (by rw [wI_ne (by decide), wI_ne (by decide)]) (by rw [wI_ne (by decide), wI_ne (by decide)]) rfl (fun k _ => by rw [wI_ne (by decide), wI_ne (by decide)]) (by rw [wI_ne (by decide), wI_ne (by decide)]) rfl) (by omega) (by omega)
    · exact FV_box hf (y1 := y1) (y2 := y2) hn cf ⟨b1, b1'⟩ ⟨b2, b2'⟩ wI_at (by rw [wI_f (by omega), wI_f (by omega), p12.1 252 (by decide)]; exact V3) (by rw [wI_f (by omega), wI_at]) wI_at (by rw [wI_ne (by decide), wI_ne (by decide), p11.1 221 (by decide)]; exact Z3) (by rw [wI_ne (by decide), wI_at]) (by rw [wI_2, wI_2, wI_2, wI_2, p11.2.1 220 (by decide), p12.2.1 258 (by decide), JN3, NN3]; exact nmx) (fun k hk => by rw [wI_2, wI_2, p12.2.1 258 (by decide), N3 k hk]) (by rw [wI_ne (by decide), wI_ne (by decide), p12.2.2 24 (by omega), H3]) (fun c k x y z1 z2 z3 => by rw [wI_1, if_neg z1, wI_1, if_neg z3, p11.1 c (by omega), E3 c k (by omega) z2]) (fun c k x y z1 => by rw [wI_2, wI_2, p11.2.1 c (by omega), J3 c k (by omega) z1]) (fun k x y z => by rw [wI_f x, wI_f z, p12.1 252 (by decide), A3 k y])
  · obtain ⟨s', u', r1, r2, r3, r4, r5⟩ := T_fail m h.1 (kc := 4) (kr := 4) (by rw [if_neg (by omega)]) (by decide)
    rw [if_neg (show ¬ s.1 219 0 < 9 from by omega), show ((0 : Int)).toNat = 0 from rfl, if_pos (show u.1 252 0 = 9 from by omega), r1, r2]
    exact ⟨0, s', u', rfl, rfl, KC_of r4, KR_of r5, Or.inr ⟨rfl, r3⟩⟩
theorem V_plot {m : Nat} (hm : 10000 ≤ m) {a : Int} {s u : mS} (h : TokG a s u) (hf : FV s u) (k2 : s.1 1 2 = 2) : Pst FV (a + 1) s u (if s.1 219 1 < 5 then f_Vs_readPlot m s else f_Tp_fail m 4 s) (f_R_readPlot m u) := by
  have W0 := WFv_boxes hf.1
  have W1 := WFv_plots hf.1
  have W2 := WFv_dead hf.1
  have W4 := hf.1.2.2.2.2.1
  obtain ⟨n, hn⟩ : ∃ n : Nat, u.1 252 1 = (n : Int) := ⟨(u.1 252 1).toNat, by omega⟩
  have c0 : s.1 219 0 = u.1 252 0 := hf.2.1.1
  have c1 : s.1 219 1 = u.1 252 1 := hf.2.1.2.1
  have c2 : s.1 219 2 = u.1 252 2 := hf.2.1.2.2.1
  have c4 : s.1 219 4 = u.1 252 4 := hf.2.1.2.2.2.2.1
  rw [f_R_readPlot_eq, f_R_readFirst_eq, inR_pos (by omega) (by omega)]
  by_cases cf : n < 5
  · rw [if_pos (show s.1 219 1 < 5 from by omega), show ((1 : Int)).toNat = 1 from rfl, if_neg (show ¬ u.1 252 1 = 5 from by omega), f_Vs_readPlot_eq]
    obtain ⟨s1, u1, r1, r2, r3, r4, r5, _⟩ := T_adv hm h (by omega) (by omega)
    have ha := h.2.1
    have f1 := FV_keep hf r4 r5
    have n1 : u1.1 252 1 = (n : Int) := by rw [r5.1 252 (by decide)]; exact hn
    have d1 : s1.1 219 1 = (n : Int) := by rw [r4.1 219 (by decide)]; omega
    rw [r1, Option.bind_some, r2, Option.bind_some, Option.bind_some]
    dsimp only
    rw [if_neg (show ¬ (1 : Int) = 0 from by decide), n1]
    have e0w : w32 ((9 : Int) + (n : Int)) = ((9 + n : Nat) : Int) := w32n 9 n (by omega) (by omega)
    rw [e0w]
    clear e0w
    rw [d1, inR_pos (by omega) (by omega), Int.toNat_natCast]
    obtain ⟨t1, ht1⟩ : ∃ t1, t1 = wJ s1 223 n (s1.2 1 4) := ⟨_, rfl⟩
    rw [← ht1]
    have g1 : TokG (a + 1) t1 u1 := TokG_cg r3 (by rw [ht1]; rfl) (by rw [ht1]; rfl) (by rw [ht1]; exact wJ_ne2 (by decide)) (fun _ _ => rfl) rfl rfl
    have eJ1 : ∀ c k, ¬ (c = 223 ∧ k = n) → t1.2 c k = s1.2 c k := by intro c k q; rw [ht1, wJ_2, if_neg q]
    have vn1 : VN t1 219 (u1.1 252) (u1.2 258) := by
      obtain ⟨p1, p2, p3⟩ := f1.2.2.1
      refine ⟨fun b hb => ?_, fun b hb => ?_, fun b hb => ?_⟩
      · rw [eJ1 220 b (by omega)]; exact p1 b hb
      · rw [eJ1 223 b (by omega)]; exact p2 b hb
      · rw [eJ1 225 b (by omega)]; exact p3 b hb
    have k219 : t1.1 = s1.1 := by rw [ht1]; rfl
    have tn := T_new hm g1 f1.1 (by rw [k219]; exact f1.2.1.1) (by rw [k219]; exact f1.2.1.2.1) (by rw [k219]; exact f1.2.1.2.2.1) vn1 (9 + n) (by omega)
    have kc1 : KC s t1 := by rw [ht1]; exact KC_trans (KC_of r4) (KC_j (by omega) (by omega))
    have kr1 : KR u u1 := KR_of r5
    rcases tn with ⟨s2, u2, q1, q2, q3, q4, q5, q6⟩ | ⟨s2, u2, q1, q2, q3, q4, q5⟩
    rotate_left
    · rw [q1, Option.bind_some, q2, Option.bind_some]
      exact ⟨0, s2, u2, rfl, rfl, KC_trans kc1 (KC_of q4), KR_trans kr1 (KR_of q5), Or.inr ⟨rfl, q3⟩⟩
    rw [q1, Option.bind_some, q2, Option.bind_some]
    dsimp only
    rw [if_neg (show ¬ (1 : Int) = 0 from by decide), if_neg (show ¬ (1 : Int) = 0 from by decide)]
    have kc2 : KC s s2 := KC_trans kc1 (KC_of q5)
    have kr2 : KR u u2 := KR_trans kr1 (KR_trans KR_j (KR_of q6))
    have d2 : s2.1 219 1 = (n : Int) := by rw [q5.1 219 (by decide), k219]; exact d1
    have E2 : ∀ c, c ≠ 1 → s2.1 c = s.1 c := fun c hc => by rw [q5.1 c hc, k219, r4.1 c hc]
    have J2 : ∀ c k, c ≠ 1 → ¬ (c = 223 ∧ k = n) → s2.2 c k = s.2 c k := fun c k hc q => by rw [q5.2.1 c hc, eJ1 c k q, r4.2.1 c hc]
    have JN : s2.2 223 n = s1.2 1 4 := by rw [q5.2.1 223 (by decide), ht1, wJ_at2]
    have A2 : u2.1 252 = u.1 252 := by rw [q6.1 252 (by decide), wJ_1, r5.1 252 (by decide)]
    have N2 : ∀ k, k ≠ (9 + n) → u2.2 258 k = u.2 258 k := fun k hk => by rw [q6.2.1 258 (by decide), wJ_f2 hk, r5.2.1 258 (by decide)]
    have NN : u2.2 258 (9 + n) = u1.2 249 12 := by rw [q6.2.1 258 (by decide), wJ_at2]
    have H2 : u2.1 249 24 = u.1 249 24 := by rw [q6.2.2 24 (by omega), wJ_1, r5.2.2 24 (by omega)]
    have nmx : NM (s1.2 1 4) (u1.2 249 12) := by have := q3; rw [ht1, wJ_ne2 (by decide)] at this; exact this
    have G2 := q4
    rcases T_num hm G2 0 60 with ⟨y1, s3, u3, b1, b1', b1'', _, q7, q8, q9, q10, q11, q12⟩ | ⟨s3, u3, q7, q8, q9, q10, q11⟩
    rotate_left
    · rw [q7, Option.bind_some, q8, Option.bind_some]
      dsimp only
      have d3 : (wI s3 224 n (-1)).1 219 1 = (n : Int) := by rw [wI_ne (by decide), q10.1 219 (by decide)]; exact d2
      rw [d2, inR_pos (by omega) (by omega), Int.toNat_natCast, d3, inR_pos (by omega) (by omega), Int.toNat_natCast, wI_at, if_pos rfl, R_noted0, Option.bind_some]
      exact ⟨0, _, _, rfl, rfl, KC_trans kc2 (KC_trans (KC_of q10) (KC_w (by omega) (by omega))), KR_trans kr2 (KR_of q11), Or.inr ⟨rfl, Flt_w q9 (by decide)⟩⟩
    rw [q7, Option.bind_some, q8, Option.bind_some]
    dsimp only
    have d3 : (wI s3 224 n y1).1 219 1 = (n : Int) := by rw [wI_ne (by decide), q11.1 219 (by decide)]; exact d2
    have nt1 := R_noted1 m (24 + n) (by omega) u3
    rw [d2, inR_pos (by omega) (by omega), Int.toNat_natCast, d3, inR_pos (by omega) (by omega), Int.toNat_natCast, wI_at, if_neg (show ¬ y1 = -1 from by omega)]
    have e1w : w32 ((24 : Int) + (n : Int)) = ((24 + n : Nat) : Int) := w32n 24 n (by omega) (by omega)
    rw [e1w, nt1, Option.bind_some]
    clear e1w
    dsimp only
    rw [if_neg (show ¬ (1 : Int) = 0 from by decide), q9]
    have G3 : TokG (a + 1) (wI s3 224 n y1) (wI u3 252 (24 + n) y1) := TokG_mono (TokG_cg q10 (wI_ne (by decide)) (wI_ne (by decide)) rfl (fun k _ => by rw [wI_ne (by decide)]) (wI_ne (by decide)) rfl) (by omega) (by omega)
    have kc3 : KC s (wI s3 224 n y1) := KC_trans kc2 (KC_trans (KC_of q11) (KC_w (by omega) (by omega)))
    have kr3 : KR u (wI u3 252 (24 + n) y1) := KR_trans kr2 (KR_trans (KR_of q12) (KR_w (by omega)))
    have E3 : ∀ c k, c ≠ 1 → ¬ (c = 224 ∧ k = n) → (wI s3 224 n y1).1 c k = s.1 c k := fun c k hc q => by rw [wI_1, if_neg q, q11.1 c hc, E2 c hc]
    have Z3 : (wI s3 224 n y1).1 224 n = y1 := wI_at
    have J3 : ∀ c k, c ≠ 1 → ¬ (c = 223 ∧ k = n) → (wI s3 224 n y1).2 c k = s.2 c k := fun c k hc q => by rw [wI_2, q11.2.1 c hc, J2 c k hc q]
    have JN3 : (wI s3 224 n y1).2 223 n = s1.2 1 4 := by rw [wI_2, q11.2.1 223 (by decide), JN]
    have N3 : ∀ k, k ≠ (9 + n) → (wI u3 252 (24 + n) y1).2 258 k = u.2 258 k := fun k hk => by rw [wI_2, q12.2.1 258 (by decide), N2 k hk]
    have NN3 : (wI u3 252 (24 + n) y1).2 258 (9 + n) = u1.2 249 12 := by rw [wI_2, q12.2.1 258 (by decide), NN]
    have A3 : ∀ k, k ≠ 24 + n → (wI u3 252 (24 + n) y1).1 252 k = u.1 252 k := fun k hk => by rw [wI_f hk, q12.1 252 (by decide), A2]
    have V3 : (wI u3 252 (24 + n) y1).1 252 (24 + n) = y1 := wI_at
    have H3 : (wI u3 252 (24 + n) y1).1 249 24 = u.1 249 24 := by rw [wI_ne (by decide), q12.2.2 24 (by omega), H2]
    generalize wI s3 224 n y1 = S3 at d3 G3 kc3 E3 Z3 J3 JN3 ⊢
    generalize wI u3 252 (24 + n) y1 = U3 at G3 kr3 N3 NN3 A3 V3 H3 ⊢
    have cU : U3.1 252 1 = (n : Int) := by rw [A3 1 (by omega)]; exact hn
    rw [cU, w32_in (by omega) (by omega)]
    refine ⟨1, _, _, rfl, rfl, KC_trans kc3 (KC_w (by omega) (by omega)), KR_trans kr3 (KR_w (by omega)), Or.inl ⟨rfl, ?_, ?_⟩⟩
    · exact TokG_cg G3 (by rw [wI_ne (by decide)]) (by rw [wI_ne (by decide)]) rfl (fun k _ => by rw [wI_ne (by decide)]) (by rw [wI_ne (by decide)]) rfl
    · exact FV_plot hf (y1 := y1) hn cf ⟨b1, b1'⟩ wI_at (by rw [wI_f (by omega)]; exact V3) wI_at (by rw [wI_ne (by decide)]; exact Z3) (by rw [wI_2, wI_2, JN3, NN3]; exact nmx) (fun k hk => by rw [wI_2, N3 k hk]) (by rw [wI_ne (by decide), H3]) (fun c k x y z1 z2 => by rw [wI_1, if_neg z1, E3 c k (by omega) z2]) (fun c k x y z1 => by rw [wI_2, J3 c k (by omega) z1]) (fun k x y => by rw [wI_f x, A3 k y])
  · obtain ⟨s', u', r1, r2, r3, r4, r5⟩ := T_fail m h.1 (kc := 4) (kr := 4) (by rw [if_neg (by omega)]) (by decide)
    rw [if_neg (show ¬ s.1 219 1 < 5 from by omega), show ((1 : Int)).toNat = 1 from rfl, if_pos (show u.1 252 1 = 5 from by omega), r1, r2]
    exact ⟨0, s', u', rfl, rfl, KC_of r4, KR_of r5, Or.inr ⟨rfl, r3⟩⟩
theorem V_dead {m : Nat} (hm : 10000 ≤ m) {a : Int} {s u : mS} (h : TokG a s u) (hf : FV s u) (k2 : s.1 1 2 = 2) : Pst FV (a + 1) s u (if s.1 219 2 < 12 then f_Vs_readOne m s else f_Tp_fail m 4 s) (f_R_readDead m u) := by
  have W0 := WFv_boxes hf.1
  have W1 := WFv_plots hf.1
  have W2 := WFv_dead hf.1
  have W4 := hf.1.2.2.2.2.1
  obtain ⟨n, hn⟩ : ∃ n : Nat, u.1 252 2 = (n : Int) := ⟨(u.1 252 2).toNat, by omega⟩
  have c0 : s.1 219 0 = u.1 252 0 := hf.2.1.1
  have c1 : s.1 219 1 = u.1 252 1 := hf.2.1.2.1
  have c2 : s.1 219 2 = u.1 252 2 := hf.2.1.2.2.1
  have c4 : s.1 219 4 = u.1 252 4 := hf.2.1.2.2.2.2.1
  rw [f_R_readDead_eq, f_R_readFirst_eq, inR_pos (by omega) (by omega)]
  by_cases cf : n < 12
  · rw [if_pos (show s.1 219 2 < 12 from by omega), show ((2 : Int)).toNat = 2 from rfl, if_neg (show ¬ u.1 252 2 = 12 from by omega), f_Vs_readOne_eq]
    obtain ⟨s1, u1, r1, r2, r3, r4, r5, _⟩ := T_adv hm h (by omega) (by omega)
    have ha := h.2.1
    have f1 := FV_keep hf r4 r5
    have n1 : u1.1 252 2 = (n : Int) := by rw [r5.1 252 (by decide)]; exact hn
    have d1 : s1.1 219 2 = (n : Int) := by rw [r4.1 219 (by decide)]; omega
    rw [r1, Option.bind_some, r2, Option.bind_some, Option.bind_some]
    dsimp only
    rw [if_neg (show ¬ (1 : Int) = 0 from by decide), n1]
    have e0w : w32 ((14 : Int) + (n : Int)) = ((14 + n : Nat) : Int) := w32n 14 n (by omega) (by omega)
    rw [e0w]
    clear e0w
    rw [d1, inR_pos (by omega) (by omega), Int.toNat_natCast]
    obtain ⟨t1, ht1⟩ : ∃ t1, t1 = wJ s1 225 n (s1.2 1 4) := ⟨_, rfl⟩
    rw [← ht1]
    have g1 : TokG (a + 1) t1 u1 := TokG_cg r3 (by rw [ht1]; rfl) (by rw [ht1]; rfl) (by rw [ht1]; exact wJ_ne2 (by decide)) (fun _ _ => rfl) rfl rfl
    have eJ1 : ∀ c k, ¬ (c = 225 ∧ k = n) → t1.2 c k = s1.2 c k := by intro c k q; rw [ht1, wJ_2, if_neg q]
    have vn1 : VN t1 219 (u1.1 252) (u1.2 258) := by
      obtain ⟨p1, p2, p3⟩ := f1.2.2.1
      refine ⟨fun b hb => ?_, fun b hb => ?_, fun b hb => ?_⟩
      · rw [eJ1 220 b (by omega)]; exact p1 b hb
      · rw [eJ1 223 b (by omega)]; exact p2 b hb
      · rw [eJ1 225 b (by omega)]; exact p3 b hb
    have k219 : t1.1 = s1.1 := by rw [ht1]; rfl
    have tn := T_new hm g1 f1.1 (by rw [k219]; exact f1.2.1.1) (by rw [k219]; exact f1.2.1.2.1) (by rw [k219]; exact f1.2.1.2.2.1) vn1 (14 + n) (by omega)
    have kc1 : KC s t1 := by rw [ht1]; exact KC_trans (KC_of r4) (KC_j (by omega) (by omega))
    have kr1 : KR u u1 := KR_of r5
    rcases tn with ⟨s2, u2, q1, q2, q3, q4, q5, q6⟩ | ⟨s2, u2, q1, q2, q3, q4, q5⟩
    rotate_left
    · rw [q1, Option.bind_some, q2, Option.bind_some]
      exact ⟨0, s2, u2, rfl, rfl, KC_trans kc1 (KC_of q4), KR_trans kr1 (KR_of q5), Or.inr ⟨rfl, q3⟩⟩
    rw [q1, Option.bind_some, q2, Option.bind_some]
    dsimp only
    rw [if_neg (show ¬ (1 : Int) = 0 from by decide), if_neg (show ¬ (1 : Int) = 0 from by decide)]
    have kc2 : KC s s2 := KC_trans kc1 (KC_of q5)
    have kr2 : KR u u2 := KR_trans kr1 (KR_trans KR_j (KR_of q6))
    have d2 : s2.1 219 2 = (n : Int) := by rw [q5.1 219 (by decide), k219]; exact d1
    have E2 : ∀ c, c ≠ 1 → s2.1 c = s.1 c := fun c hc => by rw [q5.1 c hc, k219, r4.1 c hc]
    have J2 : ∀ c k, c ≠ 1 → ¬ (c = 225 ∧ k = n) → s2.2 c k = s.2 c k := fun c k hc q => by rw [q5.2.1 c hc, eJ1 c k q, r4.2.1 c hc]
    have JN : s2.2 225 n = s1.2 1 4 := by rw [q5.2.1 225 (by decide), ht1, wJ_at2]
    have A2 : u2.1 252 = u.1 252 := by rw [q6.1 252 (by decide), wJ_1, r5.1 252 (by decide)]
    have N2 : ∀ k, k ≠ (14 + n) → u2.2 258 k = u.2 258 k := fun k hk => by rw [q6.2.1 258 (by decide), wJ_f2 hk, r5.2.1 258 (by decide)]
    have NN : u2.2 258 (14 + n) = u1.2 249 12 := by rw [q6.2.1 258 (by decide), wJ_at2]
    have H2 : u2.1 249 24 = u.1 249 24 := by rw [q6.2.2 24 (by omega), wJ_1, r5.2.2 24 (by omega)]
    have nmx : NM (s1.2 1 4) (u1.2 249 12) := by have := q3; rw [ht1, wJ_ne2 (by decide)] at this; exact this
    have G2 := q4
    rcases T_num hm G2 10 99 with ⟨y1, s3, u3, b1, b1', b1'', _, q7, q8, q9, q10, q11, q12⟩ | ⟨s3, u3, q7, q8, q9, q10, q11⟩
    rotate_left
    · rw [q7, Option.bind_some, q8, Option.bind_some]
      dsimp only
      have d3 : (wI s3 226 n (-1)).1 219 2 = (n : Int) := by rw [wI_ne (by decide), q10.1 219 (by decide)]; exact d2
      rw [d2, inR_pos (by omega) (by omega), Int.toNat_natCast, d3, inR_pos (by omega) (by omega), Int.toNat_natCast, wI_at, if_pos rfl, R_noted0, Option.bind_some]
      exact ⟨0, _, _, rfl, rfl, KC_trans kc2 (KC_trans (KC_of q10) (KC_w (by omega) (by omega))), KR_trans kr2 (KR_of q11), Or.inr ⟨rfl, Flt_w q9 (by decide)⟩⟩
    rw [q7, Option.bind_some, q8, Option.bind_some]
    dsimp only
    have d3 : (wI s3 226 n y1).1 219 2 = (n : Int) := by rw [wI_ne (by decide), q11.1 219 (by decide)]; exact d2
    have nt1 := R_noted1 m (29 + n) (by omega) u3
    rw [d2, inR_pos (by omega) (by omega), Int.toNat_natCast, d3, inR_pos (by omega) (by omega), Int.toNat_natCast, wI_at, if_neg (show ¬ y1 = -1 from by omega)]
    have e1w : w32 ((29 : Int) + (n : Int)) = ((29 + n : Nat) : Int) := w32n 29 n (by omega) (by omega)
    rw [e1w, nt1, Option.bind_some]
    clear e1w
    dsimp only
    rw [if_neg (show ¬ (1 : Int) = 0 from by decide), q9]
    have G3 : TokG (a + 1) (wI s3 226 n y1) (wI u3 252 (29 + n) y1) := TokG_mono (TokG_cg q10 (wI_ne (by decide)) (wI_ne (by decide)) rfl (fun k _ => by rw [wI_ne (by decide)]) (wI_ne (by decide)) rfl) (by omega) (by omega)
    have kc3 : KC s (wI s3 226 n y1) := KC_trans kc2 (KC_trans (KC_of q11) (KC_w (by omega) (by omega)))
    have kr3 : KR u (wI u3 252 (29 + n) y1) := KR_trans kr2 (KR_trans (KR_of q12) (KR_w (by omega)))
    have E3 : ∀ c k, c ≠ 1 → ¬ (c = 226 ∧ k = n) → (wI s3 226 n y1).1 c k = s.1 c k := fun c k hc q => by rw [wI_1, if_neg q, q11.1 c hc, E2 c hc]
    have Z3 : (wI s3 226 n y1).1 226 n = y1 := wI_at
    have J3 : ∀ c k, c ≠ 1 → ¬ (c = 225 ∧ k = n) → (wI s3 226 n y1).2 c k = s.2 c k := fun c k hc q => by rw [wI_2, q11.2.1 c hc, J2 c k hc q]
    have JN3 : (wI s3 226 n y1).2 225 n = s1.2 1 4 := by rw [wI_2, q11.2.1 225 (by decide), JN]
    have N3 : ∀ k, k ≠ (14 + n) → (wI u3 252 (29 + n) y1).2 258 k = u.2 258 k := fun k hk => by rw [wI_2, q12.2.1 258 (by decide), N2 k hk]
    have NN3 : (wI u3 252 (29 + n) y1).2 258 (14 + n) = u1.2 249 12 := by rw [wI_2, q12.2.1 258 (by decide), NN]
    have A3 : ∀ k, k ≠ 29 + n → (wI u3 252 (29 + n) y1).1 252 k = u.1 252 k := fun k hk => by rw [wI_f hk, q12.1 252 (by decide), A2]
    have V3 : (wI u3 252 (29 + n) y1).1 252 (29 + n) = y1 := wI_at
    have H3 : (wI u3 252 (29 + n) y1).1 249 24 = u.1 249 24 := by rw [wI_ne (by decide), q12.2.2 24 (by omega), H2]
    generalize wI s3 226 n y1 = S3 at d3 G3 kc3 E3 Z3 J3 JN3 ⊢
    generalize wI u3 252 (29 + n) y1 = U3 at G3 kr3 N3 NN3 A3 V3 H3 ⊢
    rcases T_num hm G3 0 99 with ⟨y2, s4, u4, b2, b2', b2'', _, p7, p8, p9, p10, p11, p12⟩ | ⟨s4, u4, p7, p8, p9, p10, p11⟩
    rotate_left
    · rw [p7, Option.bind_some, p8, Option.bind_some]
      dsimp only
      have d4 : (wI s4 227 n (-1)).1 219 2 = (n : Int) := by rw [wI_ne (by decide), p10.1 219 (by decide)]; exact d3
      rw [d4, inR_pos (by omega) (by omega), inR_pos (by omega) (by omega), Int.toNat_natCast, wI_at, if_pos rfl, R_noted0, Option.bind_some]
      exact ⟨0, _, _, rfl, rfl, KC_trans kc3 (KC_trans (KC_of p10) (KC_w (by omega) (by omega))), KR_trans kr3 (KR_of p11), Or.inr ⟨rfl, Flt_w p9 (by decide)⟩⟩
    rw [p7, Option.bind_some, p8, Option.bind_some]
    dsimp only
    have d4 : (wI s4 227 n y2).1 219 2 = (n : Int) := by rw [wI_ne (by decide), p11.1 219 (by decide)]; exact d3
    have nt2 := R_noted1 m (41 + n) (by omega) u4
    have cU : (wI u4 252 (41 + n) (u4.1 249 13)).1 252 2 = (n : Int) := by rw [wI_f (by omega), p12.1 252 (by decide), A3 2 (by omega)]; exact hn
    rw [d4, inR_pos (by omega) (by omega), inR_pos (by omega) (by omega), Int.toNat_natCast, wI_at, if_neg (show ¬ y2 = -1 from by omega)]
    have e2w : w32 ((41 : Int) + (n : Int)) = ((41 + n : Nat) : Int) := w32n 41 n (by omega) (by omega)
    rw [e2w, nt2, Option.bind_some]
    clear e2w
    dsimp only
    rw [if_neg (show ¬ (1 : Int) = 0 from by decide), cU, p9, w32_in (by omega) (by omega)]
    refine ⟨1, _, _, rfl, rfl, KC_trans kc3 (KC_trans (KC_trans (KC_of p11) (KC_w (by omega) (by omega))) (KC_w (by omega) (by omega))), KR_trans kr3 (KR_trans (KR_trans (KR_of p12) (KR_w (by omega))) (KR_w (by omega))), Or.inl ⟨rfl, ?_, ?_⟩⟩
    · exact TokG_mono (TokG_cg p10 (by rw [wI_ne (by decide), wI_ne (by decide)]) (by rw [wI_ne (by decide), wI_ne (by decide)]) rfl (fun k _ => by rw [wI_ne (by decide), wI_ne (by decide)]) (by rw [wI_ne (by decide), wI_ne (by decide)]) rfl) (by omega) (by omega)
    · exact FV_dead hf (y1 := y1) (y2 := y2) hn cf ⟨b1, b1'⟩ ⟨b2, b2'⟩ wI_at (by rw [wI_f (by omega), wI_f (by omega), p12.1 252 (by decide)]; exact V3) (by rw [wI_f (by omega), wI_at]) wI_at (by rw [wI_ne (by decide), wI_ne (by decide), p11.1 226 (by decide)]; exact Z3) (by rw [wI_ne (by decide), wI_at]) (by rw [wI_2, wI_2, wI_2, wI_2, p11.2.1 225 (by decide), p12.2.1 258 (by decide), JN3, NN3]; exact nmx) (fun k hk => by rw [wI_2, wI_2, p12.2.1 258 (by decide), N3 k hk]) (by rw [wI_ne (by decide), wI_ne (by decide), p12.2.2 24 (by omega), H3]) (fun c k x y z1 z2 z3 => by rw [wI_1, if_neg z1, wI_1, if_neg z3, p11.1 c (by omega), E3 c k (by omega) z2]) (fun c k x y z1 => by rw [wI_2, wI_2, p11.2.1 c (by omega), J3 c k (by omega) z1]) (fun k x y z => by rw [wI_f x, wI_f z, p12.1 252 (by decide), A3 k y])
  · obtain ⟨s', u', r1, r2, r3, r4, r5⟩ := T_fail m h.1 (kc := 4) (kr := 4) (by rw [if_neg (by omega)]) (by decide)
    rw [if_neg (show ¬ s.1 219 2 < 12 from by omega), show ((2 : Int)).toNat = 2 from rfl, if_pos (show u.1 252 2 = 12 from by omega), r1, r2]
    exact ⟨0, s', u', rfl, rfl, KC_of r4, KR_of r5, Or.inr ⟨rfl, r3⟩⟩
theorem V_frost {m : Nat} (hm : 10000 ≤ m) {a : Int} {s u : mS} (h : TokG a s u) (hf : FV s u) (k2 : s.1 1 2 = 2) : Pst FV (a + 1) s u (if s.1 219 4 < 4 then f_Vs_readFrost m s else f_Tp_fail m 4 s) (f_R_readFrost m u) := by
  have W0 := WFv_boxes hf.1
  have W1 := WFv_plots hf.1
  have W2 := WFv_dead hf.1
  have W4 := hf.1.2.2.2.2.1
  obtain ⟨n, hn⟩ : ∃ n : Nat, u.1 252 4 = (n : Int) := ⟨(u.1 252 4).toNat, by omega⟩
  have c0 : s.1 219 0 = u.1 252 0 := hf.2.1.1
  have c1 : s.1 219 1 = u.1 252 1 := hf.2.1.2.1
  have c2 : s.1 219 2 = u.1 252 2 := hf.2.1.2.2.1
  have c4 : s.1 219 4 = u.1 252 4 := hf.2.1.2.2.2.2.1
  rw [f_R_readFrost_eq, f_R_readFirst_eq, inR_pos (by omega) (by omega)]
  by_cases cf : n < 4
  · rw [if_pos (show s.1 219 4 < 4 from by omega), show ((4 : Int)).toNat = 4 from rfl, if_neg (show ¬ u.1 252 4 = 4 from by omega), f_Vs_readFrost_eq]
    obtain ⟨s1, u1, r1, r2, r3, r4, r5, _⟩ := T_adv hm h (by omega) (by omega)
    have ha := h.2.1
    have f1 := FV_keep hf r4 r5
    have n1 : u1.1 252 4 = (n : Int) := by rw [r5.1 252 (by decide)]; exact hn
    have d1 : s1.1 219 4 = (n : Int) := by rw [r4.1 219 (by decide)]; omega
    rw [r1, Option.bind_some, r2, Option.bind_some, Option.bind_some]
    dsimp only
    rw [if_neg (show ¬ (1 : Int) = 0 from by decide), n1]
    obtain ⟨s2, rfl⟩ : ∃ s2, s2 = s1 := ⟨_, rfl⟩
    obtain ⟨u2, rfl⟩ : ∃ u2, u2 = u1 := ⟨_, rfl⟩
    have kc2 : KC s s2 := KC_of r4
    have kr2 : KR u u2 := KR_of r5
    have d2 := d1
    have E2 : ∀ c, c ≠ 1 → s2.1 c = s.1 c := fun c hc => r4.1 c hc
    have J2 : ∀ c k, c ≠ 1 → s2.2 c k = s.2 c k := fun c k hc => by rw [r4.2.1 c hc]
    have A2 : u2.1 252 = u.1 252 := r5.1 252 (by decide)
    have N2 : ∀ k : Nat, True → u2.2 258 k = u.2 258 k := fun k hk => by rw [r5.2.1 258 (by decide)]
    have H2 : u2.1 249 24 = u.1 249 24 := r5.2.2 24 (by omega)
    have G2 := r3
    rcases T_num hm G2 0 199 with ⟨y1, s3, u3, b1, b1', b1'', _, q7, q8, q9, q10, q11, q12⟩ | ⟨s3, u3, q7, q8, q9, q10, q11⟩
    rotate_left
    · rw [q7, Option.bind_some, q8, Option.bind_some]
      dsimp only
      have d3 : (wI s3 230 n (-1)).1 219 4 = (n : Int) := by rw [wI_ne (by decide), q10.1 219 (by decide)]; exact d2
      rw [d2, inR_pos (by omega) (by omega), Int.toNat_natCast, d3, inR_pos (by omega) (by omega), Int.toNat_natCast, wI_at, if_pos rfl, R_noted0, Option.bind_some]
      exact ⟨0, _, _, rfl, rfl, KC_trans kc2 (KC_trans (KC_of q10) (KC_w (by omega) (by omega))), KR_trans kr2 (KR_of q11), Or.inr ⟨rfl, Flt_w q9 (by decide)⟩⟩
    rw [q7, Option.bind_some, q8, Option.bind_some]
    dsimp only
    have d3 : (wI s3 230 n y1).1 219 4 = (n : Int) := by rw [wI_ne (by decide), q11.1 219 (by decide)]; exact d2
    have nt1 := R_noted1 m (77 + n) (by omega) u3
    rw [d2, inR_pos (by omega) (by omega), Int.toNat_natCast, d3, inR_pos (by omega) (by omega), Int.toNat_natCast, wI_at, if_neg (show ¬ y1 = -1 from by omega)]
    have e1w : w32 ((77 : Int) + (n : Int)) = ((77 + n : Nat) : Int) := w32n 77 n (by omega) (by omega)
    rw [e1w, nt1, Option.bind_some]
    clear e1w
    dsimp only
    rw [if_neg (show ¬ (1 : Int) = 0 from by decide), q9]
    have G3 : TokG (a + 1) (wI s3 230 n y1) (wI u3 252 (77 + n) y1) := TokG_mono (TokG_cg q10 (wI_ne (by decide)) (wI_ne (by decide)) rfl (fun k _ => by rw [wI_ne (by decide)]) (wI_ne (by decide)) rfl) (by omega) (by omega)
    have kc3 : KC s (wI s3 230 n y1) := KC_trans kc2 (KC_trans (KC_of q11) (KC_w (by omega) (by omega)))
    have kr3 : KR u (wI u3 252 (77 + n) y1) := KR_trans kr2 (KR_trans (KR_of q12) (KR_w (by omega)))
    have E3 : ∀ c k, c ≠ 1 → ¬ (c = 230 ∧ k = n) → (wI s3 230 n y1).1 c k = s.1 c k := fun c k hc q => by rw [wI_1, if_neg q, q11.1 c hc, E2 c hc]
    have Z3 : (wI s3 230 n y1).1 230 n = y1 := wI_at
    have J3 : ∀ c k, c ≠ 1 → (wI s3 230 n y1).2 c k = s.2 c k := fun c k hc => by rw [wI_2, q11.2.1 c hc, J2 c k hc]
    have N3 : ∀ k : Nat, True → (wI u3 252 (77 + n) y1).2 258 k = u.2 258 k := fun k hk => by rw [wI_2, q12.2.1 258 (by decide), N2 k hk]
    have A3 : ∀ k, k ≠ 77 + n → (wI u3 252 (77 + n) y1).1 252 k = u.1 252 k := fun k hk => by rw [wI_f hk, q12.1 252 (by decide), A2]
    have V3 : (wI u3 252 (77 + n) y1).1 252 (77 + n) = y1 := wI_at
    have H3 : (wI u3 252 (77 + n) y1).1 249 24 = u.1 249 24 := by rw [wI_ne (by decide), q12.2.2 24 (by omega), H2]
    generalize wI s3 230 n y1 = S3 at d3 G3 kc3 E3 Z3 J3  ⊢
    generalize wI u3 252 (77 + n) y1 = U3 at G3 kr3 N3  A3 V3 H3 ⊢
    rcases T_num hm G3 1 60 with ⟨y2, s4, u4, b2, b2', b2'', _, p7, p8, p9, p10, p11, p12⟩ | ⟨s4, u4, p7, p8, p9, p10, p11⟩
    rotate_left
    · rw [p7, Option.bind_some, p8, Option.bind_some]
      dsimp only
      have d4 : (wI s4 231 n (-1)).1 219 4 = (n : Int) := by rw [wI_ne (by decide), p10.1 219 (by decide)]; exact d3
      rw [d4, inR_pos (by omega) (by omega), inR_pos (by omega) (by omega), Int.toNat_natCast, wI_at, if_pos rfl, R_noted0, Option.bind_some]
      exact ⟨0, _, _, rfl, rfl, KC_trans kc3 (KC_trans (KC_of p10) (KC_w (by omega) (by omega))), KR_trans kr3 (KR_of p11), Or.inr ⟨rfl, Flt_w p9 (by decide)⟩⟩
    rw [p7, Option.bind_some, p8, Option.bind_some]
    dsimp only
    have d4 : (wI s4 231 n y2).1 219 4 = (n : Int) := by rw [wI_ne (by decide), p11.1 219 (by decide)]; exact d3
    have nt2 := R_noted1 m (81 + n) (by omega) u4
    have cU : (wI u4 252 (81 + n) (u4.1 249 13)).1 252 4 = (n : Int) := by rw [wI_f (by omega), p12.1 252 (by decide), A3 4 (by omega)]; exact hn
    rw [d4, inR_pos (by omega) (by omega), inR_pos (by omega) (by omega), Int.toNat_natCast, wI_at, if_neg (show ¬ y2 = -1 from by omega)]
    have e2w : w32 ((81 : Int) + (n : Int)) = ((81 + n : Nat) : Int) := w32n 81 n (by omega) (by omega)
    rw [e2w, nt2, Option.bind_some]
    clear e2w
    dsimp only
    rw [if_neg (show ¬ (1 : Int) = 0 from by decide), cU, p9, w32_in (by omega) (by omega)]
    refine ⟨1, _, _, rfl, rfl, KC_trans kc3 (KC_trans (KC_trans (KC_of p11) (KC_w (by omega) (by omega))) (KC_w (by omega) (by omega))), KR_trans kr3 (KR_trans (KR_trans (KR_of p12) (KR_w (by omega))) (KR_w (by omega))), Or.inl ⟨rfl, ?_, ?_⟩⟩
    · exact TokG_mono (TokG_cg p10 (by rw [wI_ne (by decide), wI_ne (by decide)]) (by rw [wI_ne (by decide), wI_ne (by decide)]) rfl (fun k _ => by rw [wI_ne (by decide), wI_ne (by decide)]) (by rw [wI_ne (by decide), wI_ne (by decide)]) rfl) (by omega) (by omega)
    · exact FV_frost hf (y1 := y1) (y2 := y2) hn cf ⟨b1, b1'⟩ ⟨b2, b2'⟩ wI_at (by rw [wI_f (by omega), wI_f (by omega), p12.1 252 (by decide)]; exact V3) (by rw [wI_f (by omega), wI_at]) wI_at (by rw [wI_ne (by decide), wI_ne (by decide), p11.1 230 (by decide)]; exact Z3) (by rw [wI_ne (by decide), wI_at]) (fun k hk => by rw [wI_2, wI_2, p12.2.1 258 (by decide), N3 k hk]) (by rw [wI_ne (by decide), wI_ne (by decide), p12.2.2 24 (by omega), H3]) (fun c k x y z1 z2 z3 => by rw [wI_1, if_neg z1, wI_1, if_neg z3, p11.1 c (by omega), E3 c k (by omega) z2]) (fun c k x y => by rw [wI_2, wI_2, p11.2.1 c (by omega), J3 c k (by omega)]) (fun k x y z => by rw [wI_f x, wI_f z, p12.1 252 (by decide), A3 k y])
  · obtain ⟨s', u', r1, r2, r3, r4, r5⟩ := T_fail m h.1 (kc := 4) (kr := 4) (by rw [if_neg (by omega)]) (by decide)
    rw [if_neg (show ¬ s.1 219 4 < 4 from by omega), show ((4 : Int)).toNat = 4 from rfl, if_pos (show u.1 252 4 = 4 from by omega), r1, r2]
    exact ⟨0, s', u', rfl, rfl, KC_of r4, KR_of r5, Or.inr ⟨rfl, r3⟩⟩
