/-! ===== layer 3: sentence, put together ===== -/
theorem R_L79 (m : Nat) : ∀ (d n k : Nat) (s : mS), k + d = 240 → d + 1 ≤ n → ∃ s', l_R_sentence_L79 m n (k : Int) s = some (s.1 249 43, s') ∧ (∀ j, s'.1 251 j = if 226 + k ≤ j ∧ j < 466 then s.1 268 (j - 226) else s.1 251 j) ∧ (∀ x, x ≠ 251 → s'.1 x = s.1 x) ∧ s'.2 = s.2
  | 0, n, k, s, hk, hn => by
    obtain ⟨n0, rfl⟩ : ∃ n0, n = n0 + 1 := ⟨n - 1, by omega⟩
    rw [l_R_sentence_L79_eq, if_neg (by omega)]
    exact ⟨s, rfl, fun j => by rw [if_neg (by omega)], fun _ _ => rfl, rfl⟩
  | d + 1, n, k, s, hk, hn => by
    obtain ⟨n0, rfl⟩ : ∃ n0, n = n0 + 1 := ⟨n - 1, by omega⟩
    rw [l_R_sentence_L79_eq, if_pos (by omega)]
    have ew : w32 ((226 : Int) + (k : Int)) = ((226 + k : Nat) : Int) := by rw [w32_in (by omega) (by omega)]; omega
    rw [ew]
    clear ew
    rw [inR_pos (i := (k : Int)) (by omega) (by omega), inR_pos (i := ((226 + k : Nat) : Int)) (by omega) (by omega), w32_in (x := (k : Int) + 1) (by omega) (by omega), Int.toNat_natCast, Int.toNat_natCast, show (k : Int) + 1 = ((k + 1 : Nat) : Int) from by omega]
    obtain ⟨s', r1, r2, r3, r4⟩ := R_L79 m d n0 (k + 1) (wI s 251 (226 + k) (s.1 268 k)) (by omega) (by omega)
    refine ⟨s', by rw [r1, wI_ne (by decide)], fun j => ?_, fun x hx => by rw [r3 x hx, wI_ne hx], r4⟩
    rw [r2 j, wI_ne (show (268 : Nat) ≠ 251 by decide)]
    by_cases q : j = 226 + k
    · subst q; rw [if_neg (by omega), wI_at, if_pos (by omega), show 226 + k - 226 = k from by omega]
    · by_cases q2 : 226 + (k + 1) ≤ j ∧ j < 466
      · rw [if_pos q2, if_pos (by omega)]
      · rw [if_neg q2, wI_f q, if_neg (by omega)]
theorem P_sentence {m : Nat} (hm : 10000 ≤ m) : PSim (f_X_sentence m) (f_R_sentence m) := by
  intro s u h hu
  have h' := h
  obtain ⟨g1, g2, g3, g4, g5, g6, g7, g8, g9, g10⟩ := h'
  have v1 : ∀ c, 249 ≤ c → u.1 c = s.1 c := fun c hc => (hu c hc).1
  have v2 : ∀ c, 249 ≤ c → u.2 c = s.2 c := fun c hc => (hu c hc).2
  have pt : PT s u := ⟨by rw [v1 249 (by decide)]; exact g2.1, by rw [g2.1]; exact g2.2.1, by rw [g2.1]; exact g2.2.2.1, fun k hk => by rw [v1 250 (by decide)]; exact g2.2.2.2 k hk⟩
  obtain ⟨s1, u1, r1, r2, r3, r4, r5, r6, r7, r8, r9, r10⟩ := T_open hm pt (L := 200) (by decide) (by decide)
  obtain ⟨s2, hs2⟩ : ∃ s2, s2 = wI (wI s1 232 0 0) 232 1 0 := ⟨_, rfl⟩
  obtain ⟨u2, hu2⟩ : ∃ u2, u2 = wI (wI (wI u1 249 42 0) 249 43 0) 249 44 0 := ⟨_, rfl⟩
  have s2c : ∀ c, c ≠ 232 → s2.1 c = s1.1 c := fun c hc => by rw [hs2, wI_ne hc, wI_ne hc]
  have s2j : s2.2 = s1.2 := by rw [hs2]; rfl
  have u2c : ∀ c, c ≠ 249 → u2.1 c = u1.1 c := fun c hc => by rw [hu2, wI_ne hc, wI_ne hc, wI_ne hc]
  have u29 : ∀ k, k < 42 → u2.1 249 k = u1.1 249 k := fun k hk => by rw [hu2, wI_f (by omega), wI_f (by omega), wI_f (by omega)]
  have u2j : u2.2 = u1.2 := by rw [hu2]; rfl
  have ko : KO s s2 := by rw [hs2]; exact KO_tr (KO_tr r4 (KC_w (by omega) (by omega))) (KC_w (by omega) (by omega))
  have kp : KP u u2 := by rw [hu2]; exact KP_tr (KP_tr (KP_tr r5 (KR_f (by omega))) (KR_f (by omega))) (KR_f (by omega))
  have g : TokG 0 s2 u2 := TokG_cg r3 (s2c 1 (by decide)) (s2c 2 (by decide)) (by rw [s2j]) (fun k hk => u29 k (by omega)) (u2c 250 (by decide)) (by rw [u2j])
  have rv : RV s2 u2 := by
    unfold RV
    rw [u2c 251 (by decide), r6 251 (by decide), v1 251 (by decide), u2j, r7 257 (by decide), v2 257 (by decide), s2c 4 (by decide), r8 4 (by decide)]
    exact ⟨g1.1.1, g1.2.1.1, g1.2.1.2.1, g1.2.1.2.2.1, VN_keep g1.2.2.2.1 (fun c x y => by rw [s2j, r9 c (by omega)])⟩
  have sq : SQ (fun _ => 0) 0 0 s2 u2 := ⟨rv, by rw [hs2, wI_at]; rfl, by rw [hu2, wI_f (by decide), wI_f (by decide), wI_at]; rfl, by rw [hs2, wI_f (by decide), wI_at]; rfl, by rw [hu2, wI_f (by decide), wI_at]; rfl, fun i hi => by omega⟩
  have E := (E_all hm 8).2 64 64 0 0 0 (fun _ => 0) 0 s2 u2 (by omega) (by omega) (by omega) g sq (by omega) (by omega) (by rw [hu2, wI_at]; rfl)
  rw [show ((0 : Nat) : Int) + 1 = 1 from rfl] at E
  obtain ⟨r, s3, u3, t1, t2, t3, t4, t5⟩ := E
  have ko3 := KO_tr ko t3
  have kp3 := KP_tr kp t4
  have hX : f_X_sentence m s = (if r = 0 then (if (wI s3 0 13 (s3.1 1 6)).1 0 13 = 0 then ((f_Sn_copyOf_30_232 m (wI s3 0 13 (s3.1 1 6))).bind fun p3 => (some (p3.2.1 30 0, p3.2))) else (some (w32 ((-1) - ((wI s3 0 13 (s3.1 1 6)).1 1 7)), wI s3 0 13 (s3.1 1 6)))) else (if s3.1 1 2 = 0 then (if (wI s3 0 13 (s3.1 1 6)).1 0 13 = 0 then ((f_Sn_copyOf_30_232 m (wI s3 0 13 (s3.1 1 6))).bind fun p3 => (some (p3.2.1 30 0, p3.2))) else (some (w32 ((-1) - ((wI s3 0 13 (s3.1 1 6)).1 1 7)), wI s3 0 13 (s3.1 1 6)))) else ((f_Tp_fail m 1 s3).bind fun p3 => (if (wI p3.2 0 13 (p3.2.1 1 6)).1 0 13 = 0 then ((f_Sn_copyOf_30_232 m (wI p3.2 0 13 (p3.2.1 1 6))).bind fun p4 => (some (p4.2.1 30 0, p4.2))) else (some (w32 ((-1) - ((wI p3.2 0 13 (p3.2.1 1 6)).1 1 7)), wI p3.2 0 13 (p3.2.1 1 6))))))) := by
    rw [f_X_sentence_eq, r1, Option.bind_some, f_Sn_wipe_232_eq, Option.bind_some]
    dsimp only
    rw [← hs2, t1, Option.bind_some]
  have hG : f_R_sentence m u = (if r = 0 then (some (w32 ((-1) - (u3.1 249 11)), u3)) else (if u3.1 249 7 = 0 then (l_R_sentence_L79 m m 0 (wI (wI u3 251 224 1) 251 225 ((wI u3 251 224 1).1 249 45))) else ((f_R_bad m 1 u3).bind fun p2 => (some (w32 ((-1) - (p2.2.1 249 11)), p2.2))))) := by
    rw [f_R_sentence_eq, r2, Option.bind_some]
    dsimp only
    rw [← hu2, t2, Option.bind_some]
  -- a failure, however it came
  have bad : ∀ (s4 u4 : mS), Flt s4 u4 → KO s s4 → KP u u4 → f_X_sentence m s = some (-1 - s4.1 1 7, wI s4 0 13 (s4.1 1 6)) → f_R_sentence m u = some (-1 - s4.1 1 7, u4) → ∃ r S U, f_X_sentence m s = some (r, S) ∧ f_R_sentence m u = some (r, U) ∧ (∀ c, 249 ≤ c → S.1 c = s.1 c ∧ S.2 c = s.2 c) ∧ (∀ c, c < 249 → U.1 c = u.1 c ∧ U.2 c = u.2 c) ∧ ∀ Z : mS, (∀ c, c < 249 → Z.1 c = S.1 c ∧ Z.2 c = S.2 c) → (∀ c, 249 ≤ c → Z.1 c = U.1 c ∧ Z.2 c = U.2 c) → Inv Z := by
    intro s4 u4 fl ko4 kp4 hx hg
    obtain ⟨t, ht⟩ : ∃ t, t = wI s4 0 13 (s4.1 1 6) := ⟨_, rfl⟩
    rw [← ht] at hx
    have t13 : t.1 0 13 = s4.1 1 6 := by rw [ht, wI_at]
    have tc : ∀ c, c ≠ 0 → t.1 c = s4.1 c := fun c hc => by rw [ht, wI_ne hc]
    have t0 : ∀ k, k ≠ 13 → t.1 0 k = s4.1 0 k := fun k hk => by rw [ht, wI_f hk]
    have tj : t.2 = s4.2 := by rw [ht]; rfl
    refine ⟨_, t, u4, hx, hg, fun c hc => ⟨by rw [tc c (by omega), ko4.1 c (by omega) (by omega)], by rw [tj, ko4.2.1 c (by omega) (by omega)]⟩, fun c hc => ⟨kp4.1 c (by omega) (by omega) (by omega) (by omega) (by omega), kp4.2.1 c (by omega) (by omega) (by omega) (by omega) (by omega)⟩, fun Z h1 h2 => ?_⟩
    refine Inv_failed h (fun c c0 c1 c2 c3 c4 c5 c6 c7 => ?_) (fun c c1 c2 c3 c4 c5 c6 c7 => ?_) (fun k hk => ?_) (fun k hk => ?_) ?_ ?_ ?_
    · by_cases q : c < 249
      · rw [(h1 c q).1, tc c c0, ko4.1 c c1 c2]
      · rw [(h2 c (by omega)).1, kp4.1 c c3 c4 c5 c6 c7, v1 c (by omega)]
    · by_cases q : c < 249
      · rw [(h1 c q).2, tj, ko4.2.1 c c1 c2]
      · rw [(h2 c (by omega)).2, kp4.2.1 c c3 c4 c5 c6 c7, v2 c (by omega)]
    · rw [(h1 0 (by decide)).1, t0 k hk, ko4.1 0 (by decide) (by omega)]
    · rw [(h2 249 (by decide)).1, kp4.2.2.1 k hk, v1 249 (by decide)]
    · rw [(h1 1 (by decide)).1, tc 1 (by decide)]; exact ko4.2.2
    · rw [(h2 249 (by decide)).1]; exact kp4.2.2.2.2
    · rw [(h1 0 (by decide)).1, (h2 249 (by decide)).1, t13]; exact fl.1
  rcases t5 with ⟨rr, g3', w3, st, p, q, hs3, b1, b2, b3, b4, b5, b6, b7⟩ | ⟨rr, fl⟩
  rotate_left
  · -- it can't be read
    subst rr
    have p7 := fl.2.2
    refine bad s3 u3 fl ko3 kp3 ?_ ?_
    · rw [hX, if_pos rfl, wI_at, if_neg fl.2.1, wI_ne (by decide), w32_in (by omega) (by omega)]
    · rw [hG, if_pos rfl, ← p7.1, w32_in (by omega) (by omega)]
  subst rr
  rw [if_neg (show ¬ (1 : Int) = 0 by decide)] at hX hG
  have kk : u3.1 249 7 = 0 ↔ s3.1 1 2 = 0 := by
    rcases g3'.1.2.1 with q | q | ⟨q1, _, q3⟩ | q | q
    · omega
    · omega
    · rw [q1, q3]; split <;> omega
    · omega
    · omega
  by_cases ce : s3.1 1 2 = 0
  rotate_left
  · -- more comes behind it
    obtain ⟨s4, u4, f1, f2, f3, f4, f5⟩ := T_fail m g3'.1 (kc := 1) (kr := 1) (by split <;> rfl) (by decide)
    have p7 := f3.2.2
    rw [if_neg ce, f1, Option.bind_some] at hX
    rw [if_neg (fun q => ce (kk.mp q)), f2, Option.bind_some] at hG
    dsimp only at hX hG
    refine bad s4 u4 f3 (KO_tr ko3 (KC_of f4)) (KP_tr kp3 (KR_of f5)) ?_ ?_
    · rw [hX, wI_at, if_neg f3.2.1, wI_ne (by decide), w32_in (by omega) (by omega)]
    · rw [hG, ← p7.1, w32_in (by omega) (by omega)]
  -- it stands
  have z6 : s3.1 1 6 = 0 := g3'.2.2.2.2.1
  obtain ⟨t, ht⟩ : ∃ t, t = wI s3 0 13 (s3.1 1 6) := ⟨_, rfl⟩
  have t13 : t.1 0 13 = 0 := by rw [ht, wI_at]; exact z6
  have tc : ∀ c, c ≠ 0 → t.1 c = s3.1 c := fun c hc => by rw [ht, wI_ne hc]
  have t0 : ∀ k, k ≠ 13 → t.1 0 k = s3.1 0 k := fun k hk => by rw [ht, wI_f hk]
  have tj : t.2 = s3.2 := by rw [ht]; rfl
  have b300 : (cpQ t 30 232).1 30 0 = (q : Int) := by
    have base : (cpQ t 30 232).1 30 = (wI (wI t 30 0 (t.1 232 0)) 30 1 (t.1 232 1)).1 30 := by unfold cpQ; simp (disch := omega) only [cpyI_ne]
    rw [base, wI_f (by decide), wI_at, tc 232 (by decide)]; exact hs3.2.2.2.1
  have hXS : f_X_sentence m s = some ((q : Int), cpQ t 30 232) := by
    rw [hX, if_pos ce, ← ht, if_pos t13, cpQ_30_232, Option.bind_some]
    dsimp only
    rw [b300]
  obtain ⟨u4, hu4⟩ : ∃ u4, u4 = wI (wI u3 251 224 1) 251 225 ((p : Int) - 1) := ⟨_, rfl⟩
  have e45 : (wI u3 251 224 1).1 249 45 = (p : Int) - 1 := by rw [wI_ne (by decide)]; exact b5
  obtain ⟨U, y1, y2, y3, y4⟩ := R_L79 m 240 m 0 u4 (by omega) (by omega)
  have u4c : ∀ c, c ≠ 251 → u4.1 c = u3.1 c := fun c hc => by rw [hu4, wI_ne hc, wI_ne hc]
  have hGS : f_R_sentence m u = some ((q : Int), U) := by
    rw [hG, if_pos (kk.mpr ce), e45, ← hu4, show l_R_sentence_L79 m m 0 u4 = l_R_sentence_L79 m m ((0 : Nat) : Int) u4 from rfl, y1, u4c 249 (by decide), hs3.2.2.2.2.1]
  have A3 : u3.1 251 = s.1 251 := by rw [kp3.1 251 (by decide) (by decide) (by decide) (by decide) (by decide), v1 251 (by decide)]
  have Ulo : ∀ k, k < 224 → U.1 251 k = s.1 251 k := fun k hk => by rw [y2 k, if_neg (by omega), hu4, wI_f (by omega), wI_f (by omega), A3]
  have U224 : U.1 251 224 = 1 := by rw [y2 224, if_neg (by omega), hu4, wI_f (by omega), wI_at]
  have U225 : U.1 251 225 = (p : Int) - 1 := by rw [y2 225, if_neg (by omega), hu4, wI_at]
  have Uhi : ∀ k, 226 ≤ k → k < 466 → U.1 251 k = NA u3 k := fun k x y => by
    rw [y2 k, if_pos (by omega), u4c 268 (by decide)]
    unfold NA
    rw [if_pos x]
  have Uc : ∀ c, c ≠ 251 → U.1 c = u3.1 c := fun c hc => by rw [y3 c hc, u4c c hc]
  have Uj : U.2 = u3.2 := by rw [y4, hu4]; rfl
  have Sc : ∀ c, c < 30 ∨ 34 ≤ c → (cpQ t 30 232).1 c = t.1 c := fun c hc => cpQ_1 t 30 232 (by omega)
  have Ss : ∀ c, c ≠ 0 → c ≠ 1 → c < 30 ∨ 34 ≤ c → c < 219 ∨ 240 < c → (cpQ t 30 232).1 c = s.1 c := fun c c0 c1 c2 c3 => by rw [Sc c c2, tc c c0, ko3.1 c c1 c3]
  have Sj : ∀ c, c ≠ 1 → c < 219 ∨ 240 < c → (cpQ t 30 232).2 c = s.2 c := fun c c1 c3 => by rw [cpQ_2, tj, ko3.2.1 c c1 c3]
  refine ⟨(q : Int), cpQ t 30 232, U, hXS, hGS, fun c hc => ⟨Ss c (by omega) (by omega) (by omega) (by omega), Sj c (by omega) (by omega)⟩, fun c hc => ⟨by rw [Uc c (by omega), kp3.1 c (by omega) (by omega) (by omega) (by omega) (by omega)], by rw [Uj, kp3.2.1 c (by omega) (by omega) (by omega) (by omega) (by omega)]⟩, fun Z h1 h2 => ?_⟩
  have Z251 : Z.1 251 = U.1 251 := (h2 251 (by decide)).1
  have ZR : ∀ c, 249 < c → c ≠ 251 → c ≠ 252 → c ≠ 258 → c ≠ 266 → c ≠ 268 → Z.1 c = s.1 c := fun c q0 q1 q2 q3 q4 q5 => by rw [(h2 c (by omega)).1, Uc c q1, kp3.1 c (by omega) q2 q3 q4 q5, v1 c (by omega)]
  have Z9 : ∀ k, 13 < k ∧ k ≠ 24 ∧ k ≠ 39 ∧ k < 42 → Z.1 249 k = s.1 249 k := fun k hk => by rw [(h2 249 (by decide)).1, Uc 249 (by decide), kp3.2.2.1 k hk, v1 249 (by decide)]
  have QZ : QR (cpQ t 30 232) 30 (U.1 251) := by
    refine cpQ_QR ?_ (by omega)
    right
    refine ⟨U224, ?_, ?_, ?_, ?_, st, fun i hi => ?_, ?_⟩
    · rw [tc 232 (by decide), hs3.2.2.2.1]; omega
    · rw [tc 232 (by decide), hs3.2.1]; omega
    · rw [tc 232 (by decide), hs3.2.1]; omega
    · rw [U225, tc 232 (by decide), hs3.2.1]
    · rw [tc 232 (by decide), hs3.2.1] at hi
      refine PN_al (hs3.2.2.2.2.2 i (by omega)) ?_ ?_ ?_ ?_ ?_ ?_ ?_ ?_ ?_
      · rw [tc 233 (by decide)]
      · rw [tc 234 (by decide)]
      · rw [tc 235 (by decide)]
      · rw [Ulo 0 (by omega), NA_lo _ (by omega), A3]
      · rw [Ulo 2 (by omega), NA_lo _ (by omega), A3]
      · rw [Uhi _ (by omega) (by omega)]
      · rw [Uhi _ (by omega) (by omega)]
      · rw [Uhi _ (by omega) (by omega)]
      · rw [Uhi _ (by omega) (by omega)]
    · rw [tc 232 (by decide), hs3.2.1, show ((p : Int) - 1).toNat = p - 1 from by omega]; exact b6
  refine Inv_mk h ?_ ?_ ?_ (fun c hc => ?_) (fun c hc => ?_) (fun k hk => ?_) (fun k hk => ?_) ?_ ?_ ?_ ?_ ?_
  · rw [Z251, (h2 257 (by decide)).2, Uj, kp3.2.1 257 (by decide) (by decide) (by decide) (by decide) (by decide), v2 257 (by decide)]
    refine ⟨WF_cg g1.1 Ulo, ?_, ?_, ?_, ?_⟩
    · exact VR_cg (VR_keep g1.2.1 (fun c x y => by rw [(h1 c (by omega)).1, Ss c (by omega) (by omega) (by omega) (by omega)])) g1.1.1 (fun k hk => Ulo k (by omega))
    · exact SR_cg (SR_keep g1.2.2.1 (fun c x y => by rw [(h1 c (by omega)).1, Ss c (by omega) (by omega) (by omega) (by omega)])) g1.1.1 Ulo
    · exact VN_cg (VN_keep g1.2.2.2.1 (fun c x y => by rw [(h1 c (by omega)).2, Sj c (by omega) (by omega)])) g1.1.1 (fun k hk => Ulo k (by omega)) (fun _ _ => rfl)
    · exact QR_keep QZ (fun c x y => (h1 c (by omega)).1)
  · refine pPast_keep g10 (by rw [(h1 100 (by decide)).1, Ss 100 (by omega) (by omega) (by omega) (by omega)]) (Z9 25 (by omega)) (fun i _ k hk => ?_) (fun c x y => by rw [(h1 c (by omega)).1, Ss c (by omega) (by omega) (by omega) (by omega)])
    rw [pastRow_at, pastRow_at, Z251, ZR 254 (by omega) (by omega) (by omega) (by omega) (by omega) (by omega), Ulo k hk]
  · exact pTold_keep g6 (by rw [(h1 0 (by decide)).1, Sc 0 (by omega), t0 18 (by decide), ko3.1 0 (by decide) (by omega)]) (Z9 40 (by omega)) (by rw [(h1 248 (by decide)).1, Ss 248 (by omega) (by omega) (by omega) (by omega)]) (ZR 267 (by omega) (by omega) (by omega) (by omega) (by omega) (by omega))
  · by_cases q : c < 249
    · rw [(h1 c q).1, Ss c (by omega) (by omega) (by omega) (by omega)]
    · exact ZR c (by omega) (by omega) (by omega) (by omega) (by omega) (by omega)
  · by_cases q : c < 249
    · rw [(h1 c q).2, Sj c (by omega) (by omega)]
    · rw [(h2 c (by omega)).2, Uj, kp3.2.1 c (by omega) (by omega) (by omega) (by omega) (by omega), v2 c (by omega)]
  · rw [(h1 0 (by decide)).1, Sc 0 (by omega), t0 k (by omega), ko3.1 0 (by decide) (by omega)]
  · exact Z9 k (by omega)
  · rw [(h1 1 (by decide)).1, Sc 1 (by omega), tc 1 (by decide)]; exact ko3.2.2
  · rw [(h2 249 (by decide)).1, Uc 249 (by decide)]; exact kp3.2.2.2.2
  · rw [(h1 2 (by decide)).1, Ss 2 (by omega) (by omega) (by omega) (by omega)]
  · exact ZR 250 (by omega) (by omega) (by omega) (by omega) (by omega) (by omega)
  · rw [(h1 0 (by decide)).1, Sc 0 (by omega), t13, (h2 249 (by decide)).1, Uc 249 (by decide)]; exact g3'.2.2.2.2.2.symm
theorem S_sentence {m : Nat} (hm : 10000 ≤ m) : Sim (f_X_sentence m) (f_R_sentence m) := Sim_of (P_sentence hm)
