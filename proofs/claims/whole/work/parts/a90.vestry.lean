/-! ===== layer 3: vestry ===== -/
theorem WF_beg {A : Row} (hv : WFv A) : WF (comes (beg A)) := by
  have W0 := WFv_boxes hv
  have W1 := WFv_plots hv
  have W2 := WFv_dead hv
  have hn : beg A 2 ≤ 12 := by rw [beg_lo A (by omega)]; omega
  have lo : ∀ k, k < 85 → comes (beg A) k = A k := fun k hk => by rw [comes_lo hn hk, beg_lo A hk]
  have how : ∀ d : Nat, d < 12 → comes (beg A) (164 + d) = if (d : Int) < A 2 ∧ A (41 + d) = 0 then 1 else 0 := by
    intro d hd
    rw [comes_how hn hd, beg_lo A (j := 2) (by omega), beg_0 A (j := 164 + d) (by omega) (by omega), beg_lo A (j := 41 + d) (by omega), beg_0 A (j := 85) (by omega) (by omega)]
    by_cases c : (d : Int) < A 2 ∧ A (41 + d) = 0
    · rw [if_pos c, if_pos ⟨c.1, rfl, c.2⟩]
    · rw [if_neg c, if_neg (fun q => c ⟨q.1, q.2.2⟩)]
  have d85 : comes (beg A) 85 = 0 := by rw [comes_day hn, beg_0 A (by omega) (by omega)]
  have le1 : ∀ d : Nat, d < 12 → comes (beg A) (164 + d) = 0 ∨ comes (beg A) (164 + d) = 1 := by
    intro d hd; rw [how d hd]; split
    · exact Or.inr rfl
    · exact Or.inl rfl
  refine ⟨WFv_cg hv lo, ⟨by rw [d85]; omega, fun b hb => ?_, fun b hb => ?_, fun p hp => ?_, fun d hd => ?_, fun d hd h2 => ?_, fun d hd h2 => ?_, fun d hd h2 => ?_, fun d hd h2 => ?_⟩, fun b hb => ?_, fun p hp => ?_⟩
  · rw [lo 0 (by omega)] at hb
    have := hv.2.2.2.2.2.2.1 b hb
    rw [comes_lent hn (by omega), beg_0 A (j := 86 + b) (by omega) (by omega), lo (15 + b) (by omega), comes_air hn (by omega), beg_0 A (j := 104 + b) (by omega) (by omega)]
    omega
  · rw [lo 0 (by omega)] at hb
    left
    rw [comes_lier hn (by omega), beg_m1 A (j := 95 + b) (by omega)]
  · rw [lo 1 (by omega)] at hp
    rw [comes_lat hn (by omega), beg_m1 A (j := 154 + p) (by omega), lo 2 (by omega), comes_rest hn (by omega), beg_0 A (j := 149 + p) (by omega) (by omega)]
    omega
  · rw [lo 2 (by omega)] at hd
    have := hv.2.2.2.2.2.2.2.2.1 d hd
    rw [comes_wait hn (by omega), beg_0 A (j := 200 + d) (by omega) (by omega), comes_lain hn (by omega), beg_0 A (j := 212 + d) (by omega) (by omega), d85, lo (41 + d) (by omega)]
    have hh := how d (by omega)
    by_cases c : (d : Int) < A 2 ∧ A (41 + d) = 0
    · rw [if_pos c] at hh
      rw [hh]; omega
    · rw [if_neg c] at hh
      rw [hh]
      exact ⟨by omega, by omega, by omega, by omega, by omega, by omega, fun _ => by omega⟩
  · rw [lo 2 (by omega)] at hd
    have := le1 d (by omega)
    omega
  · rw [lo 2 (by omega)] at hd
    rw [comes_inb hn (by omega), beg_m1 A (j := 176 + d) (by omega)]
  · rw [lo 2 (by omega)] at hd
    have := le1 d (by omega)
    omega
  · rw [lo 2 (by omega)] at hd
    rw [comes_inp hn (by omega), beg_m1 A (j := 188 + d) (by omega)]
  · rw [comes_air hn hb, beg_0 A (j := 104 + b) (by omega) (by omega)]; omega
  · rw [comes_rest hn hp, beg_0 A (j := 149 + p) (by omega) (by omega)]; omega
/-- what a reading leaves alone, put together -/
theorem Inv_mk {s z : mS} (h : Inv s) (hW : World z 4 17 30 (z.1 251) (z.2 257)) (hP : pPast z) (hT : pTold z)
    (e : ∀ c, (34 ≤ c ∧ c < 100) ∨ (241 ≤ c ∧ c ≤ 247) ∨ c = 253 ∨ c = 260 ∨ c = 262 ∨ c = 264 ∨ c = 265 → z.1 c = s.1 c) (e2 : ∀ c, (34 ≤ c ∧ c < 100) ∨ c = 259 → z.2 c = s.2 c)
    (e0 : ∀ k, k = 14 ∨ k = 15 ∨ k = 16 ∨ k = 17 → z.1 0 k = s.1 0 k) (e9 : ∀ k, k = 28 ∨ k = 29 ∨ k = 32 ∨ k = 33 ∨ k = 35 → z.1 249 k = s.1 249 k)
    (t1 : z.1 1 1 = 0) (t2 : z.1 249 2 = 0) (t3 : z.1 2 = s.1 2) (t4 : z.1 250 = s.1 250) (hf : z.1 0 13 = z.1 249 10) : Inv z := by
  obtain ⟨g1, g2, g3, g4, g5, g6, g7, g8, g9, g10⟩ := h
  refine ⟨hW, ⟨by rw [t1, t2], by rw [t2]; decide, by rw [t2]; decide, by rw [t3, t4]; exact g2.2.2.2⟩, ⟨hf, by rw [e0 14 (by omega), e9 29 (by omega)]; exact g3.2.1, by rw [e0 16 (by omega), e9 33 (by omega)]; exact g3.2.2⟩,
    pRing_keep g4 (e0 15 (by omega)) (e9 32 (by omega)) (e _ (by omega)) (e _ (by omega)), pTag_keep g5 (e0 17 (by omega)) (e9 35 (by omega)) (e _ (by omega)) (e _ (by omega)), hT, pMatch_keep g7 (e9 28 (by omega)) (e _ (by omega)) (e _ (by omega)),
    pImg_keep g8 (fun c _ _ => e c (by omega)) (fun c _ _ => e2 c (by omega)) (e _ (by omega)) (e2 _ (by omega)) (e _ (by omega)), pImg_keep g9 (fun c _ _ => e c (by omega)) (fun c _ _ => e2 c (by omega)) (e _ (by omega)) (e2 _ (by omega)) (e _ (by omega)), hP⟩
/-- a reading that failed: what it was stays -/
theorem Inv_failed {s z : mS} (h : Inv s) (e : ∀ c, c ≠ 0 → c ≠ 1 → c < 219 ∨ 240 < c → c ≠ 249 → c ≠ 252 → c ≠ 258 → c ≠ 266 → c ≠ 268 → z.1 c = s.1 c) (e2 : ∀ c, c ≠ 1 → c < 219 ∨ 240 < c → c ≠ 249 → c ≠ 252 → c ≠ 258 → c ≠ 266 → c ≠ 268 → z.2 c = s.2 c)
    (e0 : ∀ k, k ≠ 13 → z.1 0 k = s.1 0 k) (e9 : ∀ k, 13 < k ∧ k ≠ 24 ∧ k ≠ 39 ∧ k < 42 → z.1 249 k = s.1 249 k) (t1 : z.1 1 1 = 0) (t2 : z.1 249 2 = 0) (hf : z.1 0 13 = z.1 249 10) : Inv z := by
  have E : ∀ c, c ≠ 0 ∧ c ≠ 1 ∧ (c < 219 ∨ 240 < c) ∧ c ≠ 249 ∧ c ≠ 252 ∧ c ≠ 258 ∧ c ≠ 266 ∧ c ≠ 268 → z.1 c = s.1 c := fun c q => e c q.1 q.2.1 q.2.2.1 q.2.2.2.1 q.2.2.2.2.1 q.2.2.2.2.2.1 q.2.2.2.2.2.2.1 q.2.2.2.2.2.2.2
  have E2 : ∀ c, c ≠ 1 ∧ (c < 219 ∨ 240 < c) ∧ c ≠ 249 ∧ c ≠ 252 ∧ c ≠ 258 ∧ c ≠ 266 ∧ c ≠ 268 → z.2 c = s.2 c := fun c q => e2 c q.1 q.2.1 q.2.2.1 q.2.2.2.1 q.2.2.2.2.1 q.2.2.2.2.2.1 q.2.2.2.2.2.2
  have h' := h
  obtain ⟨g1, g2, g3, g4, g5, g6, g7, g8, g9, g10⟩ := h'
  refine Inv_mk h ?_ ?_ ?_ (fun c hc => E c (by omega)) (fun c hc => E2 c (by omega)) (fun k hk => e0 k (by omega)) (fun k hk => e9 k (by omega)) t1 t2 (E 2 (by omega)) (E 250 (by omega)) hf
  · rw [E 251 (by omega), E2 257 (by omega)]
    exact World_keep g1 (fun c _ _ => E c (by omega)) (fun c _ _ => E2 c (by omega)) (fun c _ _ => E c (by omega)) (fun c _ _ => E c (by omega))
  · exact pPast_keep g10 (E 100 (by omega)) (e9 25 (by omega)) (fun i _ k _ => by rw [pastRow_keep (s := s) (s' := z) (E 251 (by omega)) (E 254 (by omega))]) (fun c _ _ => E c (by omega))
  · exact pTold_keep g6 (e0 18 (by omega)) (e9 40 (by omega)) (E 248 (by omega)) (E 267 (by omega))
theorem V_read {m : Nat} (hm : 10000 ≤ m) {s u : mS} (h : PT s u) :
    (∃ y s' u' nr, ((f_Tp_open m 900 s).bind fun p0 => f_Vs_readFrom m p0.2) = some (y, s') ∧ f_R_vestry m u = l_R_vestry_L78 m nr y 0 u' ∧ 1000 ≤ nr ∧ 0 ≤ y ∧ s'.1 1 6 = 0 ∧ u'.1 249 10 = 0 ∧ FV s' u' ∧ KO s s' ∧ KP u u') ∨
    (∃ s' u', ((f_Tp_open m 900 s).bind fun p0 => f_Vs_readFrom m p0.2) = some (-1, s') ∧ f_R_vestry m u = some (-1 - s'.1 1 7, u') ∧ Flt s' u' ∧ KO s s' ∧ KP u u') := by
  obtain ⟨s1, u1, r1, r2, r3, r4, r5, r6, r7, r8, r9, r10⟩ := T_open hm h (L := 900) (by decide) (by decide)
  obtain ⟨s2, hs2⟩ : ∃ s2, s2 = wI (wI (wI (wI (wI (wI (wI s1 219 0 0) 219 1 0) 219 2 0) 219 3 0) 219 4 0) 219 5 1) 219 6 0 := ⟨_, rfl⟩
  obtain ⟨s3, a1, a2, a3, a4⟩ := C_fill_228 (m := m) (by omega) 0 s2
  obtain ⟨s4, b1, b2, b3, b4⟩ := C_fill_229 (m := m) (by omega) (-1) s3
  obtain ⟨n9, u2, c1, c0, c2, c3, c4⟩ := R_L9 m 85 m 0 u1 (by omega) (by omega)
  obtain ⟨u3, hu3⟩ : ∃ u3, u3 = wI (wI u2 252 5 1) 249 24 0 := ⟨_, rfl⟩
  have e2 : ∀ c, c ≠ 219 → s2.1 c = s1.1 c := fun c hc => by rw [hs2, wI_ne hc, wI_ne hc, wI_ne hc, wI_ne hc, wI_ne hc, wI_ne hc, wI_ne hc]
  have e4 : ∀ c, c ≠ 219 → c ≠ 228 → c ≠ 229 → s4.1 c = s1.1 c := fun c x y z => by rw [b3 c z, a3 c y, e2 c x]
  have e4j : s4.2 = s1.2 := by rw [b4, a4, hs2]; rfl
  have f219 : s4.1 219 = s2.1 219 := by rw [b3 219 (by decide), a3 219 (by decide)]
  have f0 : s4.1 219 0 = 0 := by rw [f219, hs2, wI_f (by decide), wI_f (by decide), wI_f (by decide), wI_f (by decide), wI_f (by decide), wI_f (by decide), wI_at]
  have f1 : s4.1 219 1 = 0 := by rw [f219, hs2, wI_f (by decide), wI_f (by decide), wI_f (by decide), wI_f (by decide), wI_f (by decide), wI_at]
  have f2 : s4.1 219 2 = 0 := by rw [f219, hs2, wI_f (by decide), wI_f (by decide), wI_f (by decide), wI_f (by decide), wI_at]
  have f3 : s4.1 219 3 = 0 := by rw [f219, hs2, wI_f (by decide), wI_f (by decide), wI_f (by decide), wI_at]
  have f4 : s4.1 219 4 = 0 := by rw [f219, hs2, wI_f (by decide), wI_f (by decide), wI_at]
  have f5 : s4.1 219 5 = 1 := by rw [f219, hs2, wI_f (by decide), wI_at]
  have f6 : s4.1 219 6 = 0 := by rw [f219, hs2, wI_at]
  have z228 : ∀ j, j < 12 → s4.1 228 j = 0 := fun j hj => by rw [b3 228 (by decide)]; exact a2 j hj
  have A0 : ∀ j, j < 85 → j ≠ 5 → u3.1 252 j = 0 := fun j hj h5 => by rw [hu3, wI_ne (by decide), wI_f h5, c2 j, if_pos (by omega)]
  have A5 : u3.1 252 5 = 1 := by rw [hu3, wI_ne (by decide), wI_at]
  have u24 : u3.1 249 24 = 0 := by rw [hu3, wI_at]
  have g3 : ∀ c, c ≠ 249 → c ≠ 252 → u3.1 c = u1.1 c := fun c x y => by rw [hu3, wI_ne x, wI_ne y, c3 c y]
  have g9 : ∀ k, k ≠ 24 → u3.1 249 k = u1.1 249 k := fun k hk => by rw [hu3, wI_f hk, wI_ne (by decide), c3 249 (by decide)]
  have g3j : u3.2 = u1.2 := by rw [hu3]; exact c4
  have hG : TokG 0 s4 u3 := TokG_cg r3 (e4 1 (by decide) (by decide) (by decide)) (e4 2 (by decide) (by decide) (by decide)) (by rw [e4j]) (fun k hk => g9 k (by omega)) (g3 250 (by decide) (by decide)) (by rw [g3j])
  have hF : FV s4 u3 := by
    refine ⟨⟨?_, ?_, ?_, ?_, ?_, ?_, ?_, ?_, ?_, ?_, ?_⟩, ⟨?_, ?_, ?_, ?_, ?_, ?_, ?_, ?_, ?_, ?_, Or.inl f6⟩, ⟨?_, ?_, ?_⟩, by rw [f6, u24], fun d _ hd => ?_⟩
    · rw [A0 0 (by omega) (by omega)]; decide
    · rw [A0 1 (by omega) (by omega)]; decide
    · rw [A0 2 (by omega) (by omega)]; decide
    · rw [A0 3 (by omega) (by omega)]; decide
    · rw [A0 4 (by omega) (by omega)]; decide
    · rw [A5]; decide
    · intro b hb; rw [A0 0 (by omega) (by omega)] at hb; omega
    · intro b hb; rw [A0 1 (by omega) (by omega)] at hb; omega
    · intro b hb; rw [A0 2 (by omega) (by omega)] at hb; omega
    · intro b hb; rw [A0 2 (by omega) (by omega)] at hb; omega
    · intro b hb; rw [A0 4 (by omega) (by omega)] at hb; omega
    · rw [f0, A0 0 (by omega) (by omega)]
    · rw [f1, A0 1 (by omega) (by omega)]
    · rw [f2, A0 2 (by omega) (by omega)]
    · rw [f3, A0 3 (by omega) (by omega)]
    · rw [f4, A0 4 (by omega) (by omega)]
    · rw [f5, A5]
    · intro b hb; rw [A0 0 (by omega) (by omega)] at hb; omega
    · intro b hb; rw [A0 1 (by omega) (by omega)] at hb; omega
    · intro b hb; rw [A0 2 (by omega) (by omega)] at hb; omega
    · intro b hb; rw [A0 4 (by omega) (by omega)] at hb; omega
    · intro b hb; rw [A0 0 (by omega) (by omega)] at hb; omega
    · intro b hb; rw [A0 1 (by omega) (by omega)] at hb; omega
    · intro b hb; rw [A0 2 (by omega) (by omega)] at hb; omega
    · exact ⟨z228 d hd, A0 _ (by omega) (by omega), b2 d hd, A0 _ (by omega) (by omega)⟩
  have e8 := hG.1.1.2.2.1
  have e8' := hG.1.1.2.1
  have ko : KO s s4 := ⟨fun c x y => by rw [e4 c (by omega) (by omega) (by omega), r8 c x], fun c x y => by rw [e4j, r9 c x], by rw [e4 1 (by decide) (by decide) (by decide)]; exact r4.2.2⟩
  have kp : KP u u3 := ⟨fun c x y _ _ _ => by rw [g3 c x y, r6 c x], fun c x _ _ _ _ => by rw [g3j, r7 c x], fun k hk => by rw [g9 k (by omega), r10 k (by omega)], by rw [g9 0 (by decide)]; exact r5.2.2.2.1, by rw [g9 2 (by decide)]; exact r5.2.2.2.2⟩
  have hC : ((f_Tp_open m 900 s).bind fun p0 => f_Vs_readFrom m p0.2) = l_Vs_readFrom_L53 m m ((0 : Nat) : Int) s4 := by
    rw [r1, Option.bind_some, f_Vs_readFrom_eq, ← hs2, a1, Option.bind_some, b1, Option.bind_some]; rfl
  have hR : f_R_vestry m u = l_R_vestry_L42 m n9 ((0 : Nat) : Int) u3 := by
    rw [f_R_vestry_eq, r2, Option.bind_some, show l_R_vestry_L9 m m 0 (0, u1).2 = l_R_vestry_L9 m m ((0 : Nat) : Int) u1 from rfl, c1, ← hu3]; rfl
  rw [hC, hR]
  rcases V_loop hm (s4.1 1 8 + 1).toNat m n9 0 0 s4 u3 hG hF (by decide) (by omega) (by omega) (by omega) with ⟨y, s', u', nr, z1, z2, z3, z4, z5, z6, z7, z8, z9⟩ | ⟨s', u', z1, z2, z3, z4, z5⟩
  · left
    exact ⟨(y : Int), s', u', nr, z1, z2, by omega, by omega, z5, z6, z7, KO_tr ko z8, KP_tr kp z9⟩
  · right
    exact ⟨s', u', z1, z2, z3, KO_tr ko z4, KP_tr kp z5⟩
theorem S_vestry {m : Nat} (hm : 10000 ≤ m) : Sim (f_X_vestry m) (f_R_vestry m) := by
  intro s h
  have h' := h
  obtain ⟨g1, g2, g3, g4, g5, g6, g7, g8, g9, g10⟩ := h'
  have pt : PT s s := ⟨g2.1, by rw [g2.1]; exact g2.2.1, by rw [g2.1]; exact g2.2.2.1, g2.2.2.2⟩
  have hX : f_X_vestry m s = (((f_Tp_open m 900 s).bind fun p0 => f_Vs_readFrom m p0.2).bind fun p1 => (if (wI p1.2 0 13 (p1.2.1 1 6)).1 0 13 = 0 then ((f_Vs_copyOf_4_219 m (wI p1.2 0 13 (p1.2.1 1 6))).bind fun p2 => ((f_St_begin m p2.2).bind fun p3 => ((f_Sn_wipe_30 m p3.2).bind fun p4 => ((f_Ps_forget m p4.2).bind fun p5 => (some (p1.1, p5.2)))))) else (some (w32 ((-1) - ((wI p1.2 0 13 (p1.2.1 1 6)).1 1 7)), wI p1.2 0 13 (p1.2.1 1 6))))) := by
    rw [f_X_vestry_eq, Option.bind_assoc]
  rcases V_read hm pt with ⟨y, s', u', nr, z1, z2, z3, z4, z5, z6, z7, z8, z9⟩ | ⟨s', u', z1, z2, z3, z4, z5⟩
  · -- it stands
    obtain ⟨t, ht⟩ : ∃ t, t = wI s' 0 13 (s'.1 1 6) := ⟨_, rfl⟩
    have t13 : t.1 0 13 = 0 := by rw [ht, wI_at]; exact z5
    have tc : ∀ c, c ≠ 0 → t.1 c = s'.1 c := fun c hc => by rw [ht, wI_ne hc]
    have t0 : ∀ k, k ≠ 13 → t.1 0 k = s'.1 0 k := fun k hk => by rw [ht, wI_f hk]
    have tj : t.2 = s'.2 := by rw [ht]; rfl
    have hb : t.1 219 6 = 0 ∨ t.1 219 6 = 1 := by rw [tc 219 (by decide)]; exact z7.2.1.2.2.2.2.2.2.2.2.2.2
    have vr : VR (cpV t 4 219) 4 (u'.1 252) := cpV_VR (VR_keep z7.2.1 (fun c x y => tc c (by omega))) z7.1 (by omega)
    have vn : VN (cpV t 4 219) 4 (u'.1 252) (u'.2 258) := cpV_VN (VN_keep z7.2.2.1 (fun c x y => by rw [tj])) z7.1 (by omega)
    obtain ⟨rr, s3, b1, b2, b3, b4⟩ := C_begin hm z7.1 vr
    obtain ⟨S, hS⟩ : ∃ S, S = wI (wI (wI (wI s3 30 0 0) 30 1 0) 100 1 0) 100 2 0 := ⟨_, rfl⟩
    have hXS : f_X_vestry m s = some (y, S) := by
      rw [hX, z1, Option.bind_some]
      dsimp only
      rw [← ht, if_pos t13, cpV_4_219 m hb, Option.bind_some, b1, Option.bind_some, f_Sn_wipe_30_eq, Option.bind_some, f_Ps_forget_eq, Option.bind_some, hS]
    have Sc : ∀ c, c ≠ 0 → c ≠ 1 → ¬ (4 ≤ c ∧ c < 31) → c ≠ 100 → c < 219 ∨ 240 < c → S.1 c = s.1 c := fun c c0 c1 c2 c3 c4 => by
      rw [hS, wI_ne c3, wI_ne c3, wI_ne (by omega), wI_ne (by omega), b3 c (by omega), cpV_1 t 4 219 (by omega), tc c c0, z8.1 c c1 c4]
    have Sj : ∀ c, c ≠ 1 → ¬ (4 ≤ c ∧ c < 17) → c < 219 ∨ 240 < c → S.2 c = s.2 c := fun c c1 c2 c4 => by
      rw [hS, wI_2, wI_2, wI_2, wI_2, b4, cpV_2 t 4 219 (by omega), tj, z8.2.1 c c1 c4]
    have S0 : ∀ k, k ≠ 13 → S.1 0 k = s.1 0 k := fun k hk => by
      rw [hS, wI_ne (by decide), wI_ne (by decide), wI_ne (by decide), wI_ne (by decide), b3 0 (by omega), cpV_1 t 4 219 (by omega), t0 k hk, z8.1 0 (by decide) (by omega)]
    have S013 : S.1 0 13 = 0 := by rw [hS, wI_ne (by decide), wI_ne (by decide), wI_ne (by decide), wI_ne (by decide), b3 0 (by omega), cpV_1 t 4 219 (by omega)]; exact t13
    have S11 : S.1 1 1 = 0 := by rw [hS, wI_ne (by decide), wI_ne (by decide), wI_ne (by decide), wI_ne (by decide), b3 1 (by omega), cpV_1 t 4 219 (by omega), tc 1 (by decide)]; exact z8.2.2
    have S30 : S.1 30 0 = 0 := by rw [hS, wI_ne (by decide), wI_ne (by decide), wI_f (by decide), wI_at]
    have S1001 : S.1 100 1 = 0 := by rw [hS, wI_f (by decide), wI_at]
    have S1002 : S.1 100 2 = 0 := by rw [hS, wI_at]
    have Sw : ∀ c, 4 ≤ c → c < 17 → S.1 c = (cpV t 4 219).1 c := fun c x y => by rw [hS, wI_ne (by omega), wI_ne (by omega), wI_ne (by omega), wI_ne (by omega), b3 c (by omega)]
    have Swj : ∀ c, S.2 c = (cpV t 4 219).2 c := fun c => by rw [hS, wI_2, wI_2, wI_2, wI_2, b4]
    have Ss : ∀ c, 17 ≤ c → c < 30 → S.1 c = s3.1 c := fun c x y => by rw [hS, wI_ne (by omega), wI_ne (by omega), wI_ne (by omega), wI_ne (by omega)]
    have pt2 : PT s S := ⟨by rw [Sc 249 (by omega) (by omega) (by omega) (by omega) (by omega)]; exact pt.1, pt.2.1, pt.2.2.1, fun k hk => by rw [Sc 250 (by omega) (by omega) (by omega) (by omega) (by omega)]; exact pt.2.2.2 k hk⟩
    rcases V_read hm pt2 with ⟨y2, s2, u2, n2, q1, q2, q3, q4, q5, q6, q7, q8, q9⟩ | ⟨s2, u2, q1, q2, q3, q4, q5⟩
    · rw [z1] at q1
      have qq := Option.some.inj q1
      have qy : y2 = y := (congrArg Prod.fst qq).symm
      have qs : s2 = s' := (congrArg Prod.snd qq).symm
      subst qy
      subst qs
      have W2 := WFv_dead q7.1
      obtain ⟨n3, u3, c1, c0, c2, c3, c4⟩ := R_L78 m y2 85 n2 0 u2 (by omega) (by omega)
      obtain ⟨u4, d1, d2, d3, d4⟩ := R_L104 m y2 26 n3 0 u3 (by omega) (by omega)
      have r251 : ∀ j, j < 85 → u4.1 251 j = u2.1 252 j := fun j hj => by rw [d4, c2 j, if_pos (by omega)]
      obtain ⟨u5, e1, e2, e3, e4⟩ := R_startSo hm (s := u4) (by rw [r251 2 (by omega)]; omega)
      have hRS : f_R_vestry m S = some (y2, wI u5 249 25 0) := by
        rw [q2, show l_R_vestry_L78 m n2 y2 0 u2 = l_R_vestry_L78 m n2 y2 ((0 : Nat) : Int) u2 from rfl, c1, show l_R_vestry_L104 m n3 y2 0 u3 = l_R_vestry_L104 m n3 y2 ((0 : Nat) : Int) u3 from rfl, d1, e1, Option.bind_some]
      refine ⟨y2, S, wI u5 249 25 0, hXS, hRS, ?_⟩
      -- the same vestry on both sides
      have Zc : ∀ c, c ≠ 249 → c ≠ 251 → c ≠ 252 → c ≠ 258 → c ≠ 266 → c ≠ 268 → (wI u5 249 25 0).1 c = S.1 c := fun c x1 x2 x3 x4 x5 x6 => by rw [wI_ne x1, e3 c x2, d4, c3 c x2, q9.1 c x1 x3 x4 x5 x6]
      have Zj : ∀ c, c ≠ 249 → c ≠ 257 → c ≠ 252 → c ≠ 258 → c ≠ 266 → c ≠ 268 → (wI u5 249 25 0).2 c = S.2 c := fun c x1 x2 x3 x4 x5 x6 => by rw [wI_2, e4, d3 c x2, c4, q9.2.1 c x1 x3 x4 x5 x6]
      have Z9 : ∀ k, k ≠ 25 → (wI u5 249 25 0).1 249 k = u2.1 249 k := fun k hk => by rw [wI_f hk, e3 249 (by decide), d4, c3 249 (by decide)]
      have Z251 : (wI u5 249 25 0).1 251 = comes (beg (u4.1 251)) := by rw [wI_ne (by decide), e2]
      have Z257 : ∀ j, j < 26 → (wI u5 249 25 0).2 257 j = u2.2 258 j := fun j hj => by rw [wI_2, e4, d2 j, if_pos (by omega), c4]
      have Z25 : (wI u5 249 25 0).1 249 25 = 0 := wI_at
      generalize wI u5 249 25 0 = Z at Zc Zj Z9 Z251 Z257 Z25 ⊢
      have hv4 : WFv (u4.1 251) := WFv_cg q7.1 r251
      -- the class's vestry beside u2's row (u' and u2 tell the same rows)
      have vr2 : VR (cpV t 4 219) 4 (u2.1 252) := cpV_VR (VR_keep q7.2.1 (fun c x y => tc c (by omega))) q7.1 (by omega)
      have vn2 : VN (cpV t 4 219) 4 (u2.1 252) (u2.2 258) := cpV_VN (VN_keep q7.2.2.1 (fun c x y => by rw [tj])) q7.1 (by omega)
      obtain ⟨rr2, s32, b12, b22, b32, b42⟩ := C_begin hm q7.1 vr2
      rw [b1] at b12
      have bq := (congrArg Prod.snd (Option.some.inj b12)).symm
      subst bq
      have lo : ∀ k, k < 85 → comes (beg (u4.1 251)) k = u2.1 252 k := fun k hk => by
        rw [comes_lo (by rw [beg_lo _ (by omega), r251 2 (by omega)]; omega) hk, beg_lo _ hk, r251 k hk]
      have cb : ∀ k, k < 466 → comes (beg (u4.1 251)) k = comes (beg (u2.1 252)) k := by
        intro k hk
        have hb : ∀ j, j < 466 → beg (u4.1 251) j = beg (u2.1 252) j := fun j hj => by
          by_cases q : j < 85
          · rw [beg_lo _ q, beg_lo _ q, r251 j q]
          · unfold beg
            by_cases p1 : (176 ≤ j ∧ j < 200) ∨ (154 ≤ j ∧ j < 159) ∨ (113 ≤ j ∧ j < 149) ∨ (95 ≤ j ∧ j < 104)
            · rw [if_pos p1, if_pos p1]
            · rw [if_neg p1, if_neg p1, if_pos (by omega), if_pos (by omega)]
        unfold comes
        rw [hb k hk, hb 2 (by omega), hb (k - 123) (by omega), hb 85 (by omega)]
      have wf : WF (comes (beg (u4.1 251))) := WF_beg hv4
      refine Inv_mk h ?_ ?_ ?_ (fun c hc => ?_) (fun c hc => ?_) (fun k hk => ?_) (fun k hk => ?_) ?_ ?_ ?_ ?_ ?_
      · rw [Z251]
        refine ⟨wf, ?_, ?_, ?_, ?_⟩
        · exact VR_cg (VR_keep vr2 (fun c x y => by rw [Zc c (by omega) (by omega) (by omega) (by omega) (by omega) (by omega), Sw c (by omega) (by omega)])) q7.1 lo
        · exact SR_cg (SR_keep b22 (fun c x y => by rw [Zc c (by omega) (by omega) (by omega) (by omega) (by omega) (by omega), Ss c (by omega) (by omega)])) (WF_beg q7.1).1 (fun k hk => cb k (by omega))
        · exact VN_cg (VN_keep vn2 (fun c x y => by rw [Zj c (by omega) (by omega) (by omega) (by omega) (by omega) (by omega), Swj c])) q7.1 lo Z257
        · left
          refine ⟨?_, ?_⟩
          · rw [cb 224 (by omega)]
            unfold comes
            rw [if_neg (by have := WFv_dead (WFv_cg q7.1 (fun k hk => beg_lo (u2.1 252) hk)); omega), beg_0 _ (by omega) (by omega)]
          · rw [Zc 30 (by omega) (by omega) (by omega) (by omega) (by omega) (by omega)]; exact S30
      · unfold pPast
        have z100 : Z.1 100 = S.1 100 := Zc 100 (by omega) (by omega) (by omega) (by omega) (by omega) (by omega)
        rw [z100, S1001, S1002, Z25]
        exact ⟨rfl, by omega, by omega, by omega, by omega, fun i hi => by omega⟩
      · exact pTold_keep g6 (by rw [Zc 0 (by omega) (by omega) (by omega) (by omega) (by omega) (by omega), S0 18 (by omega)]) (by rw [Z9 40 (by omega), q9.2.2.1 40 (by omega), Sc 249 (by omega) (by omega) (by omega) (by omega) (by omega)]) (by rw [Zc 248 (by omega) (by omega) (by omega) (by omega) (by omega) (by omega), Sc 248 (by omega) (by omega) (by omega) (by omega) (by omega)]) (by rw [Zc 267 (by omega) (by omega) (by omega) (by omega) (by omega) (by omega), Sc 267 (by omega) (by omega) (by omega) (by omega) (by omega)])
      · rw [Zc c (by omega) (by omega) (by omega) (by omega) (by omega) (by omega), Sc c (by omega) (by omega) (by omega) (by omega) (by omega)]
      · rw [Zj c (by omega) (by omega) (by omega) (by omega) (by omega) (by omega), Sj c (by omega) (by omega) (by omega)]
      · rw [Zc 0 (by omega) (by omega) (by omega) (by omega) (by omega) (by omega), S0 k (by omega)]
      · rw [Z9 k (by omega), q9.2.2.1 k (by omega), Sc 249 (by omega) (by omega) (by omega) (by omega) (by omega)]
      · rw [Zc 1 (by omega) (by omega) (by omega) (by omega) (by omega) (by omega)]; exact S11
      · rw [Z9 2 (by omega)]; exact q9.2.2.2.2
      · rw [Zc 2 (by omega) (by omega) (by omega) (by omega) (by omega) (by omega), Sc 2 (by omega) (by omega) (by omega) (by omega) (by omega)]
      · rw [Zc 250 (by omega) (by omega) (by omega) (by omega) (by omega) (by omega), Sc 250 (by omega) (by omega) (by omega) (by omega) (by omega)]
      · rw [Zc 0 (by omega) (by omega) (by omega) (by omega) (by omega) (by omega), S013, Z9 10 (by omega)]; exact q6.symm
    · rw [z1] at q1
      have qy := congrArg Prod.fst (Option.some.inj q1)
      dsimp only at qy
      omega
  · -- it does not
    obtain ⟨t, ht⟩ : ∃ t, t = wI s' 0 13 (s'.1 1 6) := ⟨_, rfl⟩
    have t13 : t.1 0 13 = s'.1 1 6 := by rw [ht, wI_at]
    have t7 : t.1 1 7 = s'.1 1 7 := by rw [ht, wI_ne (by decide)]
    have tc : ∀ c, c ≠ 0 → t.1 c = s'.1 c := fun c hc => by rw [ht, wI_ne hc]
    have tj : t.2 = s'.2 := by rw [ht]; rfl
    have p7 := z3.2.2
    have hXS : f_X_vestry m s = some (-1 - s'.1 1 7, t) := by
      rw [hX, z1, Option.bind_some]
      dsimp only
      rw [← ht, t13, if_neg z3.2.1, t7, w32_in (by omega) (by omega)]
    have Sc : ∀ c, c ≠ 0 → c ≠ 1 → c < 219 ∨ 240 < c → t.1 c = s.1 c := fun c c0 c1 c4 => by rw [tc c c0, z4.1 c c1 c4]
    have pt2 : PT s t := ⟨by rw [Sc 249 (by omega) (by omega) (by omega)]; exact pt.1, pt.2.1, pt.2.2.1, fun k hk => by rw [Sc 250 (by omega) (by omega) (by omega)]; exact pt.2.2.2 k hk⟩
    rcases V_read hm pt2 with ⟨y2, s2, u2, n2, q1, q2, q3, q4, q5, q6, q7, q8, q9⟩ | ⟨s2, u2, q1, q2, q3, q4, q5⟩
    · rw [z1] at q1
      have qy := congrArg Prod.fst (Option.some.inj q1)
      dsimp only at qy
      omega
    · rw [z1] at q1
      have qs : s2 = s' := (congrArg Prod.snd (Option.some.inj q1)).symm
      subst qs
      refine ⟨-1 - s2.1 1 7, t, u2, hXS, q2, ?_⟩
      refine Inv_failed h (fun c c0 c1 c2 c3 c4 c5 c6 c7 => by rw [q5.1 c c3 c4 c5 c6 c7, Sc c c0 c1 c2]) (fun c c1 c2 c3 c4 c5 c6 c7 => by rw [q5.2.1 c c3 c4 c5 c6 c7, tj, z4.2.1 c c1 c2]) (fun k hk => ?_) (fun k hk => by rw [q5.2.2.1 k hk, Sc 249 (by omega) (by omega) (by omega)]) ?_ q5.2.2.2.2 ?_
      · rw [q5.1 0 (by decide) (by decide) (by decide) (by decide) (by decide), ht, wI_f hk, z4.1 0 (by decide) (by omega)]
      · rw [q5.1 1 (by decide) (by decide) (by decide) (by decide) (by decide), tc 1 (by decide)]; exact z4.2.2
      · rw [q5.1 0 (by decide) (by decide) (by decide) (by decide) (by decide), t13]; exact q3.1
