/-! ===== written by gen_a54.py: acts: class and reference ===== -/
/-- the class's past behind keeping the trial -/
theorem C_done {s : mS} {m : Nat} (hm : 1000 ≤ m) {f k : Nat} (hf : s.1 100 1 = (f : Int)) (hk : s.1 100 2 = (k : Int)) (hf8 : f < 8) (hk8 : k ≤ 8) {A : Row} (hS : SR s 206 A) (hv : WFv A) :
    ∃ s', f_Ps_keep_100_206 m s = some (0, s') ∧ SR s' (102 + 13 * ((f + k) % 8)) A ∧ s'.1 100 1 = (if k < 8 then (f : Int) else (((f + 1) % 8 : Nat) : Int)) ∧ s'.1 100 2 = (if k < 8 then (k : Int) + 1 else (k : Int)) ∧ s'.2 = s.2 ∧ ∀ c, c ≠ 100 → ¬ (102 + 13 * ((f + k) % 8) ≤ c ∧ c < 102 + 13 * ((f + k) % 8) + 13) → s'.1 c = s.1 c := by
  have hl : (f + k) % 8 < 8 := Nat.mod_lt _ (by decide)
  have o := cpS_only s (102 + 13 * ((f + k) % 8)) 206
  have q := cpS_SR (x := 102 + 13 * ((f + k) % 8)) hS hv (by omega)
  refine ⟨_, C_keep_206 hm hf hk hf8 hk8, ?_⟩
  by_cases c : k < 8
  · rw [if_pos c, if_pos c, if_pos c]
    refine ⟨SR_keep q (fun c' a b => wI_ne (by omega)), by rw [wI_f (by decide), o.1 100 (by omega)]; exact hf, wI_at, rfl, fun c' h1 h2 => ?_⟩
    rw [wI_ne h1, o.1 c' (by omega)]
  · rw [if_neg c, if_neg c, if_neg c]
    refine ⟨SR_keep q (fun c' a b => wI_ne (by omega)), wI_at, by rw [wI_f (by decide), o.1 100 (by omega)]; exact hk, rfl, fun c' h1 h2 => ?_⟩
    rw [wI_ne h1, o.1 c' (by omega)]
/-- an act, refused: nothing of note has changed -/
theorem Inv_ref {s s2 : mS} (h : Inv s) (h1 : ∀ c, c < 249 → ¬ (206 ≤ c ∧ c < 219) → c ≠ 245 → s2.1 c = s.1 c) (h2 : s2.2 = s.2) (h3 : ∀ c, 249 < c → c < 270 → c ≠ 255 → c ≠ 256 → s2.1 c = s.1 c) (h4 : ∀ k, k ≠ 0 → k ≠ 36 → s2.1 249 k = s.1 249 k) : Inv s2 := by
  refine Inv_st h h.1.1 (A' := s.1 251) (h3 251 (by omega) (by omega) (by omega) (by omega)) (fun _ _ => rfl) (fun _ _ _ => rfl) (SR_keep h.1.2.2.1 (fun c a b => h1 c (by omega) (by omega) (by omega))) (pPast_keep h.2.2.2.2.2.2.2.2.2 (h1 100 (by omega) (by omega) (by omega)) (h4 25 (by omega) (by omega)) (fun i _ k _ => by rw [pastRow_keep (h3 251 (by omega) (by omega) (by omega) (by omega)) (h3 254 (by omega) (by omega) (by omega) (by omega))]) (fun c a b => h1 c (by omega) (by omega) (by omega))) (fun c a _ b _ e => h1 c a b e) h2 (fun c a b _ _ e f => h3 c a b e f) (fun k a _ b => h4 k a b)
/-- an act, done, on both sides -/
theorem Inv_done {s s1 : mS} (h : Inv s) {m : Nat} (hm : 1000 ≤ m) {A' : Row} (hw : WF A') (hlo : ∀ k, k < 85 → A' k = s.1 251 k) (hhi : ∀ k, 224 ≤ k → k < 466 → A' k = s.1 251 k)
    (hS : SR s1 17 A') (hT : SR s1 206 (s.1 251)) (h1 : ∀ c, ¬ (17 ≤ c ∧ c < 30) → ¬ (206 ≤ c ∧ c < 219) → c ≠ 245 → s1.1 c = s.1 c) (h2 : s1.2 = s.2) :
    ∃ s3, f_Ps_keep_100_206 m s1 = some (0, s3) ∧ s3.2 = s.2 ∧ (∀ c, 249 ≤ c → s3.1 c = s.1 c) ∧
      ∀ s4 : mS, (∀ c, c < 249 → s4.1 c = s3.1 c) → s4.2 = s3.2 → s4.1 251 = A' → s4.1 249 25 = min 8 (s.1 249 25 + 1) → (∀ k, k ≠ 0 → k ≠ 25 → k ≠ 36 → s4.1 249 k = s.1 249 k) →
        s4.1 254 = (if s.1 249 25 = 8 then rowPut (shiftR (s.1 254) 0) 973 (s.1 251) 85 139 else rowPut (s.1 254) (139 * (s.1 249 25).toNat) (s.1 251) 85 139) → (∀ c, 249 < c → c < 270 → c ≠ 251 → c ≠ 254 → c ≠ 255 → c ≠ 256 → s4.1 c = s.1 c) → Inv s4 := by
  obtain ⟨p1, p2, p3, p4, p5, -⟩ := h.2.2.2.2.2.2.2.2.2
  have e100 := h1 100 (by omega) (by omega) (by omega)
  obtain ⟨f, hf⟩ : ∃ f : Nat, s.1 100 1 = (f : Int) := ⟨(s.1 100 1).toNat, by omega⟩
  obtain ⟨k, hk⟩ : ∃ k : Nat, s.1 100 2 = (k : Int) := ⟨(s.1 100 2).toNat, by omega⟩
  have hf8 : f < 8 := by omega
  have hk8 : k ≤ 8 := by omega
  have hl : (f + k) % 8 < 8 := Nat.mod_lt _ (by decide)
  obtain ⟨s3, a1, a2, a3, a4, a5, a6⟩ := C_done (s := s1) hm (f := f) (k := k) (by rw [e100]; exact hf) (by rw [e100]; exact hk) hf8 hk8 hT h.1.1.1
  refine ⟨s3, a1, a5.trans h2, fun c hc => ?_, fun s4 b1 b2 b3 b4 b5 b6 b7 => ?_⟩
  · rw [a6 c (by omega) (by omega), h1 c (by omega) (by omega) (by omega)]
  · have hS4 : SR s4 17 A' := SR_keep hS (fun c x y => by rw [b1 c (by omega), a6 c (by omega) (by omega)])
    refine Inv_st h hw b3 hlo hhi hS4 ?_ ?_ (by rw [b2, a5, h2]) b7 b5
    · refine Past_push h.2.2.2.2.2.2.2.2.2 rfl h.1.1 hf hk (fun q hq => by rw [b3, hlo q hq]) b6 b4 ⟨by rw [b1 100 (by omega)]; exact a3, by rw [b1 100 (by omega)]; exact a4⟩ ?_ ?_
      · exact SR_keep a2 (fun c x y => b1 c (by omega))
      · intro c x y z
        rw [b1 c (by omega), a6 c (by omega) z, h1 c (by omega) (by omega) (by omega)]
    · intro c x y z w v
      rw [b1 c x, a6 c (by omega) (by omega), h1 c y z v]
/-- the state is copied into the trial -/
theorem C_trial {s : mS} {A : Row} (hS : SR s 17 A) (hr : VR s 4 A) (hv : WFv A) (m : Nat) : ∃ s', f_St_copyOf_206_17 m s = some (0, s') ∧ SR s' 206 A ∧ SR s' 17 A ∧ VR s' 4 A ∧ only s s' 206 219 := by
  have o := cpS_only s 206 17
  exact ⟨_, cpS_206_17 m s, cpS_SR hS hv (by omega), SR_keep hS (fun c _ _ => o.1 c (by omega)), VR_keep hr (fun c _ _ => o.1 c (by omega)), o⟩
theorem R_act_lend {s : mS} {A : Row} (hA : s.1 251 = A) (hW : WF A) {m : Nat} (hm : 10000 ≤ m) (h0 : 0 ≤ s.1 249 25) (h8 : s.1 249 25 ≤ 8) {d b : Nat} (hd : (d : Int) < A 2) (hb : (b : Int) < A 0) :
    f_R_act m 0 (d : Int) (b : Int) 1 s = if whyLend A d b = 0 then some (0, sr (sr (sr s 254 (if s.1 249 25 = 8 then rowPut (shiftR (s.1 254) 0) 973 A 85 139 else rowPut (s.1 254) (139 * (s.1 249 25).toNat) A 85 139)) 249 (up (s.1 249) 25 (min 8 (s.1 249 25 + 1)))) 251 (lends A d b)) else some (whyLend A d b, s) := by
  have n1 : ¬ (1 : Int) = 0 := by decide
  rw [f_R_act_eq, if_neg n1]
  have q : f_R_why m 0 (d : Int) (b : Int) s = some (whyLend A d b, s) := by rw [f_R_why_eq, if_pos rfl, R_whyLend hA hW.1 m hd hb]; rfl
  rw [q]
  rw [Option.bind_some]
  by_cases c : whyLend A d b = 0
  · rw [if_pos c, if_pos c, R_snap hm h0 h8, Option.bind_some]
    simp only []
    have e : (sr (sr s 254 (if s.1 249 25 = 8 then rowPut (shiftR (s.1 254) 0) 973 (s.1 251) 85 139 else rowPut (s.1 254) (139 * (s.1 249 25).toNat) (s.1 251) 85 139)) 249 (up (s.1 249) 25 (min 8 (s.1 249 25 + 1)))).1 251 = A := by rw [sr_ne _ _ _ (by decide), sr_ne _ _ _ (by decide)]; exact hA
    have w0 := WFv_boxes hW.1
    have w2 := WFv_dead hW.1
    have hx := WFs_box hW.2.1 hb
    have hx2 := WFv_box hW.1 hb
    have q2 : ∀ u : mS, u.1 251 = A → f_R_live m 0 (d : Int) (b : Int) u = some (0, sr u 251 (lends A d b)) := by intro u hu; rw [f_R_live_eq, if_pos rfl, R_lends hu m (by omega) (by omega) (by omega) hx.1 (by omega)]; rfl
    rw [q2 _ e]
    rw [Option.bind_some, hA]
  · rw [if_neg c, if_neg c]

theorem R_act_lay {s : mS} {A : Row} (hA : s.1 251 = A) (hW : WF A) {m : Nat} (hm : 10000 ≤ m) (h0 : 0 ≤ s.1 249 25) (h8 : s.1 249 25 ≤ 8) {d p : Nat} (hd : (d : Int) < A 2) (hp : (p : Int) < A 1) :
    f_R_act m 1 (d : Int) (p : Int) 1 s = if whyLay A d p = 0 then some (0, sr (sr (sr s 254 (if s.1 249 25 = 8 then rowPut (shiftR (s.1 254) 0) 973 A 85 139 else rowPut (s.1 254) (139 * (s.1 249 25).toNat) A 85 139)) 249 (up (s.1 249) 25 (min 8 (s.1 249 25 + 1)))) 251 (lays A d p)) else some (whyLay A d p, s) := by
  have n1 : ¬ (1 : Int) = 0 := by decide
  rw [f_R_act_eq, if_neg n1]
  have m0 : ¬ (1 : Int) = 0 := by decide
  have q : f_R_why m 1 (d : Int) (p : Int) s = some (whyLay A d p, s) := by rw [f_R_why_eq, if_neg m0, if_pos rfl, R_whyLay hA hW.1 hW.2.1 (by omega) hd hp]; rfl
  rw [q]
  rw [Option.bind_some]
  by_cases c : whyLay A d p = 0
  · rw [if_pos c, if_pos c, R_snap hm h0 h8, Option.bind_some]
    simp only []
    have e : (sr (sr s 254 (if s.1 249 25 = 8 then rowPut (shiftR (s.1 254) 0) 973 (s.1 251) 85 139 else rowPut (s.1 254) (139 * (s.1 249 25).toNat) (s.1 251) 85 139)) 249 (up (s.1 249) 25 (min 8 (s.1 249 25 + 1)))).1 251 = A := by rw [sr_ne _ _ _ (by decide), sr_ne _ _ _ (by decide)]; exact hA
    have w0 := WFv_boxes hW.1
    have w1 := WFv_plots hW.1
    have w2 := WFv_dead hW.1
    have c1 : A (164 + d) = 2 := by unfold whyLay at c; grind
    have hx := WFs_inb hW.2.1 hd c1
    have q2 : ∀ u : mS, u.1 251 = A → f_R_live m 1 (d : Int) (p : Int) u = some (0, sr u 251 (lays A d p)) := by intro u hu; rw [f_R_live_eq, if_neg m0, if_pos rfl, R_lays hu m (by omega) (by omega) hx.1 (by omega)]; rfl
    rw [q2 _ e]
    rw [Option.bind_some, hA]
  · rw [if_neg c, if_neg c]

theorem R_act_swap {s : mS} {A : Row} (hA : s.1 251 = A) (hW : WF A) {m : Nat} (hm : 10000 ≤ m) (h0 : 0 ≤ s.1 249 25) (h8 : s.1 249 25 ≤ 8) {d e0 : Nat} (hd : (d : Int) < A 2) (he : (e0 : Int) < A 2) (hde : d ≠ e0) :
    f_R_act m 2 (d : Int) (e0 : Int) 1 s = if whySwap A d e0 = 0 then some (0, sr (sr (sr s 254 (if s.1 249 25 = 8 then rowPut (shiftR (s.1 254) 0) 973 A 85 139 else rowPut (s.1 254) (139 * (s.1 249 25).toNat) A 85 139)) 249 (up (s.1 249) 25 (min 8 (s.1 249 25 + 1)))) 251 (swaps A d e0)) else some (whySwap A d e0, s) := by
  have n1 : ¬ (1 : Int) = 0 := by decide
  rw [f_R_act_eq, if_neg n1]
  have m0 : ¬ (2 : Int) = 0 := by decide
  have m1 : ¬ (2 : Int) = 1 := by decide
  have q : f_R_why m 2 (d : Int) (e0 : Int) s = some (whySwap A d e0, s) := by rw [f_R_why_eq, if_neg m0, if_neg m1, if_pos rfl, R_whySwap hA hW.1 hW.2.1 m hd he]; rfl
  rw [q]
  rw [Option.bind_some]
  by_cases c : whySwap A d e0 = 0
  · rw [if_pos c, if_pos c, R_snap hm h0 h8, Option.bind_some]
    simp only []
    have e : (sr (sr s 254 (if s.1 249 25 = 8 then rowPut (shiftR (s.1 254) 0) 973 (s.1 251) 85 139 else rowPut (s.1 254) (139 * (s.1 249 25).toNat) (s.1 251) 85 139)) 249 (up (s.1 249) 25 (min 8 (s.1 249 25 + 1)))).1 251 = A := by rw [sr_ne _ _ _ (by decide), sr_ne _ _ _ (by decide)]; exact hA
    have w0 := WFv_boxes hW.1
    have w2 := WFv_dead hW.1
    have c1 : A (164 + d) = 2 := by unfold whySwap at c; grind
    have c2 : A (164 + e0) = 2 := by unfold whySwap at c; grind
    have hx := WFs_inb hW.2.1 hd c1
    have hy := WFs_inb hW.2.1 he c2
    have hbc : A (176 + d) ≠ A (176 + e0) := by intro hh; rw [hh] at hx; omega
    rw [R_swaps e m (by omega) (by omega) hde hx.1 (by omega) hy.1 (by omega) hbc]
    rw [Option.bind_some, hA]
  · rw [if_neg c, if_neg c]

theorem R_act_mend {s : mS} {A : Row} (hA : s.1 251 = A) (hW : WF A) {m : Nat} (hm : 10000 ≤ m) (h0 : 0 ≤ s.1 249 25) (h8 : s.1 249 25 ≤ 8) {b : Nat} (hb : (b : Int) < A 0) :
    f_R_act m 3 (b : Int) 0 1 s = if whyMend A b = 0 then some (0, sr (sr (sr s 254 (if s.1 249 25 = 8 then rowPut (shiftR (s.1 254) 0) 973 A 85 139 else rowPut (s.1 254) (139 * (s.1 249 25).toNat) A 85 139)) 249 (up (s.1 249) 25 (min 8 (s.1 249 25 + 1)))) 251 (mends A b)) else some (whyMend A b, s) := by
  have n1 : ¬ (1 : Int) = 0 := by decide
  rw [f_R_act_eq, if_neg n1]
  have w0 := WFv_boxes hW.1
  rw [R_whyMend hA m (by omega)]
  rw [Option.bind_some]
  by_cases c : whyMend A b = 0
  · rw [if_pos c, if_pos c, R_snap hm h0 h8, Option.bind_some]
    simp only []
    have e : (sr (sr s 254 (if s.1 249 25 = 8 then rowPut (shiftR (s.1 254) 0) 973 (s.1 251) 85 139 else rowPut (s.1 254) (139 * (s.1 249 25).toNat) (s.1 251) 85 139)) 249 (up (s.1 249) 25 (min 8 (s.1 249 25 + 1)))).1 251 = A := by rw [sr_ne _ _ _ (by decide), sr_ne _ _ _ (by decide)]; exact hA
    rw [R_mends e m (by omega)]
    rw [Option.bind_some, hA]
  · rw [if_neg c, if_neg c]

theorem S_lend {m : Nat} (hm : 10000 ≤ m) (x y : Int) : Sim (f_X_lend m x y) (f_R_lend m x y) := by
  intro s h
  have h' := Inv_thrown h 0
  obtain ⟨⟨hW, hr, hS, -, -⟩, -⟩ := id h
  obtain ⟨p1, p2, p3, -⟩ := h.2.2.2.2.2.2.2.2.2
  have n1 : ¬ (1 : Int) = 0 := by decide
  have w0 := WFv_boxes hW.1
  have w1 := WFv_plots hW.1
  have w2 := WFv_dead hW.1
  have hth : ∀ u : mS, u.1 251 = s.1 251 → (wI u 249 0 0).1 251 = s.1 251 := fun u hu => by rw [th_ne u 0 (by decide), hu]
  by_cases cg : 0 ≤ x ∧ x < s.1 251 2 ∧ 0 ≤ y ∧ y < s.1 251 0
  · obtain ⟨d, rfl⟩ : ∃ d : Nat, x = (d : Int) := ⟨x.toNat, by omega⟩
    obtain ⟨b, rfl⟩ : ∃ b : Nat, y = (b : Int) := ⟨y.toNat, by omega⟩
    have hd : (d : Int) < s.1 251 2 := cg.2.1
    have hb : (b : Int) < s.1 251 0 := cg.2.2.2
    obtain ⟨sa, a1, a2, a3, a4, a5⟩ := C_trial hS hr hW.1 m
    obtain ⟨w, sb, b1, b2, b3, b4⟩ := C_lend_17 a3 a4 hW.1 hW.2.1 hd hb (m := m) (by omega)
    have hX : f_X_lend m (d : Int) (b : Int) s = ((f_X_done m w sb).bind fun p4 => some (p4.1, p4.2)) := by
      rw [f_X_lend_eq, C_isDead hr, Option.bind_some]
      simp only [if_pos (show 0 ≤ (d : Int) ∧ (d : Int) < s.1 251 2 from ⟨cg.1, cg.2.1⟩), n1, if_false]
      rw [C_isBox hr, Option.bind_some]
      simp only [if_pos (show 0 ≤ (b : Int) ∧ (b : Int) < s.1 251 0 from cg.2.2), n1, if_false]
      rw [a1, Option.bind_some, b1, Option.bind_some]
    have hR : ∀ u : mS, u.1 251 = s.1 251 → f_R_lend m (d : Int) (b : Int) u = ((f_R_act m 0 (d : Int) (b : Int) 1 (wI u 249 0 0)).bind fun p2 => some (p2.1, p2.2)) := by
      intro u hu
      rw [f_R_lend_eq, R_isDead (hth u hu) hW.1, Option.bind_some]
      simp only [if_pos (show 0 ≤ (d : Int) ∧ (d : Int) < s.1 251 2 from ⟨cg.1, cg.2.1⟩), n1, if_false]
      rw [R_isBox (hth u hu) hW.1, Option.bind_some]
      simp only [if_pos (show 0 ≤ (b : Int) ∧ (b : Int) < s.1 251 0 from cg.2.2), n1, if_false]
    rw [f_X_done_eq] at hX
    by_cases cw : w = 0
    · have hy : whyLend (s.1 251) d b = 0 := by rw [← b2]; exact cw
      rw [if_pos cw] at b3 hX
      have hw' : WF (lends (s.1 251) d b) := WF_lends hW hd hb hy
      have hlo : ∀ k, k < 85 → lends (s.1 251) d b k = s.1 251 k := fun k hk => lends_lo (by omega) (by omega) hk
      have hhi : ∀ k, 224 ≤ k → k < 466 → lends (s.1 251) d b k = s.1 251 k := fun k hk _ => by unfold lends; rw [if_neg (by omega), if_neg (by omega), if_neg (by omega), if_neg (by omega), if_neg (by omega), if_neg (by omega), if_neg (by omega), if_neg (by omega)]
      obtain ⟨s3, d1, d2, d3, d4⟩ := Inv_done (s1 := sb) h (m := m) (by omega) hw' hlo hhi b3 (SR_keep a2 (fun c _ _ => b4.1 c (by omega))) (fun c x y z => by rw [b4.1 c (by omega), a5.1 c (by omega)]) (by rw [b4.2, a5.2])
      rw [d1, Option.bind_some] at hX
      have hA4 : (wI s3 249 0 0).1 249 25 = s.1 249 25 := by rw [th_f s3 0 (by decide), d3 249 (by omega)]
      have e54 : (wI s3 249 0 0).1 254 = s.1 254 := by rw [th_ne s3 0 (by decide), d3 254 (by omega)]
      have hRR := R_act_lend (s := wI s3 249 0 0) (hth s3 (d3 251 (by omega))) hW hm (by rw [hA4]; exact p2) (by rw [hA4]; exact p3) hd hb
      rw [if_pos hy] at hRR
      refine ⟨w, s3, _, hX, by rw [hR s3 (d3 251 (by omega)), hRR, cw]; rfl, ?_⟩
      refine d4 _ (fun c hc => ?_) rfl (sr_eq _ _ _) ?_ (fun k x y z => ?_) ?_ (fun c x y z w v u => ?_)
      · rw [sr_ne _ _ _ (by omega), sr_ne _ _ _ (by omega), sr_ne _ _ _ (by omega), th_ne _ _ (by omega)]
      · rw [sr_ne _ _ _ (by decide), sr_eq, up_eq, hA4]
      · rw [sr_ne _ _ _ (by decide), sr_eq, up_ne y, th_f _ _ x, d3 249 (by omega)]
      · rw [sr_ne _ _ _ (by decide), sr_ne _ _ _ (by decide), sr_eq, hA4, e54]
      · rw [sr_ne _ _ _ z, sr_ne _ _ _ (by omega), sr_ne _ _ _ w, th_ne _ _ (by omega), d3 c (by omega)]
    · rw [if_neg cw] at b3 hX
      have hc : ∀ c, 206 ≤ c ∧ c < 219 ∨ 17 ≤ c ∧ c < 30 ∨ sb.1 c = s.1 c := by
        intro c
        by_cases x : 206 ≤ c ∧ c < 219
        · exact Or.inl x
        · by_cases y : 17 ≤ c ∧ c < 30
          · exact Or.inr (Or.inl y)
          · right; right; rw [b4.1 c (by omega), a5.1 c (by omega)]
      have e251 : sb.1 251 = s.1 251 := by rw [b4.1 251 (by omega), a5.1 251 (by omega)]
      have e249 : sb.1 249 = s.1 249 := by rw [b4.1 249 (by omega), a5.1 249 (by omega)]
      have hA4 : (wI sb 249 0 0).1 249 25 = s.1 249 25 := by rw [th_f sb 0 (by decide), e249]
      have hRR := R_act_lend (s := wI sb 249 0 0) (hth sb e251) hW hm (by rw [hA4]; exact p2) (by rw [hA4]; exact p3) hd hb
      rw [if_neg (by rw [← b2]; exact cw), ← b2] at hRR
      refine ⟨w, sb, wI sb 249 0 0, hX, by rw [hR sb e251, hRR]; rfl, ?_⟩
      refine Inv_st h hW (by rw [th_ne sb 0 (by decide), e251]) (fun _ _ => rfl) (fun _ _ _ => rfl) (SR_keep b3 (fun c _ _ => th_ne sb 0 (by omega))) (pPast_keep h.2.2.2.2.2.2.2.2.2 ?_ hA4 (fun i _ k _ => ?_) (fun c x y => ?_)) (fun c x y z w v => ?_) (by show sb.2 = s.2; rw [b4.2, a5.2]) (fun c x y z w v u => ?_) (fun k x y z => ?_)
      · rw [th_ne sb 0 (by decide), b4.1 100 (by omega), a5.1 100 (by omega)]
      · rw [pastRow_keep (s := s) (by rw [th_ne sb 0 (by decide), e251]) (by rw [th_ne sb 0 (by decide), b4.1 254 (by omega), a5.1 254 (by omega)])]
      · rw [th_ne sb 0 (by omega), b4.1 c (by omega), a5.1 c (by omega)]
      · rw [th_ne sb 0 (by omega), b4.1 c (by omega), a5.1 c (by omega)]
      · rw [th_ne sb 0 (by omega), b4.1 c (by omega), a5.1 c (by omega)]
      · rw [th_f sb 0 x, e249]
  · refine ⟨-1, s, wI s 249 0 0, ?_, ?_, h'⟩
    · rw [f_X_lend_eq, C_isDead hr, Option.bind_some]
      by_cases c1 : 0 ≤ x ∧ x < s.1 251 2
      · simp only [if_pos c1, n1, if_false]
        rw [C_isBox hr, Option.bind_some]
        have c2 : ¬ (0 ≤ y ∧ y < s.1 251 0) := fun hh => cg ⟨c1.1, c1.2, hh.1, hh.2⟩
        simp only [if_neg c2, if_true]
      · simp only [if_neg c1, if_true]
    · have hA := hth s rfl
      have z0 : ∀ x y : Int, f_R_act m 0 x y 0 (wI s 249 0 0) = some (-1, wI s 249 0 0) := by intro x y; rw [f_R_act_eq, if_pos rfl]
      rw [f_R_lend_eq, R_isDead hA hW.1, Option.bind_some]
      by_cases c1 : 0 ≤ x ∧ x < s.1 251 2
      · simp only [if_pos c1, n1, if_false]
        rw [R_isBox hA hW.1, Option.bind_some]
        have c2 : ¬ (0 ≤ y ∧ y < s.1 251 0) := fun hh => cg ⟨c1.1, c1.2, hh.1, hh.2⟩
        simp only [if_neg c2, if_true]; rw [z0]; rfl
      · simp only [if_neg c1, if_true]; rw [z0]; rfl

theorem S_lay {m : Nat} (hm : 10000 ≤ m) (x y : Int) : Sim (f_X_lay m x y) (f_R_lay m x y) := by
  intro s h
  have h' := Inv_thrown h 0
  obtain ⟨⟨hW, hr, hS, -, -⟩, -⟩ := id h
  obtain ⟨p1, p2, p3, -⟩ := h.2.2.2.2.2.2.2.2.2
  have n1 : ¬ (1 : Int) = 0 := by decide
  have w0 := WFv_boxes hW.1
  have w1 := WFv_plots hW.1
  have w2 := WFv_dead hW.1
  have hth : ∀ u : mS, u.1 251 = s.1 251 → (wI u 249 0 0).1 251 = s.1 251 := fun u hu => by rw [th_ne u 0 (by decide), hu]
  by_cases cg : 0 ≤ x ∧ x < s.1 251 2 ∧ 0 ≤ y ∧ y < s.1 251 1
  · obtain ⟨d, rfl⟩ : ∃ d : Nat, x = (d : Int) := ⟨x.toNat, by omega⟩
    obtain ⟨p, rfl⟩ : ∃ b : Nat, y = (b : Int) := ⟨y.toNat, by omega⟩
    have hd : (d : Int) < s.1 251 2 := cg.2.1
    have hp : (p : Int) < s.1 251 1 := cg.2.2.2
    obtain ⟨sa, a1, a2, a3, a4, a5⟩ := C_trial hS hr hW.1 m
    obtain ⟨w, sb, b1, b2, b3, b4⟩ := C_lay_17 a3 a4 hW.1 hW.2.1 hd hp (m := m) (by omega)
    have hX : f_X_lay m (d : Int) (p : Int) s = ((f_X_done m w sb).bind fun p4 => some (p4.1, p4.2)) := by
      rw [f_X_lay_eq, C_isDead hr, Option.bind_some]
      simp only [if_pos (show 0 ≤ (d : Int) ∧ (d : Int) < s.1 251 2 from ⟨cg.1, cg.2.1⟩), n1, if_false]
      rw [C_isPlot hr, Option.bind_some]
      simp only [if_pos (show 0 ≤ (p : Int) ∧ (p : Int) < s.1 251 1 from cg.2.2), n1, if_false]
      rw [a1, Option.bind_some, b1, Option.bind_some]
    have hR : ∀ u : mS, u.1 251 = s.1 251 → f_R_lay m (d : Int) (p : Int) u = ((f_R_act m 1 (d : Int) (p : Int) 1 (wI u 249 0 0)).bind fun p2 => some (p2.1, p2.2)) := by
      intro u hu
      rw [f_R_lay_eq, R_isDead (hth u hu) hW.1, Option.bind_some]
      simp only [if_pos (show 0 ≤ (d : Int) ∧ (d : Int) < s.1 251 2 from ⟨cg.1, cg.2.1⟩), n1, if_false]
      rw [R_isPlot (hth u hu) hW.1, Option.bind_some]
      simp only [if_pos (show 0 ≤ (p : Int) ∧ (p : Int) < s.1 251 1 from cg.2.2), n1, if_false]
    rw [f_X_done_eq] at hX
    by_cases cw : w = 0
    · have hy : whyLay (s.1 251) d p = 0 := by rw [← b2]; exact cw
      rw [if_pos cw] at b3 hX
      have hw' : WF (lays (s.1 251) d p) := WF_lays hW hd hp hy
      have hlo : ∀ k, k < 85 → lays (s.1 251) d p k = s.1 251 k := fun k hk => by
        have c1 : s.1 251 (164 + d) = 2 := by unfold whyLay at hy; grind
        have hx := WFs_inb hW.2.1 hd c1
        exact lays_lo (by omega) (by omega) (by omega) hk
      have hhi : ∀ k, 224 ≤ k → k < 466 → lays (s.1 251) d p k = s.1 251 k := fun k hk _ => by 
        have c1 : s.1 251 (164 + d) = 2 := by unfold whyLay at hy; grind
        have hx := WFs_inb hW.2.1 hd c1
        unfold lays; rw [if_neg (by omega), if_neg (by omega), if_neg (by omega), if_neg (by omega), if_neg (by omega), if_neg (by omega), if_neg (by omega), if_neg (by omega)]
      obtain ⟨s3, d1, d2, d3, d4⟩ := Inv_done (s1 := sb) h (m := m) (by omega) hw' hlo hhi b3 (SR_keep a2 (fun c _ _ => b4.1 c (by omega))) (fun c x y z => by rw [b4.1 c (by omega), a5.1 c (by omega)]) (by rw [b4.2, a5.2])
      rw [d1, Option.bind_some] at hX
      have hA4 : (wI s3 249 0 0).1 249 25 = s.1 249 25 := by rw [th_f s3 0 (by decide), d3 249 (by omega)]
      have e54 : (wI s3 249 0 0).1 254 = s.1 254 := by rw [th_ne s3 0 (by decide), d3 254 (by omega)]
      have hRR := R_act_lay (s := wI s3 249 0 0) (hth s3 (d3 251 (by omega))) hW hm (by rw [hA4]; exact p2) (by rw [hA4]; exact p3) hd hp
      rw [if_pos hy] at hRR
      refine ⟨w, s3, _, hX, by rw [hR s3 (d3 251 (by omega)), hRR, cw]; rfl, ?_⟩
      refine d4 _ (fun c hc => ?_) rfl (sr_eq _ _ _) ?_ (fun k x y z => ?_) ?_ (fun c x y z w v u => ?_)
      · rw [sr_ne _ _ _ (by omega), sr_ne _ _ _ (by omega), sr_ne _ _ _ (by omega), th_ne _ _ (by omega)]
      · rw [sr_ne _ _ _ (by decide), sr_eq, up_eq, hA4]
      · rw [sr_ne _ _ _ (by decide), sr_eq, up_ne y, th_f _ _ x, d3 249 (by omega)]
      · rw [sr_ne _ _ _ (by decide), sr_ne _ _ _ (by decide), sr_eq, hA4, e54]
      · rw [sr_ne _ _ _ z, sr_ne _ _ _ (by omega), sr_ne _ _ _ w, th_ne _ _ (by omega), d3 c (by omega)]
    · rw [if_neg cw] at b3 hX
      have hc : ∀ c, 206 ≤ c ∧ c < 219 ∨ 17 ≤ c ∧ c < 30 ∨ sb.1 c = s.1 c := by
        intro c
        by_cases x : 206 ≤ c ∧ c < 219
        · exact Or.inl x
        · by_cases y : 17 ≤ c ∧ c < 30
          · exact Or.inr (Or.inl y)
          · right; right; rw [b4.1 c (by omega), a5.1 c (by omega)]
      have e251 : sb.1 251 = s.1 251 := by rw [b4.1 251 (by omega), a5.1 251 (by omega)]
      have e249 : sb.1 249 = s.1 249 := by rw [b4.1 249 (by omega), a5.1 249 (by omega)]
      have hA4 : (wI sb 249 0 0).1 249 25 = s.1 249 25 := by rw [th_f sb 0 (by decide), e249]
      have hRR := R_act_lay (s := wI sb 249 0 0) (hth sb e251) hW hm (by rw [hA4]; exact p2) (by rw [hA4]; exact p3) hd hp
      rw [if_neg (by rw [← b2]; exact cw), ← b2] at hRR
      refine ⟨w, sb, wI sb 249 0 0, hX, by rw [hR sb e251, hRR]; rfl, ?_⟩
      refine Inv_st h hW (by rw [th_ne sb 0 (by decide), e251]) (fun _ _ => rfl) (fun _ _ _ => rfl) (SR_keep b3 (fun c _ _ => th_ne sb 0 (by omega))) (pPast_keep h.2.2.2.2.2.2.2.2.2 ?_ hA4 (fun i _ k _ => ?_) (fun c x y => ?_)) (fun c x y z w v => ?_) (by show sb.2 = s.2; rw [b4.2, a5.2]) (fun c x y z w v u => ?_) (fun k x y z => ?_)
      · rw [th_ne sb 0 (by decide), b4.1 100 (by omega), a5.1 100 (by omega)]
      · rw [pastRow_keep (s := s) (by rw [th_ne sb 0 (by decide), e251]) (by rw [th_ne sb 0 (by decide), b4.1 254 (by omega), a5.1 254 (by omega)])]
      · rw [th_ne sb 0 (by omega), b4.1 c (by omega), a5.1 c (by omega)]
      · rw [th_ne sb 0 (by omega), b4.1 c (by omega), a5.1 c (by omega)]
      · rw [th_ne sb 0 (by omega), b4.1 c (by omega), a5.1 c (by omega)]
      · rw [th_f sb 0 x, e249]
  · refine ⟨-1, s, wI s 249 0 0, ?_, ?_, h'⟩
    · rw [f_X_lay_eq, C_isDead hr, Option.bind_some]
      by_cases c1 : 0 ≤ x ∧ x < s.1 251 2
      · simp only [if_pos c1, n1, if_false]
        rw [C_isPlot hr, Option.bind_some]
        have c2 : ¬ (0 ≤ y ∧ y < s.1 251 1) := fun hh => cg ⟨c1.1, c1.2, hh.1, hh.2⟩
        simp only [if_neg c2, if_true]
      · simp only [if_neg c1, if_true]
    · have hA := hth s rfl
      have z0 : ∀ x y : Int, f_R_act m 1 x y 0 (wI s 249 0 0) = some (-1, wI s 249 0 0) := by intro x y; rw [f_R_act_eq, if_pos rfl]
      rw [f_R_lay_eq, R_isDead hA hW.1, Option.bind_some]
      by_cases c1 : 0 ≤ x ∧ x < s.1 251 2
      · simp only [if_pos c1, n1, if_false]
        rw [R_isPlot hA hW.1, Option.bind_some]
        have c2 : ¬ (0 ≤ y ∧ y < s.1 251 1) := fun hh => cg ⟨c1.1, c1.2, hh.1, hh.2⟩
        simp only [if_neg c2, if_true]; rw [z0]; rfl
      · simp only [if_neg c1, if_true]; rw [z0]; rfl

theorem S_swap {m : Nat} (hm : 10000 ≤ m) (x y : Int) : Sim (f_X_swap m x y) (f_R_swap m x y) := by
  intro s h
  have h' := Inv_thrown h 0
  obtain ⟨⟨hW, hr, hS, -, -⟩, -⟩ := id h
  obtain ⟨p1, p2, p3, -⟩ := h.2.2.2.2.2.2.2.2.2
  have n1 : ¬ (1 : Int) = 0 := by decide
  have w0 := WFv_boxes hW.1
  have w1 := WFv_plots hW.1
  have w2 := WFv_dead hW.1
  have hth : ∀ u : mS, u.1 251 = s.1 251 → (wI u 249 0 0).1 251 = s.1 251 := fun u hu => by rw [th_ne u 0 (by decide), hu]
  by_cases cg : 0 ≤ x ∧ x < s.1 251 2 ∧ 0 ≤ y ∧ y < s.1 251 2 ∧ x ≠ y
  · obtain ⟨d, rfl⟩ : ∃ d : Nat, x = (d : Int) := ⟨x.toNat, by omega⟩
    obtain ⟨e, rfl⟩ : ∃ b : Nat, y = (b : Int) := ⟨y.toNat, by omega⟩
    have hd : (d : Int) < s.1 251 2 := cg.2.1
    have he : (e : Int) < s.1 251 2 := cg.2.2.2.1
    have hde : d ≠ e := by omega
    have hne : ¬ (d : Int) = (e : Int) := cg.2.2.2.2
    obtain ⟨sa, a1, a2, a3, a4, a5⟩ := C_trial hS hr hW.1 m
    obtain ⟨w, sb, b1, b2, b3, b4⟩ := C_swap_17 a3 a4 hW.1 hW.2.1 hd he (m := m) (by omega)
    have hX : f_X_swap m (d : Int) (e : Int) s = ((f_X_done m w sb).bind fun p4 => some (p4.1, p4.2)) := by
      rw [f_X_swap_eq, C_isDead hr, Option.bind_some]
      simp only [if_pos (show 0 ≤ (d : Int) ∧ (d : Int) < s.1 251 2 from ⟨cg.1, cg.2.1⟩), n1, if_false]
      rw [C_isDead hr, Option.bind_some]
      simp only [if_pos (show 0 ≤ (e : Int) ∧ (e : Int) < s.1 251 2 from ⟨cg.2.2.1, cg.2.2.2.1⟩), n1, if_false]
      rw [if_neg hne]
      rw [a1, Option.bind_some, b1, Option.bind_some]
    have hR : ∀ u : mS, u.1 251 = s.1 251 → f_R_swap m (d : Int) (e : Int) u = ((f_R_act m 2 (d : Int) (e : Int) 1 (wI u 249 0 0)).bind fun p2 => some (p2.1, p2.2)) := by
      intro u hu
      rw [f_R_swap_eq, R_isDead (hth u hu) hW.1, Option.bind_some]
      simp only [if_pos (show 0 ≤ (d : Int) ∧ (d : Int) < s.1 251 2 from ⟨cg.1, cg.2.1⟩), n1, if_false]
      rw [R_isDead (hth u hu) hW.1, Option.bind_some]
      simp only [if_pos (show 0 ≤ (e : Int) ∧ (e : Int) < s.1 251 2 from ⟨cg.2.2.1, cg.2.2.2.1⟩), n1, if_false]
      rw [if_neg hne]
    rw [f_X_done_eq] at hX
    by_cases cw : w = 0
    · have hy : whySwap (s.1 251) d e = 0 := by rw [← b2]; exact cw
      rw [if_pos cw] at b3 hX
      have hw' : WF (swaps (s.1 251) d e) := WF_swaps hW hd he hde hy
      have hlo : ∀ k, k < 85 → swaps (s.1 251) d e k = s.1 251 k := fun k hk => by
        have c1 : s.1 251 (164 + d) = 2 := by unfold whySwap at hy; grind
        have c2 : s.1 251 (164 + e) = 2 := by unfold whySwap at hy; grind
        have hx := WFs_inb hW.2.1 hd c1
        have hx2 := WFs_inb hW.2.1 he c2
        exact swaps_lo (by omega) (by omega) (by omega) (by omega) hk
      have hhi : ∀ k, 224 ≤ k → k < 466 → swaps (s.1 251) d e k = s.1 251 k := fun k hk _ => by 
        have c1 : s.1 251 (164 + d) = 2 := by unfold whySwap at hy; grind
        have c2 : s.1 251 (164 + e) = 2 := by unfold whySwap at hy; grind
        have hx := WFs_inb hW.2.1 hd c1
        have hx2 := WFs_inb hW.2.1 he c2
        unfold swaps; rw [if_neg (by omega), if_neg (by omega), if_neg (by omega), if_neg (by omega)]
      obtain ⟨s3, d1, d2, d3, d4⟩ := Inv_done (s1 := sb) h (m := m) (by omega) hw' hlo hhi b3 (SR_keep a2 (fun c _ _ => b4.1 c (by omega))) (fun c x y z => by rw [b4.1 c (by omega), a5.1 c (by omega)]) (by rw [b4.2, a5.2])
      rw [d1, Option.bind_some] at hX
      have hA4 : (wI s3 249 0 0).1 249 25 = s.1 249 25 := by rw [th_f s3 0 (by decide), d3 249 (by omega)]
      have e54 : (wI s3 249 0 0).1 254 = s.1 254 := by rw [th_ne s3 0 (by decide), d3 254 (by omega)]
      have hRR := R_act_swap (s := wI s3 249 0 0) (hth s3 (d3 251 (by omega))) hW hm (by rw [hA4]; exact p2) (by rw [hA4]; exact p3) hd he hde
      rw [if_pos hy] at hRR
      refine ⟨w, s3, _, hX, by rw [hR s3 (d3 251 (by omega)), hRR, cw]; rfl, ?_⟩
      refine d4 _ (fun c hc => ?_) rfl (sr_eq _ _ _) ?_ (fun k x y z => ?_) ?_ (fun c x y z w v u => ?_)
      · rw [sr_ne _ _ _ (by omega), sr_ne _ _ _ (by omega), sr_ne _ _ _ (by omega), th_ne _ _ (by omega)]
      · rw [sr_ne _ _ _ (by decide), sr_eq, up_eq, hA4]
      · rw [sr_ne _ _ _ (by decide), sr_eq, up_ne y, th_f _ _ x, d3 249 (by omega)]
      · rw [sr_ne _ _ _ (by decide), sr_ne _ _ _ (by decide), sr_eq, hA4, e54]
      · rw [sr_ne _ _ _ z, sr_ne _ _ _ (by omega), sr_ne _ _ _ w, th_ne _ _ (by omega), d3 c (by omega)]
    · rw [if_neg cw] at b3 hX
      have hc : ∀ c, 206 ≤ c ∧ c < 219 ∨ 17 ≤ c ∧ c < 30 ∨ sb.1 c = s.1 c := by
        intro c
        by_cases x : 206 ≤ c ∧ c < 219
        · exact Or.inl x
        · by_cases y : 17 ≤ c ∧ c < 30
          · exact Or.inr (Or.inl y)
          · right; right; rw [b4.1 c (by omega), a5.1 c (by omega)]
      have e251 : sb.1 251 = s.1 251 := by rw [b4.1 251 (by omega), a5.1 251 (by omega)]
      have e249 : sb.1 249 = s.1 249 := by rw [b4.1 249 (by omega), a5.1 249 (by omega)]
      have hA4 : (wI sb 249 0 0).1 249 25 = s.1 249 25 := by rw [th_f sb 0 (by decide), e249]
      have hRR := R_act_swap (s := wI sb 249 0 0) (hth sb e251) hW hm (by rw [hA4]; exact p2) (by rw [hA4]; exact p3) hd he hde
      rw [if_neg (by rw [← b2]; exact cw), ← b2] at hRR
      refine ⟨w, sb, wI sb 249 0 0, hX, by rw [hR sb e251, hRR]; rfl, ?_⟩
      refine Inv_st h hW (by rw [th_ne sb 0 (by decide), e251]) (fun _ _ => rfl) (fun _ _ _ => rfl) (SR_keep b3 (fun c _ _ => th_ne sb 0 (by omega))) (pPast_keep h.2.2.2.2.2.2.2.2.2 ?_ hA4 (fun i _ k _ => ?_) (fun c x y => ?_)) (fun c x y z w v => ?_) (by show sb.2 = s.2; rw [b4.2, a5.2]) (fun c x y z w v u => ?_) (fun k x y z => ?_)
      · rw [th_ne sb 0 (by decide), b4.1 100 (by omega), a5.1 100 (by omega)]
      · rw [pastRow_keep (s := s) (by rw [th_ne sb 0 (by decide), e251]) (by rw [th_ne sb 0 (by decide), b4.1 254 (by omega), a5.1 254 (by omega)])]
      · rw [th_ne sb 0 (by omega), b4.1 c (by omega), a5.1 c (by omega)]
      · rw [th_ne sb 0 (by omega), b4.1 c (by omega), a5.1 c (by omega)]
      · rw [th_ne sb 0 (by omega), b4.1 c (by omega), a5.1 c (by omega)]
      · rw [th_f sb 0 x, e249]
  · refine ⟨-1, s, wI s 249 0 0, ?_, ?_, h'⟩
    · rw [f_X_swap_eq, C_isDead hr, Option.bind_some]
      by_cases c1 : 0 ≤ x ∧ x < s.1 251 2
      · simp only [if_pos c1, n1, if_false]
        rw [C_isDead hr, Option.bind_some]
        by_cases c2 : 0 ≤ y ∧ y < s.1 251 2
        · have c3 : x = y := Classical.byContradiction (fun hh => cg ⟨c1.1, c1.2, c2.1, c2.2, hh⟩)
          simp only [if_pos c2, n1, if_false, if_pos c3]
        · simp only [if_neg c2, if_true]
      · simp only [if_neg c1, if_true]
    · have hA := hth s rfl
      have z0 : ∀ x y : Int, f_R_act m 2 x y 0 (wI s 249 0 0) = some (-1, wI s 249 0 0) := by intro x y; rw [f_R_act_eq, if_pos rfl]
      rw [f_R_swap_eq, R_isDead hA hW.1, Option.bind_some]
      by_cases c1 : 0 ≤ x ∧ x < s.1 251 2
      · simp only [if_pos c1, n1, if_false]
        rw [R_isDead hA hW.1, Option.bind_some]
        by_cases c2 : 0 ≤ y ∧ y < s.1 251 2
        · have c3 : x = y := Classical.byContradiction (fun hh => cg ⟨c1.1, c1.2, c2.1, c2.2, hh⟩)
          simp only [if_pos c2, n1, if_false, if_pos c3]; rw [z0]; rfl
        · simp only [if_neg c2, if_true]; rw [z0]; rfl
      · simp only [if_neg c1, if_true]; rw [z0]; rfl

theorem S_mend {m : Nat} (hm : 10000 ≤ m) (x : Int) : Sim (f_X_mend m x) (f_R_mend m x) := by
  intro s h
  have h' := Inv_thrown h 0
  obtain ⟨⟨hW, hr, hS, -, -⟩, -⟩ := id h
  obtain ⟨p1, p2, p3, -⟩ := h.2.2.2.2.2.2.2.2.2
  have n1 : ¬ (1 : Int) = 0 := by decide
  have w0 := WFv_boxes hW.1
  have w1 := WFv_plots hW.1
  have w2 := WFv_dead hW.1
  have hth : ∀ u : mS, u.1 251 = s.1 251 → (wI u 249 0 0).1 251 = s.1 251 := fun u hu => by rw [th_ne u 0 (by decide), hu]
  by_cases cg : 0 ≤ x ∧ x < s.1 251 0
  · obtain ⟨b, rfl⟩ : ∃ b : Nat, x = (b : Int) := ⟨x.toNat, by omega⟩
    have hb : (b : Int) < s.1 251 0 := cg.2
    obtain ⟨sa, a1, a2, a3, a4, a5⟩ := C_trial hS hr hW.1 m
    obtain ⟨w, sb, b1, b2, b3, b4⟩ := C_mend_17 a3 hW.1 hb m
    have hX : f_X_mend m (b : Int) s = ((f_X_done m w sb).bind fun p4 => some (p4.1, p4.2)) := by
      rw [f_X_mend_eq, C_isBox hr, Option.bind_some]
      simp only [if_pos cg, n1, if_false]
      rw [a1, Option.bind_some, b1, Option.bind_some]
    have hR : ∀ u : mS, u.1 251 = s.1 251 → f_R_mend m (b : Int) u = ((f_R_act m 3 (b : Int) 0 1 (wI u 249 0 0)).bind fun p2 => some (p2.1, p2.2)) := by
      intro u hu
      rw [f_R_mend_eq, R_isBox (hth u hu) hW.1, Option.bind_some]
      simp only [if_pos cg]
    rw [f_X_done_eq] at hX
    by_cases cw : w = 0
    · have hy : whyMend (s.1 251) b = 0 := by rw [← b2]; exact cw
      rw [if_pos cw] at b3 hX
      have hw' : WF (mends (s.1 251) b) := WF_mends hW hb
      have hlo : ∀ k, k < 85 → mends (s.1 251) b k = s.1 251 k := fun k hk => mends_lo (by omega) hk
      have hhi : ∀ k, 224 ≤ k → k < 466 → mends (s.1 251) b k = s.1 251 k := fun k hk _ => by unfold mends; rw [if_neg (by omega)]
      obtain ⟨s3, d1, d2, d3, d4⟩ := Inv_done (s1 := sb) h (m := m) (by omega) hw' hlo hhi b3 (SR_keep a2 (fun c _ _ => b4.1 c (by omega))) (fun c x y z => by rw [b4.1 c (by omega), a5.1 c (by omega)]) (by rw [b4.2, a5.2])
      rw [d1, Option.bind_some] at hX
      have hA4 : (wI s3 249 0 0).1 249 25 = s.1 249 25 := by rw [th_f s3 0 (by decide), d3 249 (by omega)]
      have e54 : (wI s3 249 0 0).1 254 = s.1 254 := by rw [th_ne s3 0 (by decide), d3 254 (by omega)]
      have hRR := R_act_mend (s := wI s3 249 0 0) (hth s3 (d3 251 (by omega))) hW hm (by rw [hA4]; exact p2) (by rw [hA4]; exact p3) hb
      rw [if_pos hy] at hRR
      refine ⟨w, s3, _, hX, by rw [hR s3 (d3 251 (by omega)), hRR, cw]; rfl, ?_⟩
      refine d4 _ (fun c hc => ?_) rfl (sr_eq _ _ _) ?_ (fun k x y z => ?_) ?_ (fun c x y z w v u => ?_)
      · rw [sr_ne _ _ _ (by omega), sr_ne _ _ _ (by omega), sr_ne _ _ _ (by omega), th_ne _ _ (by omega)]
      · rw [sr_ne _ _ _ (by decide), sr_eq, up_eq, hA4]
      · rw [sr_ne _ _ _ (by decide), sr_eq, up_ne y, th_f _ _ x, d3 249 (by omega)]
      · rw [sr_ne _ _ _ (by decide), sr_ne _ _ _ (by decide), sr_eq, hA4, e54]
      · rw [sr_ne _ _ _ z, sr_ne _ _ _ (by omega), sr_ne _ _ _ w, th_ne _ _ (by omega), d3 c (by omega)]
    · rw [if_neg cw] at b3 hX
      have hc : ∀ c, 206 ≤ c ∧ c < 219 ∨ 17 ≤ c ∧ c < 30 ∨ sb.1 c = s.1 c := by
        intro c
        by_cases x : 206 ≤ c ∧ c < 219
        · exact Or.inl x
        · by_cases y : 17 ≤ c ∧ c < 30
          · exact Or.inr (Or.inl y)
          · right; right; rw [b4.1 c (by omega), a5.1 c (by omega)]
      have e251 : sb.1 251 = s.1 251 := by rw [b4.1 251 (by omega), a5.1 251 (by omega)]
      have e249 : sb.1 249 = s.1 249 := by rw [b4.1 249 (by omega), a5.1 249 (by omega)]
      have hA4 : (wI sb 249 0 0).1 249 25 = s.1 249 25 := by rw [th_f sb 0 (by decide), e249]
      have hRR := R_act_mend (s := wI sb 249 0 0) (hth sb e251) hW hm (by rw [hA4]; exact p2) (by rw [hA4]; exact p3) hb
      rw [if_neg (by rw [← b2]; exact cw), ← b2] at hRR
      refine ⟨w, sb, wI sb 249 0 0, hX, by rw [hR sb e251, hRR]; rfl, ?_⟩
      refine Inv_st h hW (by rw [th_ne sb 0 (by decide), e251]) (fun _ _ => rfl) (fun _ _ _ => rfl) (SR_keep b3 (fun c _ _ => th_ne sb 0 (by omega))) (pPast_keep h.2.2.2.2.2.2.2.2.2 ?_ hA4 (fun i _ k _ => ?_) (fun c x y => ?_)) (fun c x y z w v => ?_) (by show sb.2 = s.2; rw [b4.2, a5.2]) (fun c x y z w v u => ?_) (fun k x y z => ?_)
      · rw [th_ne sb 0 (by decide), b4.1 100 (by omega), a5.1 100 (by omega)]
      · rw [pastRow_keep (s := s) (by rw [th_ne sb 0 (by decide), e251]) (by rw [th_ne sb 0 (by decide), b4.1 254 (by omega), a5.1 254 (by omega)])]
      · rw [th_ne sb 0 (by omega), b4.1 c (by omega), a5.1 c (by omega)]
      · rw [th_ne sb 0 (by omega), b4.1 c (by omega), a5.1 c (by omega)]
      · rw [th_ne sb 0 (by omega), b4.1 c (by omega), a5.1 c (by omega)]
      · rw [th_f sb 0 x, e249]
  · refine ⟨-1, s, wI s 249 0 0, ?_, ?_, h'⟩
    · rw [f_X_mend_eq, C_isBox hr, Option.bind_some]; simp only [if_neg cg, if_true]
    · have hA := hth s rfl
      have z0 : ∀ x y : Int, f_R_act m 3 x y 0 (wI s 249 0 0) = some (-1, wI s 249 0 0) := by intro x y; rw [f_R_act_eq, if_pos rfl]
      rw [f_R_mend_eq, R_isBox hA hW.1, Option.bind_some]; simp only [if_neg cg]; rw [z0]; rfl

