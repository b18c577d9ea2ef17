/-! ===== layer 3: book (3): lines judged ===== -/
theorem whyLend_in (A : Row) (d b : Nat) : 0 ≤ whyLend A d b ∧ whyLend A d b ≤ 9 := by unfold whyLend; repeat' split <;> omega
theorem whyLay_in (A : Row) (d b : Nat) : 0 ≤ whyLay A d b ∧ whyLay A d b ≤ 9 := by unfold whyLay; repeat' split <;> omega
theorem whySwap_in (A : Row) (d b : Nat) : 0 ≤ whySwap A d b ∧ whySwap A d b ≤ 9 := by unfold whySwap; repeat' split <;> omega
theorem whyMend_in (A : Row) (b : Nat) : 0 ≤ whyMend A b ∧ whyMend A b ≤ 9 := by unfold whyMend; repeat' split <;> omega
/-- one line lived by, the class and the reference -/
theorem J_line {m : Nat} (hm : 10000 ≤ m) {A : Row} (h : WF A) {a x y : Int} (hb : BL a x y A) : ∃ (w : Int) (A' : Row), WF A' ∧ (∀ k, k < 85 ∨ 224 ≤ k → A' k = A k) ∧
    (∀ (s : mS) (k n : Nat), SR s 206 A → VR s 4 A → s.1 237 0 = (n : Int) → n ≤ 40 → k < n → s.1 238 k = a → s.1 239 k = x → s.1 240 k = y → ∃ s', f_Bk_liveLine m (k : Int) s = some (w, s') ∧ SR s' 206 A' ∧ only s s' 206 219) ∧
    (∀ (u : mS) (k : Nat), u.1 251 = A → k < 40 → u.1 266 (3 * k) = a → u.1 266 (3 * k + 1) = x → (a ≤ 2 → u.1 266 (3 * k + 2) = y) → f_R_goBy m ((3 * k : Nat) : Int) u = some (w, sr u 251 A')) := by
  have W0 := WFv_boxes h.1
  have W1 := WFv_plots h.1
  have W2 := WFv_dead h.1
  have D := WFs_day h.2.1
  have hself : ∀ u : mS, u.1 251 = A → sr u 251 A = u := fun u hu => by rw [← hu]; exact sr_self u 251
  -- the class, from what its act does
  have cl : ∀ (r : Int) (s s' : mS) (k n : Nat), s.1 237 0 = (n : Int) → n ≤ 40 → k < n → s.1 238 k = a → 0 ≤ a → a ≤ 4 → 0 ≤ r → r ≤ 9 → f_Bk_liveAct m (k : Int) s = some (r, s') → s'.1 238 = s.1 238 → f_Bk_liveLine m (k : Int) s = some (if r = 0 then 0 else 10 * a + r, s') := by
    intro r s s' k n hn n40 hk ha a0 a4 r0 r9 hr h8
    rw [f_Bk_liveLine_eq, if_neg (by omega), if_pos (by omega), hr, Option.bind_some]
    dsimp only
    by_cases c : r = 0
    · rw [if_pos c, if_pos c]
    · rw [if_neg c, if_neg c, inR_pos (by omega) (by omega), h8, Int.toNat_natCast, ha, w32_in (x := 10 * a) (by omega) (by omega), w32_in (by omega) (by omega)]
  have e3 : ∀ k : Nat, k < 40 → w32 (((3 * k : Nat) : Int) + 1) = ((3 * k + 1 : Nat) : Int) ∧ w32 (((3 * k : Nat) : Int) + 2) = ((3 * k + 2 : Nat) : Int) := by
    intro k hk
    exact ⟨by rw [w32_in (by omega) (by omega)]; omega, by rw [w32_in (by omega) (by omega)]; omega⟩
  -- the reference, from why and what is lived
  have rf : ∀ (r : Int) (A' : Row) (u : mS) (k : Nat) (z : Int), u.1 251 = A → k < 40 → u.1 266 (3 * k) = a → u.1 266 (3 * k + 1) = x → u.1 266 (3 * k + 2) = z → 0 ≤ a → a ≤ 3 → 0 ≤ r → r ≤ 9 → f_R_why m a x z u = some (r, u) → (r = 0 → f_R_live m a x z u = some (0, sr u 251 A')) → f_R_goBy m ((3 * k : Nat) : Int) u = some (if r = 0 then 0 else 10 * a + r, if r = 0 then sr u 251 A' else u) := by
    intro r A' u k z hu hk h0 h1 h2 a0 a3 r0 r9 hw hl
    obtain ⟨q1, q2⟩ := e3 k hk
    rw [f_R_goBy_eq, q1, q2]
    clear q1 q2
    rw [inR_pos (i := ((3 * k : Nat) : Int)) (by omega) (by omega), inR_pos (i := ((3 * k + 1 : Nat) : Int)) (by omega) (by omega), Int.toNat_natCast, h0, if_neg (by omega), inR_pos (i := ((3 * k + 2 : Nat) : Int)) (by omega) (by omega), Int.toNat_natCast, Int.toNat_natCast, h1, h2, hw, Option.bind_some]
    dsimp only
    by_cases c : r = 0
    · rw [if_pos c, if_pos c, if_pos c, inR_pos (by omega) (by omega), h2, hl c, Option.bind_some]
    · rw [if_neg c, if_neg c, if_neg c, w32_in (x := 10 * a) (by omega) (by omega), w32_in (by omega) (by omega)]
  have m0 : ¬ (1 : Int) = 0 := by decide
  rcases hb with ⟨ha, x0, x1, y0, y1⟩ | ⟨ha, x0, x1, y0, y1⟩ | ⟨ha, x0, x1, y0, y1, xy⟩ | ⟨ha, x0, x1⟩ | ⟨ha, x0, x1⟩
  · -- lend
    obtain ⟨d, rfl⟩ : ∃ d : Nat, x = (d : Int) := ⟨x.toNat, by omega⟩
    obtain ⟨b, rfl⟩ : ∃ b : Nat, y = (b : Int) := ⟨y.toNat, by omega⟩
    subst ha
    have rg := whyLend_in A d b
    refine ⟨if whyLend A d b = 0 then 0 else 10 * 0 + whyLend A d b, if whyLend A d b = 0 then lends A d b else A, ?_, ?_, ?_, ?_⟩
    · split
      · rename_i c; exact WF_lends h x1 y1 c
      · exact h
    · intro k hk; split
      · rcases hk with q | q
        · exact lends_lo (by omega) (by omega) q
        · unfold lends; rw [if_neg (by omega), if_neg (by omega), if_neg (by omega), if_neg (by omega), if_neg (by omega), if_neg (by omega), if_neg (by omega), if_neg (by omega)]
      · rfl
    · intro s k n hs hr hn n40 hk h8 h9 h10
      obtain ⟨r, s', z1, z2, z3, z4⟩ := C_lend_206 hs hr h.1 h.2.1 x1 y1 (m := m) (by omega)
      subst z2
      refine ⟨s', cl (whyLend A d b) s s' k n hn n40 hk h8 (by omega) (by omega) rg.1 rg.2 ?_ (z4.1 238 (by omega)), z3, z4⟩
      rw [f_Bk_liveAct_eq, inR_pos (by omega) (by omega), Int.toNat_natCast, h8, if_pos rfl, inR_pos (by omega) (by omega), inR_pos (by omega) (by omega), h9, h10, z1, Option.bind_some]
    · intro u k hu hk h0 h1 h2
      have hx := WFs_box h.2.1 y1
      have hx2 := WFv_box h.1 y1
      rw [rf (whyLend A d b) (lends A d b) u k (b : Int) hu hk h0 h1 (h2 (by omega)) (by omega) (by omega) rg.1 rg.2 (by rw [f_R_why_eq, if_pos rfl, R_whyLend hu h.1 m x1 y1]; rfl) (fun _ => by rw [f_R_live_eq, if_pos rfl, R_lends hu m (by omega) (by omega) (by omega) hx.1 (by omega)]; rfl)]
      by_cases c : whyLend A d b = 0
      · rw [if_pos c, if_pos c, if_pos c]
      · rw [if_neg c, if_neg c, if_neg c, hself u hu]
  · -- lay
    obtain ⟨d, rfl⟩ : ∃ d : Nat, x = (d : Int) := ⟨x.toNat, by omega⟩
    obtain ⟨p, rfl⟩ : ∃ b : Nat, y = (b : Int) := ⟨y.toNat, by omega⟩
    subst ha
    have rg := whyLay_in A d p
    have hin : whyLay A d p = 0 → 0 ≤ A (176 + d) ∧ A (176 + d) < A 0 := by
      intro c
      have c1 : A (164 + d) = 2 := by unfold whyLay at c; grind
      have hx := WFs_inb h.2.1 x1 c1
      exact ⟨hx.1, hx.2.1⟩
    refine ⟨if whyLay A d p = 0 then 0 else 10 * 1 + whyLay A d p, if whyLay A d p = 0 then lays A d p else A, ?_, ?_, ?_, ?_⟩
    · split
      · rename_i c; exact WF_lays h x1 y1 c
      · exact h
    · intro k hk; split
      · rename_i c
        have hx := hin c
        rcases hk with q | q
        · exact lays_lo (by omega) (by omega) (by omega) q
        · unfold lays; rw [if_neg (by omega), if_neg (by omega), if_neg (by omega), if_neg (by omega), if_neg (by omega), if_neg (by omega), if_neg (by omega), if_neg (by omega)]
      · rfl
    · intro s k n hs hr hn n40 hk h8 h9 h10
      obtain ⟨r, s', z1, z2, z3, z4⟩ := C_lay_206 hs hr h.1 h.2.1 x1 y1 (m := m) (by omega)
      subst z2
      refine ⟨s', cl (whyLay A d p) s s' k n hn n40 hk h8 (by omega) (by omega) rg.1 rg.2 ?_ (z4.1 238 (by omega)), z3, z4⟩
      rw [f_Bk_liveAct_eq, inR_pos (by omega) (by omega), Int.toNat_natCast, h8, if_neg m0, if_pos rfl, inR_pos (by omega) (by omega), inR_pos (by omega) (by omega), h9, h10, z1, Option.bind_some]
    · intro u k hu hk h0 h1 h2
      rw [rf (whyLay A d p) (lays A d p) u k (p : Int) hu hk h0 h1 (h2 (by omega)) (by omega) (by omega) rg.1 rg.2 (by rw [f_R_why_eq, if_neg m0, if_pos rfl, R_whyLay hu h.1 h.2.1 (m := m) (by omega) x1 y1]; rfl) (fun c => by have hx := hin c; rw [f_R_live_eq, if_neg m0, if_pos rfl, R_lays hu m (by omega) (by omega) hx.1 (by omega)]; rfl)]
      by_cases c : whyLay A d p = 0
      · rw [if_pos c, if_pos c, if_pos c]
      · rw [if_neg c, if_neg c, if_neg c, hself u hu]
  · -- swap
    obtain ⟨d, rfl⟩ : ∃ d : Nat, x = (d : Int) := ⟨x.toNat, by omega⟩
    obtain ⟨e, rfl⟩ : ∃ b : Nat, y = (b : Int) := ⟨y.toNat, by omega⟩
    subst ha
    have de : d ≠ e := by omega
    have rg := whySwap_in A d e
    have hin : whySwap A d e = 0 → (0 ≤ A (176 + d) ∧ A (176 + d) < A 0) ∧ (0 ≤ A (176 + e) ∧ A (176 + e) < A 0) ∧ A (176 + d) ≠ A (176 + e) := by
      intro c
      have c1 : A (164 + d) = 2 := by unfold whySwap at c; grind
      have c2 : A (164 + e) = 2 := by unfold whySwap at c; grind
      have hx := WFs_inb h.2.1 x1 c1
      have hy := WFs_inb h.2.1 y1 c2
      exact ⟨⟨hx.1, hx.2.1⟩, ⟨hy.1, hy.2.1⟩, by intro hh; rw [hh] at hx; omega⟩
    refine ⟨if whySwap A d e = 0 then 0 else 10 * 2 + whySwap A d e, if whySwap A d e = 0 then swaps A d e else A, ?_, ?_, ?_, ?_⟩
    · split
      · rename_i c; exact WF_swaps h x1 y1 de c
      · exact h
    · intro k hk; split
      · rename_i c
        obtain ⟨hx, hy, _⟩ := hin c
        rcases hk with q | q
        · exact swaps_lo (by omega) (by omega) (by omega) (by omega) q
        · unfold swaps; rw [if_neg (by omega), if_neg (by omega), if_neg (by omega), if_neg (by omega)]
      · rfl
    · intro s k n hs hr hn n40 hk h8 h9 h10
      obtain ⟨r, s', z1, z2, z3, z4⟩ := C_swap_206 hs hr h.1 h.2.1 x1 y1 (m := m) (by omega)
      subst z2
      refine ⟨s', cl (whySwap A d e) s s' k n hn n40 hk h8 (by omega) (by omega) rg.1 rg.2 ?_ (z4.1 238 (by omega)), z3, z4⟩
      rw [f_Bk_liveAct_eq, inR_pos (by omega) (by omega), Int.toNat_natCast, h8, if_neg (by decide), if_neg (by decide), if_pos rfl, inR_pos (by omega) (by omega), inR_pos (by omega) (by omega), h9, h10, z1, Option.bind_some]
    · intro u k hu hk h0 h1 h2
      rw [rf (whySwap A d e) (swaps A d e) u k (e : Int) hu hk h0 h1 (h2 (by omega)) (by omega) (by omega) rg.1 rg.2 (by rw [f_R_why_eq, if_neg (by decide), if_neg (by decide), if_pos rfl, R_whySwap hu h.1 h.2.1 m x1 y1]; rfl) (fun c => by obtain ⟨hx, hy, hz⟩ := hin c; exact R_swaps hu m (by omega) (by omega) de hx.1 (by omega) hy.1 (by omega) hz)]
      by_cases c : whySwap A d e = 0
      · rw [if_pos c, if_pos c, if_pos c]
      · rw [if_neg c, if_neg c, if_neg c, hself u hu]
  · -- mend
    obtain ⟨b, rfl⟩ : ∃ d : Nat, x = (d : Int) := ⟨x.toNat, by omega⟩
    subst ha
    have rg := whyMend_in A b
    refine ⟨if whyMend A b = 0 then 0 else 10 * 3 + whyMend A b, if whyMend A b = 0 then mends A b else A, ?_, ?_, ?_, ?_⟩
    · split
      · exact WF_mends h x1
      · exact h
    · intro k hk; split
      · unfold mends; rw [if_neg (by omega)]
      · rfl
    · intro s k n hs hr hn n40 hk h8 h9 h10
      obtain ⟨r, s', z1, z2, z3, z4⟩ := C_mend_206 hs h.1 x1 m
      subst z2
      refine ⟨s', cl (whyMend A b) s s' k n hn n40 hk h8 (by omega) (by omega) rg.1 rg.2 ?_ (z4.1 238 (by omega)), z3, z4⟩
      rw [f_Bk_liveAct_eq, inR_pos (by omega) (by omega), Int.toNat_natCast, h8, if_neg (by decide), if_neg (by decide), if_neg (by decide), if_pos rfl, inR_pos (by omega) (by omega), h9, z1, Option.bind_some]
    · intro u k hu hk h0 h1 h2
      rw [rf (whyMend A b) (mends A b) u k _ hu hk h0 h1 rfl (by omega) (by omega) rg.1 rg.2 (R_whyMend hu m (by omega) _) (fun _ => R_mends hu m (by omega) _)]
      by_cases c : whyMend A b = 0
      · rw [if_pos c, if_pos c, if_pos c]
      · rw [if_neg c, if_neg c, if_neg c, hself u hu]
  · -- days
    subst ha
    by_cases c : 400 < A 85 + x
    · refine ⟨41, A, h, fun _ _ => rfl, ?_, ?_⟩
      · intro s k n hs hr hn n40 hk h8 h9 h10
        refine ⟨s, ?_, hs, only_rf s 206 219⟩
        have := cl 1 s s k n hn n40 hk h8 (by omega) (by omega) (by omega) (by omega) (by rw [f_Bk_liveAct_eq, inR_pos (by omega) (by omega), Int.toNat_natCast, h8, if_neg (by decide), if_neg (by decide), if_neg (by decide), if_neg (by decide), inR_pos (by omega) (by omega), h9, hs.1, w32_in (by omega) (by omega), if_pos c]) rfl
        rw [this]; rfl
      · intro u k hu hk h0 h1 h2
        obtain ⟨q1, q2⟩ := e3 k hk
        rw [f_R_goBy_eq, q1]
        clear q1 q2
        rw [inR_pos (i := ((3 * k : Nat) : Int)) (by omega) (by omega), inR_pos (i := ((3 * k + 1 : Nat) : Int)) (by omega) (by omega), Int.toNat_natCast, h0, if_pos rfl, Int.toNat_natCast, h1, hu, w32_in (by omega) (by omega), if_pos c, hself u hu]
    · have hx : min x (400 - A 85) = x := by omega
      have hw := WF_daysA x.toNat h (by omega)
      refine ⟨0, daysA x.toNat A, hw.1, fun k hk => ?_, ?_, ?_⟩
      · rcases hk with q | q
        · exact daysA_lo _ (by omega) k q
        · exact daysA_hi _ (by omega) k q
      · intro s k n hs hr hn n40 hk h8 h9 h10
        obtain ⟨r, s', z1, z2, z3, z4⟩ := C_days_206 hs hr h.1 h.2.1 hm (n := x) (by omega) (by omega)
        rw [hx] at z3
        refine ⟨s', ?_, z3, z4⟩
        have := cl 0 s s' k n hn n40 hk h8 (by omega) (by omega) (by omega) (by omega) (by rw [f_Bk_liveAct_eq, inR_pos (by omega) (by omega), Int.toNat_natCast, h8, if_neg (by decide), if_neg (by decide), if_neg (by decide), if_neg (by decide), inR_pos (by omega) (by omega), h9, hs.1, w32_in (by omega) (by omega), if_neg c, inR_pos (by omega) (by omega), z1, Option.bind_some]) (z4.1 238 (by omega))
        rw [this]; rfl
      · intro u k hu hk h0 h1 h2
        obtain ⟨q1, q2⟩ := e3 k hk
        have rd := R_days hu h hm (n := x) (by omega) (by omega)
        rw [hx] at rd
        rw [f_R_goBy_eq, q1]
        clear q1 q2
        rw [inR_pos (i := ((3 * k : Nat) : Int)) (by omega) (by omega), inR_pos (i := ((3 * k + 1 : Nat) : Int)) (by omega) (by omega), Int.toNat_natCast, h0, if_pos rfl, Int.toNat_natCast, h1, hu, w32_in (by omega) (by omega), if_neg c, rd, Option.bind_some]
theorem BL_cg {a x y : Int} {A B : Row} (h : BL a x y A) (e : ∀ k, k < 85 → B k = A k) : BL a x y B := by
  unfold BL; rw [e 0 (by omega), e 1 (by omega), e 2 (by omega)]; exact h
/-- the lines one by one, until one can't be -/
theorem J_loop {m : Nat} (hm : 10000 ≤ m) (n : Nat) (n40 : n ≤ 40) (lv : Int) : ∀ (d f g k : Nat) (A : Row) (s u : mS), k + d = n → 2 * d + 3 ≤ f → 2 * d + 3 ≤ g → WF A → SR s 206 A → VR s 4 A → u.1 251 = A → s.1 237 0 = (n : Int) → u.1 249 39 = (n : Int) → (∀ j, j < n → LN s u j) →
    ∃ (w : Int) (k' f1 f2 : Nat) (A' : Row) (s' : mS), l_X_judge_L4 m f 0 (k : Int) s = l_X_judge_L49 m (f1 + 1) w (k' : Int) s' ∧ l_R_book_L78 m g lv (k : Int) 0 u = l_R_book_L108 m (f2 + 1) lv (k' : Int) w (sr u 251 A') ∧ WF A' ∧ (∀ j, j < 85 ∨ 224 ≤ j → A' j = A j) ∧ SR s' 206 A' ∧ only s s' 206 219 ∧ (w = 0 ↔ k' = n) ∧ k' ≤ n ∧ (w = 0 ∨ k' < n)
  | 0, f, g, k, A, s, u, hk, hf, hg, hw, hs, hr, hu, h7, h9, hl => by
    obtain ⟨f0, rfl⟩ : ∃ f0, f = f0 + 1 + 1 := ⟨f - 2, by omega⟩
    obtain ⟨g0, rfl⟩ : ∃ g0, g = g0 + 1 + 1 := ⟨g - 2, by omega⟩
    refine ⟨0, k, f0, g0, A, s, by rw [l_X_judge_L4_eq, if_neg (by omega)], ?_, hw, fun _ _ => rfl, hs, only_rf _ _ _, ⟨fun _ => by omega, fun _ => rfl⟩, by omega, Or.inl rfl⟩
    rw [l_R_book_L78_eq, if_neg (by omega), ← hu, sr_self]
  | d + 1, f, g, k, A, s, u, hk, hf, hg, hw, hs, hr, hu, h7, h9, hl => by
    obtain ⟨f0, rfl⟩ : ∃ f0, f = f0 + 1 + 1 := ⟨f - 2, by omega⟩
    obtain ⟨g0, rfl⟩ : ∃ g0, g = g0 + 1 + 1 := ⟨g - 2, by omega⟩
    have L := hl k (by omega)
    have hb := L.2.2.2
    rw [hu] at hb
    obtain ⟨w, A', z1, z2, z3, z4⟩ := J_line hm hw hb
    obtain ⟨s', c1, c2, c3⟩ := z3 s k n hs hr h7 n40 (by omega) rfl rfl rfl
    have r1 := z4 u k hu (by omega) L.1.symm L.2.1.symm (fun q => (L.2.2.1 q).symm)
    have ew : w32 (3 * (k : Int)) = ((3 * k : Nat) : Int) := by rw [w32_in (by omega) (by omega)]; omega
    have step1 : l_X_judge_L4 m (f0 + 1 + 1) 0 (k : Int) s = if w = 0 then l_X_judge_L4 m (f0 + 1) w ((k + 1 : Nat) : Int) s' else l_X_judge_L4 m (f0 + 1) w (k : Int) s' := by
      clear ew
      rw [l_X_judge_L4_eq, if_pos (by omega), if_pos rfl, c1, Option.bind_some]
      dsimp only
      rw [w32_in (by omega) (by omega)]; rfl
    have step2 : l_R_book_L78 m (g0 + 1 + 1) lv (k : Int) 0 u = if w = 0 then l_R_book_L78 m (g0 + 1) lv ((k + 1 : Nat) : Int) w (sr u 251 A') else l_R_book_L78 m (g0 + 1) lv (k : Int) w (sr u 251 A') := by
      rw [l_R_book_L78_eq, if_pos (by clear ew; omega), if_pos rfl, ew, r1, Option.bind_some]
      clear ew
      dsimp only
      rw [w32_in (by omega) (by omega)]; rfl
    clear ew
    by_cases c : w = 0
    · subst c
      rw [if_pos rfl] at step1 step2
      have o := c3
      obtain ⟨w', k', f1, f2, A2, s2, y1, y2, y3, y4, y5, y6, y7, y8, y9⟩ := J_loop hm n n40 lv d (f0 + 1) (g0 + 1) (k + 1) A' s' (sr u 251 A') (by omega) (by omega) (by omega) z1 c2 (VR_cg (VR_keep hr (fun c x y => o.1 c (by omega))) hw.1 (fun j hj => z2 j (by omega))) (sr_eq _ _ _) (by rw [o.1 237 (by omega)]; exact h7) (by rw [sr_ne _ _ _ (by decide)]; exact h9)
        (fun j hj => by
          have q := hl j hj
          unfold LN
          rw [o.1 238 (by omega), o.1 239 (by omega), o.1 240 (by omega), sr_ne _ _ _ (by decide), sr_eq]
          refine ⟨q.1, q.2.1, q.2.2.1, ?_⟩
          have := q.2.2.2
          rw [hu] at this
          exact BL_cg this (fun j hj => z2 j (by omega)))
      refine ⟨w', k', f1, f2, A2, s2, by rw [step1, y1], by rw [step2, y2, sr_sr], y3, fun j hj => by rw [y4 j hj, z2 j hj], y5, only_tr c3 y6, y7, y8, y9⟩
    · rw [if_neg c] at step1 step2
      obtain ⟨f1, rfl⟩ : ∃ f1, f0 = f1 + 1 := ⟨f0 - 1, by omega⟩
      obtain ⟨g1, rfl⟩ : ∃ g1, g0 = g1 + 1 := ⟨g0 - 1, by omega⟩
      refine ⟨w, k, f1, g1, A', s', ?_, ?_, z1, z2, c2, c3, ⟨fun q => absurd q c, fun q => by omega⟩, by omega, Or.inr (by omega)⟩
      · rw [step1, l_X_judge_L4_eq, if_pos (by rw [c3.1 237 (by omega)]; omega), if_neg c]
      · rw [step2, l_R_book_L78_eq, if_pos (by rw [sr_ne _ _ _ (by decide)]; omega), if_neg c]
