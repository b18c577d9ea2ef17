/-! ===== written by gen_a51.py: queries ===== -/
theorem Sim_e {F G : mS → Option (Int × mS)} (h : ∀ s, Inv s → ∃ r, F s = some (r, s) ∧ G s = some (r, wI s 249 0 0)) : Sim F G :=
  fun s hs => by obtain ⟨r, h1, h2⟩ := h s hs; exact ⟨r, s, wI s 249 0 0, h1, h2, Inv_thrown hs 0⟩
theorem th_ne (s : mS) (v : Int) {c : Nat} (hc : c ≠ 249) : (wI s 249 0 v).1 c = s.1 c := by funext j; rw [wI_1, if_neg (by omega)]
theorem th_f (s : mS) (v : Int) {k : Nat} (hk : k ≠ 0) : (wI s 249 0 v).1 249 k = s.1 249 k := by rw [wI_1, if_neg (by omega)]
theorem C_isBox {s : mS} {A : Row} (hr : VR s 4 A) (m : Nat) (x : Int) : f_X_isBox m x s = some (if 0 ≤ x ∧ x < A 0 then 1 else 0, s) := by
  rw [f_X_isBox_eq, VR4_boxes hr]
  by_cases c1 : x < 0
  · rw [if_pos c1, if_neg (by omega)]
  · by_cases c2 : x < A 0
    · rw [if_neg c1, if_pos c2, if_pos (by omega)]
    · rw [if_neg c1, if_neg c2, if_neg (by omega)]
theorem C_isPlot {s : mS} {A : Row} (hr : VR s 4 A) (m : Nat) (x : Int) : f_X_isPlot m x s = some (if 0 ≤ x ∧ x < A 1 then 1 else 0, s) := by
  rw [f_X_isPlot_eq, VR4_plots hr]
  by_cases c1 : x < 0
  · rw [if_pos c1, if_neg (by omega)]
  · by_cases c2 : x < A 1
    · rw [if_neg c1, if_pos c2, if_pos (by omega)]
    · rw [if_neg c1, if_neg c2, if_neg (by omega)]
theorem C_isDead {s : mS} {A : Row} (hr : VR s 4 A) (m : Nat) (x : Int) : f_X_isDead m x s = some (if 0 ≤ x ∧ x < A 2 then 1 else 0, s) := by
  rw [f_X_isDead_eq, VR4_dead hr]
  by_cases c1 : x < 0
  · rw [if_pos c1, if_neg (by omega)]
  · by_cases c2 : x < A 2
    · rw [if_neg c1, if_pos c2, if_pos (by omega)]
    · rw [if_neg c1, if_neg c2, if_neg (by omega)]
theorem C_till {s : mS} {A : Row} (hs : SR s 17 A) (hw : WFs A) (m : Nat) {v : Int} (h0 : 0 ≤ v) (h1 : v ≤ 500) : f_St_daysTill m v s = some (max 0 (v - A 85), s) := by
  have hd := WFs_day hw
  rw [f_St_daysTill_eq, f_Jm_max_eq, SR17_day hs, w32_in (by omega) (by omega)]
  by_cases c : 0 < v - A 85
  · rw [if_pos c, show max 0 (v - A 85) = v - A 85 from by omega]; rfl
  · rw [if_neg c, show max 0 (v - A 85) = 0 from by omega]; rfl
theorem S_box (m : Nat) (a w : Int) : Sim (f_X_box m a w) (f_R_box m a w) := by
  refine Sim_e (fun s hs => ?_)
  obtain ⟨⟨hW, hr, hS, -, -⟩, -⟩ := hs
  have hA : (wI s 249 0 0).1 251 = s.1 251 := th_ne s 0 (by decide)
  have w0 := WFv_boxes hW.1
  rw [f_X_box_eq, f_R_box_eq, C_isBox hr, R_isBox hA hW.1]
  simp only [Option.bind_some]
  by_cases c : 0 ≤ a ∧ a < s.1 251 0
  · obtain ⟨b, rfl⟩ : ∃ b : Nat, a = (b : Int) := ⟨a.toNat, by omega⟩
    have hb : (b : Int) < s.1 251 0 := c.2
    obtain ⟨g1, g2, g3⟩ := SR17_air hS hb
    rw [C_boxFree_17 hS hW.1 hb, R_free hA m (by omega)]
    simp only [if_pos c, Int.toNat_natCast]
    rw [C_till hS hW.2.1 m g2 g3, ← g1]
    simp (disch := omega) only [inR_pos, w32_in, Int.toNat_add_nat, Int.reduceToNat, hA, VR4_blong hr hb, VR4_blast hr hb, SR17_lent hS hb, SR17_lier hS hb, Option.bind_some]
    have n1 : ¬ (1 : Int) = 0 := by decide
    simp only [n1, if_false]
    by_cases c0 : w = 0
    · simp only [c0, if_true]; exact ⟨_, rfl, rfl⟩
    by_cases c1 : w = 1
    · simp only [c0, c1, n1, if_true, if_false]; exact ⟨_, rfl, rfl⟩
    by_cases c2 : w = 2
    · rw [if_neg c0, if_neg c1, if_pos c2, if_neg c0, if_neg c1, if_pos c2]; exact ⟨_, rfl, rfl⟩
    by_cases c3 : w = 3
    · rw [if_neg c0, if_neg c1, if_neg c2, if_pos c3, if_neg c0, if_neg c1, if_neg c2, if_pos c3]; exact ⟨_, rfl, rfl⟩
    by_cases c4 : w = 4
    · rw [if_neg c0, if_neg c1, if_neg c2, if_neg c3, if_pos c4, if_neg c0, if_neg c1, if_neg c2, if_neg c3, if_pos c4]
      cases freeA (s.1 251) b
      · exact ⟨0, rfl, rfl⟩
      · exact ⟨1, rfl, rfl⟩
    by_cases c5 : w = 5
    · rw [if_neg c0, if_neg c1, if_neg c2, if_neg c3, if_neg c4, if_pos c5, if_neg c0, if_neg c1, if_neg c2, if_neg c3, if_neg c4, if_pos c5]; exact ⟨_, rfl, rfl⟩
    · rw [if_neg c0, if_neg c1, if_neg c2, if_neg c3, if_neg c4, if_neg c5, if_neg c0, if_neg c1, if_neg c2, if_neg c3, if_neg c4, if_neg c5]; exact ⟨_, rfl, rfl⟩
  · simp only [if_neg c]; exact ⟨_, rfl, rfl⟩
theorem S_plot (m : Nat) (a w : Int) : Sim (f_X_plot m a w) (f_R_plot m a w) := by
  refine Sim_e (fun s hs => ?_)
  obtain ⟨⟨hW, hr, hS, -, -⟩, -⟩ := hs
  have hA : (wI s 249 0 0).1 251 = s.1 251 := th_ne s 0 (by decide)
  have w0 := WFv_plots hW.1
  rw [f_X_plot_eq, f_R_plot_eq, C_isPlot hr, R_isPlot hA hW.1]
  simp only [Option.bind_some]
  by_cases c : 0 ≤ a ∧ a < s.1 251 1
  · obtain ⟨b, rfl⟩ : ∃ b : Nat, a = (b : Int) := ⟨a.toNat, by omega⟩
    have hb : (b : Int) < s.1 251 1 := c.2
    obtain ⟨g1, g2, g3⟩ := SR17_rest hS hb
    simp only [if_pos c, Int.toNat_natCast]
    rw [C_till hS hW.2.1 m g2 g3, ← g1]
    simp (disch := omega) only [inR_pos, w32_in, Int.toNat_add_nat, Int.reduceToNat, hA, VR4_prest hr hb, SR17_latest hS hb, SR17_laidm hS hb, Option.bind_some]
    have n1 : ¬ (1 : Int) = 0 := by decide
    simp only [n1, if_false]
    by_cases c0 : w = 0
    · simp only [c0, if_true]; exact ⟨_, rfl, rfl⟩
    by_cases c1 : w = 1
    · simp only [c0, c1, n1, if_true, if_false]; exact ⟨_, rfl, rfl⟩
    by_cases c2 : w = 2
    · rw [if_neg c0, if_neg c1, if_pos c2, if_neg c0, if_neg c1, if_pos c2]; exact ⟨_, rfl, rfl⟩
    by_cases c3 : w = 3
    · rw [if_neg c0, if_neg c1, if_neg c2, if_pos c3, if_neg c0, if_neg c1, if_neg c2, if_pos c3]; exact ⟨_, rfl, rfl⟩
    · rw [if_neg c0, if_neg c1, if_neg c2, if_neg c3, if_neg c0, if_neg c1, if_neg c2, if_neg c3]; exact ⟨_, rfl, rfl⟩
  · simp only [if_neg c]; exact ⟨_, rfl, rfl⟩
theorem S_had (m : Nat) (a w : Int) : Sim (f_X_had m a w) (f_R_had m a w) := by
  refine Sim_e (fun s hs => ?_)
  obtain ⟨⟨hW, hr, hS, -, -⟩, -⟩ := hs
  have hA : (wI s 249 0 0).1 251 = s.1 251 := th_ne s 0 (by decide)
  have w0 := WFv_boxes hW.1
  rw [f_X_had_eq, f_R_had_eq, C_isBox hr, R_isBox hA hW.1]
  simp only [Option.bind_some]
  rw [R_isIn]
  simp only [Option.bind_some]
  by_cases c : 0 ≤ a ∧ a < s.1 251 0
  · obtain ⟨b, rfl⟩ : ∃ b : Nat, a = (b : Int) := ⟨a.toNat, by omega⟩
    have hb : (b : Int) < s.1 251 0 := c.2
    have n1 : ¬ (1 : Int) = 0 := by decide
    by_cases c1 : 0 ≤ w ∧ w ≤ 3
    · obtain ⟨k, rfl⟩ : ∃ k : Nat, w = (k : Int) := ⟨w.toNat, by omega⟩
      have x1 : ¬ (k : Int) < 0 := by omega
      have x2 : (k : Int) < 4 := by omega
      have z1 : ((b : Int) * 4 + (k : Int)).toNat = 4 * b + k := by omega
      have z2 : ((113 : Int) + 4 * (b : Int) + (k : Int)).toNat = 113 + (4 * b + k) := by omega
      have q := SR17_had hS (b := 4 * b + k) (by omega)
      simp only [if_pos c, if_pos c1, n1, x1, x2, if_true, if_false]
      simp (disch := omega) only [inR_pos, w32_in, z1, z2, hA, q]
      exact ⟨_, rfl, rfl⟩
    · simp only [if_pos c, if_neg c1, n1, if_true, if_false]
      by_cases x1 : w < 0
      · simp only [x1, if_true]; exact ⟨_, rfl, rfl⟩
      · have x2 : ¬ w < 4 := by omega
        simp only [x1, x2, if_false]; exact ⟨_, rfl, rfl⟩
  · simp only [if_neg c]; exact ⟨_, rfl, rfl⟩
theorem S_count (m : Nat) (w : Int) : Sim (f_X_count m w) (f_R_count m w) := by
  refine Sim_e (fun s hs => ?_)
  obtain ⟨⟨hW, hr, hS, -, -⟩, ht, -⟩ := hs
  have hA : (wI s 249 0 0).1 251 = s.1 251 := th_ne s 0 (by decide)
  have hB : (wI s 249 0 0).1 249 2 = s.1 249 2 := th_f s 0 (by decide)
  rw [f_X_count_eq, f_R_count_eq, hA, hB, VR4_boxes hr, VR4_plots hr, VR4_dead hr, VR4_kins hr, VR4_frosts hr, VR4_airn hr, ht.1]
  by_cases c0 : w = 0
  · simp only [c0, if_true]; exact ⟨_, rfl, rfl⟩
  by_cases c1 : w = 1
  · rw [if_neg c0, if_pos c1, if_neg c0, if_pos c1]; exact ⟨_, rfl, rfl⟩
  by_cases c2 : w = 2
  · rw [if_neg c0, if_neg c1, if_pos c2, if_neg c0, if_neg c1, if_pos c2]; exact ⟨_, rfl, rfl⟩
  by_cases c3 : w = 3
  · rw [if_neg c0, if_neg c1, if_neg c2, if_pos c3, if_neg c0, if_neg c1, if_neg c2, if_pos c3]; exact ⟨_, rfl, rfl⟩
  by_cases c4 : w = 4
  · rw [if_neg c0, if_neg c1, if_neg c2, if_neg c3, if_pos c4, if_neg c0, if_neg c1, if_neg c2, if_neg c3, if_pos c4]; exact ⟨_, rfl, rfl⟩
  by_cases c5 : w = 5
  · rw [if_neg c0, if_neg c1, if_neg c2, if_neg c3, if_neg c4, if_pos c5, if_neg c0, if_neg c1, if_neg c2, if_neg c3, if_neg c4, if_pos c5]; exact ⟨_, rfl, rfl⟩
  by_cases c6 : w = 6
  · rw [if_neg c0, if_neg c1, if_neg c2, if_neg c3, if_neg c4, if_neg c5, if_pos c6, if_neg c0, if_neg c1, if_neg c2, if_neg c3, if_neg c4, if_neg c5, if_pos c6]; exact ⟨_, rfl, rfl⟩
  · rw [if_neg c0, if_neg c1, if_neg c2, if_neg c3, if_neg c4, if_neg c5, if_neg c6, if_neg c0, if_neg c1, if_neg c2, if_neg c3, if_neg c4, if_neg c5, if_neg c6]; exact ⟨_, rfl, rfl⟩
theorem S_fault (m : Nat) : Sim (f_X_fault m) (f_R_fault m) := by
  refine Sim_e (fun s hs => ?_)
  have h := hs.2.2.1.1
  rw [f_X_fault_eq, f_R_fault_eq, th_f s 0 (by decide), h]; exact ⟨_, rfl, rfl⟩
theorem S_soonIn (m : Nat) : Sim (f_X_soonIn m) (f_R_soonIn m) := by
  refine Sim_e (fun s hs => ?_)
  have h := hs.2.2.1.2.1
  rw [f_X_soonIn_eq, f_R_soonIn_eq, th_f s 0 (by decide), h]; exact ⟨_, rfl, rfl⟩
theorem S_ask (m : Nat) : Sim (f_X_ask m) (f_R_ask m) := by
  refine Sim_e (fun s hs => ?_)
  have h := hs.2.2.1.2.2
  rw [f_X_ask_eq, f_R_ask_eq, th_f s 0 (by decide), h]; exact ⟨_, rfl, rfl⟩
theorem S_ringAt (m : Nat) (a : Int) : Sim (f_X_ringAt m a) (f_R_ringAt m a) := by
  refine Sim_e (fun s hs => ?_)
  obtain ⟨h1, h2, h3, h4⟩ := hs.2.2.2.1
  rw [f_X_ringAt_eq, f_R_ringAt_eq, th_f s 0 (by decide), R_isIn, h1, w32_in (by omega) (by omega)]
  simp only [Option.bind_some]
  by_cases c : 0 ≤ a ∧ a ≤ s.1 249 32 - 1
  · obtain ⟨k, rfl⟩ : ∃ k : Nat, a = (k : Int) := ⟨a.toNat, by omega⟩
    have n1 : ¬ (1 : Int) = 0 := by decide
    rw [if_neg (by omega), if_pos (by omega), if_pos c, if_neg n1, inR_pos (by omega) (by omega), inR_pos (by omega) (by omega), Int.toNat_natCast, th_ne s 0 (by decide), h4 k (by omega)]
    exact ⟨_, rfl, rfl⟩
  · rw [if_neg c]
    by_cases x1 : a < 0
    · rw [if_pos x1]; exact ⟨_, rfl, rfl⟩
    · rw [if_neg x1, if_neg (by omega)]; exact ⟨_, rfl, rfl⟩
theorem S_byteAt (m : Nat) (a : Int) : Sim (f_X_byteAt m a) (f_R_byteAt m a) := by
  refine Sim_e (fun s hs => ?_)
  obtain ⟨h1, h2, h3, h4⟩ := hs.2.2.2.2.1
  rw [f_X_byteAt_eq, f_R_byteAt_eq, th_f s 0 (by decide), R_isIn, h1, w32_in (by omega) (by omega)]
  simp only [Option.bind_some]
  by_cases c : 0 ≤ a ∧ a ≤ s.1 249 35 - 1
  · obtain ⟨k, rfl⟩ : ∃ k : Nat, a = (k : Int) := ⟨a.toNat, by omega⟩
    have n1 : ¬ (1 : Int) = 0 := by decide
    obtain ⟨g1, g2⟩ := h4 k (by omega)
    rw [if_neg (by omega), if_pos (by omega), if_pos c, if_neg n1, inR_pos (by omega) (by omega), inR_pos (by omega) (by omega), Int.toNat_natCast, th_ne s 0 (by decide), g2, band255 g1]
    exact ⟨_, rfl, rfl⟩
  · rw [if_neg c]
    by_cases x1 : a < 0
    · rw [if_pos x1]; exact ⟨_, rfl, rfl⟩
    · rw [if_neg x1, if_neg (by omega)]; exact ⟨_, rfl, rfl⟩
theorem S_told (m : Nat) (a : Int) : Sim (f_X_told m a) (f_R_told m a) := by
  refine Sim_e (fun s hs => ?_)
  obtain ⟨h1, h2, h3⟩ := hs.2.2.2.2.2.1
  rw [f_X_told_eq, f_R_told_eq, th_f s 0 (by decide), R_isIn, h1]
  simp only [Option.bind_some]
  rcases h2 with h2 | h2
  · rw [h2]; exact ⟨_, rfl, rfl⟩
  · have n1 : ¬ (1 : Int) = 0 := by decide
    rw [h2, if_neg n1, if_neg n1]
    by_cases c : 0 ≤ a ∧ a ≤ 3
    · obtain ⟨k, rfl⟩ : ∃ k : Nat, a = (k : Int) := ⟨a.toNat, by omega⟩
      rw [if_neg (by omega), if_pos (by omega), if_pos c, if_neg n1, inR_pos (by omega) (by omega), inR_pos (by omega) (by omega), Int.toNat_natCast, th_ne s 0 (by decide), h3 k (by omega) h2]
      exact ⟨_, rfl, rfl⟩
    · rw [if_neg c]
      by_cases x1 : a < 0
      · rw [if_pos x1]; exact ⟨_, rfl, rfl⟩
      · rw [if_neg x1, if_neg (by omega)]; exact ⟨_, rfl, rfl⟩
theorem S_matchOf (m : Nat) (a : Int) : Sim (f_X_matchOf m a) (f_R_matchOf m a) := by
  refine Sim_e (fun s hs => ?_)
  obtain ⟨h1, h2, h3⟩ := hs.2.2.2.2.2.2.1
  rw [f_X_matchOf_eq, f_R_matchOf_eq, th_f s 0 (by decide), R_isIn, w32_in (by omega) (by omega)]
  simp only [Option.bind_some]
  have n1 : ¬ (1 : Int) = 0 := by decide
  by_cases c0 : 0 ≤ a ∧ a < 12
  · obtain ⟨k, rfl⟩ : ∃ k : Nat, a = (k : Int) := ⟨a.toNat, by omega⟩
    rw [if_neg (by omega), if_pos (by omega), inR_pos (by omega) (by omega), Int.toNat_natCast, h3 k (by omega)]
    by_cases c : 0 ≤ (k : Int) ∧ (k : Int) ≤ s.1 249 28 - 1
    · rw [if_pos c, if_neg n1, inR_pos (by omega) (by omega), th_ne s 0 (by decide), if_pos (by omega)]; exact ⟨_, rfl, rfl⟩
    · rw [if_neg c, if_neg (by omega)]; exact ⟨_, rfl, rfl⟩
  · rw [if_neg (by omega : ¬ (0 ≤ a ∧ a ≤ s.1 249 28 - 1))]
    by_cases x1 : a < 0
    · rw [if_pos x1]; exact ⟨_, rfl, rfl⟩
    · rw [if_neg x1, if_neg (by omega)]; exact ⟨_, rfl, rfl⟩
