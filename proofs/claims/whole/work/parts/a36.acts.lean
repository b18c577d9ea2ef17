/-! ===== written by gen_a36.py: the class: acts ===== -/
theorem only_w {s t : mS} {c k : Nat} {v : Int} {lo hi : Nat} (h : only s t lo hi) (h1 : lo ≤ c) (h2 : c < hi) : only s (wI t c k v) lo hi := only_tr h (only_wI h1 h2)
theorem C_frostL {s : mS} {A : Row} (hr : VR s 4 A) (hv : WFv A) {day : Int} (h0 : 0 ≤ day) (h1 : day ≤ 1000) (m : Nat) : ∀ (k n i : Nat), i + k = (A 4).toNat → k < n → l_Vs_frostOn_L2 m n day (i : Int) s = some (if ff (frostB A day) i k = -1 then 0 else 1, s) := by
  have hn := WFv_frosts hv
  intro k
  induction k with
  | zero =>
    intro n i hi hkn
    obtain ⟨n, rfl⟩ : ∃ n', n = n' + 1 := ⟨n - 1, by omega⟩
    rw [l_Vs_frostOn_L2_eq, VR4_frosts hr, if_neg (by omega)]
    rfl
  | succ k ih =>
    intro n i hi hkn
    obtain ⟨n, rfl⟩ : ∃ n', n = n' + 1 := ⟨n - 1, by omega⟩
    have hf : (i : Int) < A 4 := by omega
    have hx := WFv_frost hv hf
    have ih1 := ih n (i + 1) (by omega) (by omega)
    have e1 : w32 ((i : Int) + 1) = ((i + 1 : Nat) : Int) := by rw [w32_in (by omega) (by omega)]; rfl
    rw [l_Vs_frostOn_L2_eq, VR4_frosts hr, if_pos hf]
    simp (disch := omega) only [inR_pos, Int.toNat_natCast, VR4_ffrom hr hf, VR4_fmany hr hf, e1, ih1, ff, frostB, decide_eq_true_eq]
    rw [w32_in (by omega) (by omega)]
    by_cases c1 : day < A (77 + i)
    · have : ¬ (A (77 + i) ≤ day ∧ day < A (77 + i) + A (81 + i)) := by omega
      rw [if_pos c1]; simp only [this, if_false]
    · by_cases c2 : day < A (77 + i) + A (81 + i)
      · have : (A (77 + i) ≤ day ∧ day < A (77 + i) + A (81 + i)) := by omega
        have c3 : ¬ ((i : Int) = -1) := by omega
        rw [if_neg c1, if_pos c2]; simp only [this, and_self, if_true, c3, if_false]
      · have : ¬ (A (77 + i) ≤ day ∧ day < A (77 + i) + A (81 + i)) := by omega
        rw [if_neg c1, if_neg c2]; simp only [this, if_false]
theorem C_frost {s : mS} {A : Row} (hr : VR s 4 A) (hv : WFv A) {day : Int} (h0 : 0 ≤ day) (h1 : day ≤ 1000) {m : Nat} (hm : 1000 ≤ m) : f_Vs_frostOn m day s = some (if frostA A day = -1 then 0 else 1, s) := by
  have hn := WFv_frosts hv
  rw [f_Vs_frostOn_eq]
  exact C_frostL hr hv h0 h1 m (A 4).toNat m 0 (by omega) (by omega)
theorem C_kin {s : mS} {A : Row} (hr : VR s 4 A) (hv : WFv A) {d : Nat} (hd : (d : Int) < A 2) {e : Int} (he : -1 ≤ e) (he2 : e < 32) (m : Nat) : f_Vs_areKin_4 m (d : Int) e s = some (if (decide (e ≠ -1) && (A (53 + d)).toNat.testBit e.toNat) = true then 1 else 0, s) := by
  have hx := WFv_one hv hd
  have hn := WFv_dead hv
  rw [f_Vs_areKin_4_eq]
  by_cases c : e = -1
  · subst c; simp
  · obtain ⟨k, rfl⟩ : ∃ k : Nat, e = (k : Int) := ⟨e.toNat, by omega⟩
    obtain ⟨a, ha⟩ : ∃ a : Nat, A (53 + d) = (a : Int) := ⟨(A (53 + d)).toNat, by omega⟩
    rw [if_neg c, inR_pos (by omega) (by omega)]
    simp only [Int.toNat_natCast, VR4_kin hr hd, ha]
    rw [bit_nat (by omega) (by omega)]
    cases h : a.testBit k
    · simp
    · have : ¬ (k : Int) = -1 := by omega
      simp [this]
theorem C_lend_17 {s : mS} {A : Row} (hs : SR s 17 A) (hr : VR s 4 A) (hv : WFv A) (hw : WFs A) {d b : Nat} (hd : (d : Int) < A 2) (hb : (b : Int) < A 0) {m : Nat} (hm : 1000 ≤ m) :
    wp (f_St_lendHim_17_4 m (d : Int) (b : Int) s) (fun r s' => r = whyLend A d b ∧ SR s' 17 (if r = 0 then lends A d b else A) ∧ only s s' 17 30) := by
  have hn := WFv_boxes hv
  have hn2 := WFv_dead hv
  have hn1 := WFv_plots hv
  have hx := WFs_box hw hb
  have hx2 := WFv_box hv hb
  rw [f_St_lendHim_17_4_eq, C_whyLend_17 hs hr hv hw hd hb m]
  simp only [Option.bind_some]
  by_cases c : whyLend A d b = 0
  · rw [if_pos c]
    obtain ⟨n, hmn⟩ : ∃ n, m = n + 4 := ⟨m - 4, by omega⟩
    have e1 := SR17_lent hs hb
    rw [inR_pos (by omega) (by omega), inR_pos (by omega) (by omega), inR_pos (by omega) (by omega), inR_pos (by omega) (by omega), inR_pos (by omega) (by omega)]
    generalize hM : (m : Nat) = M at *
    rw [show l_St_lendHim_17_4_L51 M M = l_St_lendHim_17_4_L51 M (n + 1 + 1 + 1 + 1) from by rw [hmn]]
    simp (disch := omega) only [inR_pos, Int.toNat_natCast, l_St_lendHim_17_4_L51_eq, w32_in, wp_some, if_true, if_false, Int.reduceLT, Int.reduceAdd, Int.reduceNeg, Int.reduceSub]
    have z3 : ((b : Int) * 4 + 3).toNat = 4 * b + 3 := by omega
    have z2 : ((b : Int) * 4 + 2).toNat = 4 * b + 2 := by omega
    have z1 : ((b : Int) * 4 + 1).toNat = 4 * b + 1 := by omega
    have y3 : ((b : Int) * 4 + 3 - 1).toNat = 4 * b + 2 := by omega
    have y2 : ((b : Int) * 4 + 2 - 1).toNat = 4 * b + 1 := by omega
    have y1 : ((b : Int) * 4 + 1 - 1).toNat = 4 * b := by omega
    have z0 : ((b : Int) * 4).toNat = 4 * b := by omega
    have x0 : (wI (wI (wI s 25 d 2) 26 d ↑b) 19 b ↑d).1 18 b = A (86 + b) := by simp only [wI_1]; grind
    have x1 : w32 (A (86 + b) + 1) = A (86 + b) + 1 := w32_in (by omega) (by omega)
    have h9 : b < 9 := by omega
    have h12 : d < 12 := by omega
    simp only [z3, z2, z1, z0, y3, y2, y1, x0, x1, c]
    refine ⟨trivial, ⟨?_, ?_, ?_, ?_, ?_⟩, ?_⟩
    · have := SR17_day hs
      simp only [wI_1, lends_day h12 h9]; grind
    · intro i hi
      rw [lends_lo h12 h9 (by omega)] at hi
      have q1 := hs.2.1 i hi
      rw [lends_lent h12 h9 (by omega), lends_lier h12 h9 (by omega), lends_air h12 h9 (by omega), lends_day h12 h9]
      simp only [wI_1]; grind
    · intro i hi
      rw [lends_lo h12 h9 (by omega)] at hi
      have q1 := SR17_had hs hi
      have q2 := SR17_had hs (b := 4 * b) (by omega)
      have q3 := SR17_had hs (b := 4 * b + 1) (by omega)
      have q4 := SR17_had hs (b := 4 * b + 2) (by omega)
      rw [lends_had h12 h9 (by omega)]
      simp only [wI_1]; grind
    · intro i hi
      rw [lends_lo h12 h9 (by omega)] at hi
      have q1 := hs.2.2.2.1 i hi
      rw [lends_lat h12 h9 (by omega), lends_rest h12 h9 (by omega), lends_laidm h12 h9 (by omega), lends_day h12 h9]
      simp only [wI_1]; grind
    · intro i hi
      rw [lends_lo h12 h9 (by omega)] at hi
      have q1 := hs.2.2.2.2 i hi
      rw [lends_how h12 h9 (by omega), lends_inb h12 h9 (by omega), lends_inp h12 h9 (by omega), lends_wait h12 h9 (by omega), lends_lain h12 h9 (by omega)]
      simp only [wI_1]; grind
    · repeat' first | exact only_rf _ _ _ | refine only_w ?_ (by omega) (by omega)
  · rw [if_neg c]
    simp only [wp_some, if_neg c]
    exact ⟨trivial, hs, only_rf _ _ _⟩

theorem C_lay_17 {s : mS} {A : Row} (hs : SR s 17 A) (hr : VR s 4 A) (hv : WFv A) (hw : WFs A) {d p : Nat} (hd : (d : Int) < A 2) (hp : (p : Int) < A 1) {m : Nat} (hm : 1000 ≤ m) :
    wp (f_St_layHim_17_4 m (d : Int) (p : Int) s) (fun r s' => r = whyLay A d p ∧ SR s' 17 (if r = 0 then lays A d p else A) ∧ only s s' 17 30) := by
  have hn := WFv_boxes hv
  have hn2 := WFv_dead hv
  have hn1 := WFv_plots hv
  have hn5 := WFv_airn hv
  have hdy := WFs_day hw
  have hx := WFs_plot hw hp
  have hx2 := WFv_plot hv hp
  have hx3 := WFs_inb hw hd
  rw [f_St_layHim_17_4_eq, inR_pos (by omega) (by omega), inR_pos (by omega) (by omega)]
  simp only [Int.toNat_natCast, SR17_how hs hd, SR17_inb hs hd, SR17_day hs]
  rw [C_frost hr hv (by omega) (by omega) hm]
  by_cases c1 : A (164 + d) = 2
  · obtain ⟨g1, g2, g3⟩ := hx3 c1
    rw [if_pos c1, if_neg (by omega)]
    simp only [Option.bind_some]
    by_cases c2 : frostA A (A 85) = -1
    · simp only [c2, if_true]
      rw [C_plotFree_17 hs hv hp]
      simp only [Option.bind_some]
      by_cases c3 : 0 < A (149 + p)
      · simp only [c3, if_true, eq_self, wp_some, whyLay, c1, c2]
        exact ⟨trivial, by simpa using hs, only_rf _ _ _⟩
      · simp only [c3, if_false]
        rw [if_neg (by omega), inR_pos (by omega) (by omega)]
        simp only [Int.toNat_natCast, SR17_latest hs hp]
        rw [C_kin hr hv hd hx.1 (by omega)]
        simp only [Option.bind_some]
        have hby : (decide (A (154 + p) ≠ -1) && (A (53 + d)).toNat.testBit (A (154 + p)).toNat) = byKin A d p := rfl
        rw [hby]
        by_cases c4 : byKin A d p = true
        · simp only [c4, if_true]
          rw [if_neg (by omega)]
          simp only [wp_some, whyLay, c1, c2, c3, c4, if_false, if_true]
          exact ⟨trivial, by simpa using hs, only_rf _ _ _⟩
        · simp only [c4]
          obtain ⟨bb0, hbb⟩ : ∃ b : Nat, A (176 + d) = (b : Int) := ⟨(A (176 + d)).toNat, by omega⟩
          have h9 : bb0 < 9 := by omega
          have h12 : d < 12 := by omega
          have h5 : p < 5 := by omega
          have h9' : (A (176 + d)).toNat < 9 := by omega
          have hbn : (A (176 + d)).toNat = bb0 := by omega
          rw [hbb]
          simp (disch := omega) only [inR_pos, Int.toNat_natCast, if_true, Bool.false_eq_true, if_false]
          have q1 := SR17_laidm hs hp
          have q2 := VR4_prest hr hp
          have q3 := VR4_airn hr
          have q4 := SR17_day hs
          have e1 : (wI (wI (wI (wI s 25 d 3) 26 d (-1)) 27 d ↑p) 22 p ↑d).1 24 p = A (159 + p) := by simp only [wI_1]; grind
          simp only [e1]
          have e2 : (wI (wI (wI (wI (wI s 25 d 3) 26 d (-1)) 27 d ↑p) 22 p ↑d) 24 p (w32 (A (159 + p) + 1))).1 17 0 = A 85 := by simp only [wI_1]; grind
          have e3 : (wI (wI (wI (wI (wI s 25 d 3) 26 d (-1)) 27 d ↑p) 22 p ↑d) 24 p (w32 (A (159 + p) + 1))).1 9 p = A (24 + p) := by simp only [wI_1]; grind
          simp only [e2, e3]
          have e6 : w32 (A 85 + A (24 + p)) = A 85 + A (24 + p) := w32_in (by omega) (by omega)
          have e7 : w32 (A 85 + A 5) = A 85 + A 5 := w32_in (by omega) (by omega)
          simp only [e6]
          have e4 : (wI (wI (wI (wI (wI (wI (wI s 25 d 3) 26 d (-1)) 27 d ↑p) 22 p ↑d) 24 p (w32 (A (159 + p) + 1))) 23 p (A 85 + A (24 + p))) 19 bb0 (-1)).1 17 0 = A 85 := by simp only [wI_1]; grind
          have e5 : (wI (wI (wI (wI (wI (wI (wI s 25 d 3) 26 d (-1)) 27 d ↑p) 22 p ↑d) 24 p (w32 (A (159 + p) + 1))) 23 p (A 85 + A (24 + p))) 19 bb0 (-1)).1 4 5 = A 5 := by simp only [wI_1]; grind
          simp only [e4, e5, e7]
          have hwy : whyLay A d p = 0 := by simp [whyLay, c1, c2, c3, c4]
          simp only [wp_some, hwy, if_true]
          refine ⟨trivial, ⟨?_, ?_, ?_, ?_, ?_⟩, ?_⟩
          · simp only [wI_1, lays_day h12 h5 h9']; grind
          · intro i hi
            rw [lays_lo h12 h5 h9' (by omega)] at hi
            have q1 := hs.2.1 i hi
            rw [lays_lent h12 h5 h9' (by omega), lays_lier h12 h5 h9' (by omega), lays_air h12 h5 h9' (by omega), lays_day h12 h5 h9', hbn]
            simp only [wI_1]; grind
          · intro i hi
            rw [lays_lo h12 h5 h9' (by omega)] at hi
            have q1 := SR17_had hs hi
            rw [lays_had h12 h5 h9' (by omega)]
            simp only [wI_1]; grind
          · intro i hi
            rw [lays_lo h12 h5 h9' (by omega)] at hi
            have q1 := hs.2.2.2.1 i hi
            rw [lays_lat h12 h5 h9' (by omega), lays_rest h12 h5 h9' (by omega), lays_laidm h12 h5 h9' (by omega), lays_day h12 h5 h9']
            simp only [wI_1]; grind
          · intro i hi
            rw [lays_lo h12 h5 h9' (by omega)] at hi
            have q1 := hs.2.2.2.2 i hi
            rw [lays_how h12 h5 h9' (by omega), lays_inb h12 h5 h9' (by omega), lays_inp h12 h5 h9' (by omega), lays_wait h12 h5 h9' (by omega), lays_lain h12 h5 h9' (by omega)]
            simp only [wI_1]; grind
          · repeat' first | exact only_rf _ _ _ | refine only_w ?_ (by omega) (by omega)
    · simp only [c2, if_false, wp_some, whyLay, c1, if_true]
      rw [if_neg (by omega)]
      simp only [wp_some]
      exact ⟨trivial, by simpa using hs, only_rf _ _ _⟩
  · rw [if_neg c1]
    simp only [wp_some, whyLay, c1, if_false]
    exact ⟨trivial, by simpa using hs, only_rf _ _ _⟩

theorem C_swap_17 {s : mS} {A : Row} (hs : SR s 17 A) (hr : VR s 4 A) (hv : WFv A) (hw : WFs A) {d e : Nat} (hd : (d : Int) < A 2) (he : (e : Int) < A 2) {m : Nat} (hm : 1000 ≤ m) :
    wp (f_St_swapThem_17_4 m (d : Int) (e : Int) s) (fun r s' => r = whySwap A d e ∧ SR s' 17 (if r = 0 then swaps A d e else A) ∧ only s s' 17 30) := by
  have hn := WFv_boxes hv
  have hn2 := WFv_dead hv
  have hn1 := WFv_plots hv
  rw [f_St_swapThem_17_4_eq]
  simp (disch := omega) only [inR_pos, Int.toNat_natCast, SR17_how hs hd, SR17_how hs he, SR17_inb hs hd, SR17_inb hs he, VR4_dlong hr hd, VR4_dlong hr he]
  by_cases c1 : A (164 + d) = 2
  · by_cases c2 : A (164 + e) = 2
    · obtain ⟨g1, g2, g3⟩ := WFs_inb hw hd c1
      obtain ⟨k1, k2, k3⟩ := WFs_inb hw he c2
      obtain ⟨b, hb⟩ : ∃ b : Nat, A (176 + d) = (b : Int) := ⟨(A (176 + d)).toNat, by omega⟩
      obtain ⟨c, hc⟩ : ∃ c : Nat, A (176 + e) = (c : Int) := ⟨(A (176 + e)).toNat, by omega⟩
      have hb9 : (b : Int) < A 0 := by omega
      have hc9 : (c : Int) < A 0 := by omega
      have h12 : d < 12 := by omega
      have h12' : e < 12 := by omega
      have hbn : (A (176 + d)).toNat = b := by omega
      have hcn : (A (176 + e)).toNat = c := by omega
      have h9 : (A (176 + d)).toNat < 9 := by omega
      have h9' : (A (176 + e)).toNat < 9 := by omega
      rw [if_pos c1, if_pos c2, hb, hc, if_neg (by omega), if_neg (by omega)]
      simp (disch := omega) only [inR_pos, Int.toNat_natCast, VR4_blong hr hb9, VR4_blong hr hc9]
      by_cases c3 : A (6 + c) < A (29 + d)
      · have hwy : whySwap A d e = 2 := by simp [whySwap, c1, c2, hc, c3]
        simp only [c3, if_true, wp_some, hwy]
        exact ⟨trivial, by simpa using hs, only_rf _ _ _⟩
      · by_cases c4 : A (6 + b) < A (29 + e)
        · have hwy : whySwap A d e = 2 := by simp [whySwap, c1, c2, hb, hc, c3, c4]
          simp only [c3, c4, if_false, if_true, wp_some, hwy]
          exact ⟨trivial, by simpa using hs, only_rf _ _ _⟩
        · have hwy : whySwap A d e = 0 := by simp [whySwap, c1, c2, hb, hc, c3, c4]
          simp only [c3, c4, if_false, wp_some, hwy, if_true]
          refine ⟨trivial, ⟨?_, ?_, ?_, ?_, ?_⟩, ?_⟩
          · have := SR17_day hs
            simp only [wI_1, swaps_day h12 h12' h9 h9']; grind
          · intro i hi
            rw [swaps_lo h12 h12' h9 h9' (by omega)] at hi
            have q1 := hs.2.1 i hi
            rw [swaps_lent h12 h12' h9 h9' (by omega), swaps_lier h12 h12' h9 h9' (by omega), swaps_air h12 h12' h9 h9' (by omega), swaps_day h12 h12' h9 h9', hbn, hcn]
            have hne : d ≠ e → b ≠ c := by intro h1 h2; subst h2; rw [hbn] at g3; rw [hcn] at k3; omega
            simp only [wI_1]; grind
          · intro i hi
            rw [swaps_lo h12 h12' h9 h9' (by omega)] at hi
            have q1 := SR17_had hs hi
            rw [swaps_had h12 h12' h9 h9' (by omega)]
            simp only [wI_1]; grind
          · intro i hi
            rw [swaps_lo h12 h12' h9 h9' (by omega)] at hi
            have q1 := hs.2.2.2.1 i hi
            rw [swaps_lat h12 h12' h9 h9' (by omega), swaps_rest h12 h12' h9 h9' (by omega), swaps_laidm h12 h12' h9 h9' (by omega), swaps_day h12 h12' h9 h9']
            simp only [wI_1]; grind
          · intro i hi
            rw [swaps_lo h12 h12' h9 h9' (by omega)] at hi
            have q1 := hs.2.2.2.2 i hi
            rw [swaps_how h12 h12' h9 h9' (by omega), swaps_inb h12 h12' h9 h9' (by omega), swaps_inp h12 h12' h9 h9' (by omega), swaps_wait h12 h12' h9 h9' (by omega), swaps_lain h12 h12' h9 h9' (by omega)]
            simp only [wI_1]; grind
          · repeat' first | exact only_rf _ _ _ | refine only_w ?_ (by omega) (by omega)
    · have hwy : whySwap A d e = 1 := by simp [whySwap, c1, c2]
      rw [if_pos c1, if_neg c2]
      simp only [wp_some, hwy]
      exact ⟨trivial, by simpa using hs, only_rf _ _ _⟩
  · have hwy : whySwap A d e = 1 := by simp [whySwap, c1]
    rw [if_neg c1]
    simp only [wp_some, hwy]
    exact ⟨trivial, by simpa using hs, only_rf _ _ _⟩

theorem C_mend_17 {s : mS} {A : Row} (hs : SR s 17 A) (hv : WFv A) {b : Nat} (hb : (b : Int) < A 0) (m : Nat) :
    wp (f_St_mendIt_17 m (b : Int) s) (fun r s' => r = whyMend A b ∧ SR s' 17 (if r = 0 then mends A b else A) ∧ only s s' 17 30) := by
  have hn := WFv_boxes hv
  have hn2 := WFv_dead hv
  have hn1 := WFv_plots hv
  have h9 : b < 9 := by omega
  rw [f_St_mendIt_17_eq]
  simp (disch := omega) only [inR_pos, Int.toNat_natCast, SR17_lent hs hb, SR17_lier hs hb]
  by_cases c1 : A (86 + b) = 0
  · have hwy : whyMend A b = 1 := by simp [whyMend, c1]
    simp only [c1, if_true, wp_some, hwy]
    exact ⟨trivial, by simpa using hs, only_rf _ _ _⟩
  · by_cases c2 : A (95 + b) = -1
    · have hwy : whyMend A b = 0 := by simp [whyMend, c1, c2]
      simp only [c1, c2, if_true, if_false, wp_some, hwy]
      refine ⟨trivial, ⟨?_, ?_, ?_, ?_, ?_⟩, ?_⟩
      · have := SR17_day hs
        simp only [wI_1, mends_day h9]; grind
      · intro i hi
        rw [mends_lo h9 (by omega)] at hi
        have q1 := hs.2.1 i hi
        rw [mends_lent h9 (by omega), mends_lier h9 (by omega), mends_air h9 (by omega), mends_day h9]
        simp only [wI_1]; grind
      · intro i hi
        rw [mends_lo h9 (by omega)] at hi
        have q1 := SR17_had hs hi
        rw [mends_had h9 (by omega)]
        simp only [wI_1]; grind
      · intro i hi
        rw [mends_lo h9 (by omega)] at hi
        have q1 := hs.2.2.2.1 i hi
        rw [mends_lat h9 (by omega), mends_rest h9 (by omega), mends_laidm h9 (by omega), mends_day h9]
        simp only [wI_1]; grind
      · intro i hi
        rw [mends_lo h9 (by omega)] at hi
        have q1 := hs.2.2.2.2 i hi
        rw [mends_how h9 (by omega), mends_inb h9 (by omega), mends_inp h9 (by omega), mends_wait h9 (by omega), mends_lain h9 (by omega)]
        simp only [wI_1]; grind
      · repeat' first | exact only_rf _ _ _ | refine only_w ?_ (by omega) (by omega)
    · have hwy : whyMend A b = 2 := by simp [whyMend, c1, c2]
      simp only [c1, c2, if_false, wp_some, hwy]
      exact ⟨trivial, by simpa using hs, only_rf _ _ _⟩

theorem C_lend_206 {s : mS} {A : Row} (hs : SR s 206 A) (hr : VR s 4 A) (hv : WFv A) (hw : WFs A) {d b : Nat} (hd : (d : Int) < A 2) (hb : (b : Int) < A 0) {m : Nat} (hm : 1000 ≤ m) :
    wp (f_St_lendHim_206_4 m (d : Int) (b : Int) s) (fun r s' => r = whyLend A d b ∧ SR s' 206 (if r = 0 then lends A d b else A) ∧ only s s' 206 219) := by
  have hn := WFv_boxes hv
  have hn2 := WFv_dead hv
  have hn1 := WFv_plots hv
  have hx := WFs_box hw hb
  have hx2 := WFv_box hv hb
  rw [f_St_lendHim_206_4_eq, C_whyLend_206 hs hr hv hw hd hb m]
  simp only [Option.bind_some]
  by_cases c : whyLend A d b = 0
  · rw [if_pos c]
    obtain ⟨n, hmn⟩ : ∃ n, m = n + 4 := ⟨m - 4, by omega⟩
    have e1 := SR206_lent hs hb
    rw [inR_pos (by omega) (by omega), inR_pos (by omega) (by omega), inR_pos (by omega) (by omega), inR_pos (by omega) (by omega), inR_pos (by omega) (by omega)]
    generalize hM : (m : Nat) = M at *
    rw [show l_St_lendHim_206_4_L51 M M = l_St_lendHim_206_4_L51 M (n + 1 + 1 + 1 + 1) from by rw [hmn]]
    simp (disch := omega) only [inR_pos, Int.toNat_natCast, l_St_lendHim_206_4_L51_eq, w32_in, wp_some, if_true, if_false, Int.reduceLT, Int.reduceAdd, Int.reduceNeg, Int.reduceSub]
    have z3 : ((b : Int) * 4 + 3).toNat = 4 * b + 3 := by omega
    have z2 : ((b : Int) * 4 + 2).toNat = 4 * b + 2 := by omega
    have z1 : ((b : Int) * 4 + 1).toNat = 4 * b + 1 := by omega
    have y3 : ((b : Int) * 4 + 3 - 1).toNat = 4 * b + 2 := by omega
    have y2 : ((b : Int) * 4 + 2 - 1).toNat = 4 * b + 1 := by omega
    have y1 : ((b : Int) * 4 + 1 - 1).toNat = 4 * b := by omega
    have z0 : ((b : Int) * 4).toNat = 4 * b := by omega
    have x0 : (wI (wI (wI s 214 d 2) 215 d ↑b) 208 b ↑d).1 207 b = A (86 + b) := by simp only [wI_1]; grind
    have x1 : w32 (A (86 + b) + 1) = A (86 + b) + 1 := w32_in (by omega) (by omega)
    have h9 : b < 9 := by omega
    have h12 : d < 12 := by omega
    simp only [z3, z2, z1, z0, y3, y2, y1, x0, x1, c]
    refine ⟨trivial, ⟨?_, ?_, ?_, ?_, ?_⟩, ?_⟩
    · have := SR206_day hs
      simp only [wI_1, lends_day h12 h9]; grind
    · intro i hi
      rw [lends_lo h12 h9 (by omega)] at hi
      have q1 := hs.2.1 i hi
      rw [lends_lent h12 h9 (by omega), lends_lier h12 h9 (by omega), lends_air h12 h9 (by omega), lends_day h12 h9]
      simp only [wI_1]; grind
    · intro i hi
      rw [lends_lo h12 h9 (by omega)] at hi
      have q1 := SR206_had hs hi
      have q2 := SR206_had hs (b := 4 * b) (by omega)
      have q3 := SR206_had hs (b := 4 * b + 1) (by omega)
      have q4 := SR206_had hs (b := 4 * b + 2) (by omega)
      rw [lends_had h12 h9 (by omega)]
      simp only [wI_1]; grind
    · intro i hi
      rw [lends_lo h12 h9 (by omega)] at hi
      have q1 := hs.2.2.2.1 i hi
      rw [lends_lat h12 h9 (by omega), lends_rest h12 h9 (by omega), lends_laidm h12 h9 (by omega), lends_day h12 h9]
      simp only [wI_1]; grind
    · intro i hi
      rw [lends_lo h12 h9 (by omega)] at hi
      have q1 := hs.2.2.2.2 i hi
      rw [lends_how h12 h9 (by omega), lends_inb h12 h9 (by omega), lends_inp h12 h9 (by omega), lends_wait h12 h9 (by omega), lends_lain h12 h9 (by omega)]
      simp only [wI_1]; grind
    · repeat' first | exact only_rf _ _ _ | refine only_w ?_ (by omega) (by omega)
  · rw [if_neg c]
    simp only [wp_some, if_neg c]
    exact ⟨trivial, hs, only_rf _ _ _⟩

theorem C_lay_206 {s : mS} {A : Row} (hs : SR s 206 A) (hr : VR s 4 A) (hv : WFv A) (hw : WFs A) {d p : Nat} (hd : (d : Int) < A 2) (hp : (p : Int) < A 1) {m : Nat} (hm : 1000 ≤ m) :
    wp (f_St_layHim_206_4 m (d : Int) (p : Int) s) (fun r s' => r = whyLay A d p ∧ SR s' 206 (if r = 0 then lays A d p else A) ∧ only s s' 206 219) := by
  have hn := WFv_boxes hv
  have hn2 := WFv_dead hv
  have hn1 := WFv_plots hv
  have hn5 := WFv_airn hv
  have hdy := WFs_day hw
  have hx := WFs_plot hw hp
  have hx2 := WFv_plot hv hp
  have hx3 := WFs_inb hw hd
  rw [f_St_layHim_206_4_eq, inR_pos (by omega) (by omega), inR_pos (by omega) (by omega)]
  simp only [Int.toNat_natCast, SR206_how hs hd, SR206_inb hs hd, SR206_day hs]
  rw [C_frost hr hv (by omega) (by omega) hm]
  by_cases c1 : A (164 + d) = 2
  · obtain ⟨g1, g2, g3⟩ := hx3 c1
    rw [if_pos c1, if_neg (by omega)]
    simp only [Option.bind_some]
    by_cases c2 : frostA A (A 85) = -1
    · simp only [c2, if_true]
      rw [C_plotFree_206 hs hv hp]
      simp only [Option.bind_some]
      by_cases c3 : 0 < A (149 + p)
      · simp only [c3, if_true, eq_self, wp_some, whyLay, c1, c2]
        exact ⟨trivial, by simpa using hs, only_rf _ _ _⟩
      · simp only [c3, if_false]
        rw [if_neg (by omega), inR_pos (by omega) (by omega)]
        simp only [Int.toNat_natCast, SR206_latest hs hp]
        rw [C_kin hr hv hd hx.1 (by omega)]
        simp only [Option.bind_some]
        have hby : (decide (A (154 + p) ≠ -1) && (A (53 + d)).toNat.testBit (A (154 + p)).toNat) = byKin A d p := rfl
        rw [hby]
        by_cases c4 : byKin A d p = true
        · simp only [c4, if_true]
          rw [if_neg (by omega)]
          simp only [wp_some, whyLay, c1, c2, c3, c4, if_false, if_true]
          exact ⟨trivial, by simpa using hs, only_rf _ _ _⟩
        · simp only [c4]
          obtain ⟨bb0, hbb⟩ : ∃ b : Nat, A (176 + d) = (b : Int) := ⟨(A (176 + d)).toNat, by omega⟩
          have h9 : bb0 < 9 := by omega
          have h12 : d < 12 := by omega
          have h5 : p < 5 := by omega
          have h9' : (A (176 + d)).toNat < 9 := by omega
          have hbn : (A (176 + d)).toNat = bb0 := by omega
          rw [hbb]
          simp (disch := omega) only [inR_pos, Int.toNat_natCast, if_true, Bool.false_eq_true, if_false]
          have q1 := SR206_laidm hs hp
          have q2 := VR4_prest hr hp
          have q3 := VR4_airn hr
          have q4 := SR206_day hs
          have e1 : (wI (wI (wI (wI s 214 d 3) 215 d (-1)) 216 d ↑p) 211 p ↑d).1 213 p = A (159 + p) := by simp only [wI_1]; grind
          simp only [e1]
          have e2 : (wI (wI (wI (wI (wI s 214 d 3) 215 d (-1)) 216 d ↑p) 211 p ↑d) 213 p (w32 (A (159 + p) + 1))).1 206 0 = A 85 := by simp only [wI_1]; grind
          have e3 : (wI (wI (wI (wI (wI s 214 d 3) 215 d (-1)) 216 d ↑p) 211 p ↑d) 213 p (w32 (A (159 + p) + 1))).1 9 p = A (24 + p) := by simp only [wI_1]; grind
          simp only [e2, e3]
          have e6 : w32 (A 85 + A (24 + p)) = A 85 + A (24 + p) := w32_in (by omega) (by omega)
          have e7 : w32 (A 85 + A 5) = A 85 + A 5 := w32_in (by omega) (by omega)
          simp only [e6]
          have e4 : (wI (wI (wI (wI (wI (wI (wI s 214 d 3) 215 d (-1)) 216 d ↑p) 211 p ↑d) 213 p (w32 (A (159 + p) + 1))) 212 p (A 85 + A (24 + p))) 208 bb0 (-1)).1 206 0 = A 85 := by simp only [wI_1]; grind
          have e5 : (wI (wI (wI (wI (wI (wI (wI s 214 d 3) 215 d (-1)) 216 d ↑p) 211 p ↑d) 213 p (w32 (A (159 + p) + 1))) 212 p (A 85 + A (24 + p))) 208 bb0 (-1)).1 4 5 = A 5 := by simp only [wI_1]; grind
          simp only [e4, e5, e7]
          have hwy : whyLay A d p = 0 := by simp [whyLay, c1, c2, c3, c4]
          simp only [wp_some, hwy, if_true]
          refine ⟨trivial, ⟨?_, ?_, ?_, ?_, ?_⟩, ?_⟩
          · simp only [wI_1, lays_day h12 h5 h9']; grind
          · intro i hi
            rw [lays_lo h12 h5 h9' (by omega)] at hi
            have q1 := hs.2.1 i hi
            rw [lays_lent h12 h5 h9' (by omega), lays_lier h12 h5 h9' (by omega), lays_air h12 h5 h9' (by omega), lays_day h12 h5 h9', hbn]
            simp only [wI_1]; grind
          · intro i hi
            rw [lays_lo h12 h5 h9' (by omega)] at hi
            have q1 := SR206_had hs hi
            rw [lays_had h12 h5 h9' (by omega)]
            simp only [wI_1]; grind
          · intro i hi
            rw [lays_lo h12 h5 h9' (by omega)] at hi
            have q1 := hs.2.2.2.1 i hi
            rw [lays_lat h12 h5 h9' (by omega), lays_rest h12 h5 h9' (by omega), lays_laidm h12 h5 h9' (by omega), lays_day h12 h5 h9']
            simp only [wI_1]; grind
          · intro i hi
            rw [lays_lo h12 h5 h9' (by omega)] at hi
            have q1 := hs.2.2.2.2 i hi
            rw [lays_how h12 h5 h9' (by omega), lays_inb h12 h5 h9' (by omega), lays_inp h12 h5 h9' (by omega), lays_wait h12 h5 h9' (by omega), lays_lain h12 h5 h9' (by omega)]
            simp only [wI_1]; grind
          · repeat' first | exact only_rf _ _ _ | refine only_w ?_ (by omega) (by omega)
    · simp only [c2, if_false, wp_some, whyLay, c1, if_true]
      rw [if_neg (by omega)]
      simp only [wp_some]
      exact ⟨trivial, by simpa using hs, only_rf _ _ _⟩
  · rw [if_neg c1]
    simp only [wp_some, whyLay, c1, if_false]
    exact ⟨trivial, by simpa using hs, only_rf _ _ _⟩

theorem C_swap_206 {s : mS} {A : Row} (hs : SR s 206 A) (hr : VR s 4 A) (hv : WFv A) (hw : WFs A) {d e : Nat} (hd : (d : Int) < A 2) (he : (e : Int) < A 2) {m : Nat} (hm : 1000 ≤ m) :
    wp (f_St_swapThem_206_4 m (d : Int) (e : Int) s) (fun r s' => r = whySwap A d e ∧ SR s' 206 (if r = 0 then swaps A d e else A) ∧ only s s' 206 219) := by
  have hn := WFv_boxes hv
  have hn2 := WFv_dead hv
  have hn1 := WFv_plots hv
  rw [f_St_swapThem_206_4_eq]
  simp (disch := omega) only [inR_pos, Int.toNat_natCast, SR206_how hs hd, SR206_how hs he, SR206_inb hs hd, SR206_inb hs he, VR4_dlong hr hd, VR4_dlong hr he]
  by_cases c1 : A (164 + d) = 2
  · by_cases c2 : A (164 + e) = 2
    · obtain ⟨g1, g2, g3⟩ := WFs_inb hw hd c1
      obtain ⟨k1, k2, k3⟩ := WFs_inb hw he c2
      obtain ⟨b, hb⟩ : ∃ b : Nat, A (176 + d) = (b : Int) := ⟨(A (176 + d)).toNat, by omega⟩
      obtain ⟨c, hc⟩ : ∃ c : Nat, A (176 + e) = (c : Int) := ⟨(A (176 + e)).toNat, by omega⟩
      have hb9 : (b : Int) < A 0 := by omega
      have hc9 : (c : Int) < A 0 := by omega
      have h12 : d < 12 := by omega
      have h12' : e < 12 := by omega
      have hbn : (A (176 + d)).toNat = b := by omega
      have hcn : (A (176 + e)).toNat = c := by omega
      have h9 : (A (176 + d)).toNat < 9 := by omega
      have h9' : (A (176 + e)).toNat < 9 := by omega
      rw [if_pos c1, if_pos c2, hb, hc, if_neg (by omega), if_neg (by omega)]
      simp (disch := omega) only [inR_pos, Int.toNat_natCast, VR4_blong hr hb9, VR4_blong hr hc9]
      by_cases c3 : A (6 + c) < A (29 + d)
      · have hwy : whySwap A d e = 2 := by simp [whySwap, c1, c2, hc, c3]
        simp only [c3, if_true, wp_some, hwy]
        exact ⟨trivial, by simpa using hs, only_rf _ _ _⟩
      · by_cases c4 : A (6 + b) < A (29 + e)
        · have hwy : whySwap A d e = 2 := by simp [whySwap, c1, c2, hb, hc, c3, c4]
          simp only [c3, c4, if_false, if_true, wp_some, hwy]
          exact ⟨trivial, by simpa using hs, only_rf _ _ _⟩
        · have hwy : whySwap A d e = 0 := by simp [whySwap, c1, c2, hb, hc, c3, c4]
          simp only [c3, c4, if_false, wp_some, hwy, if_true]
          refine ⟨trivial, ⟨?_, ?_, ?_, ?_, ?_⟩, ?_⟩
          · have := SR206_day hs
            simp only [wI_1, swaps_day h12 h12' h9 h9']; grind
          · intro i hi
            rw [swaps_lo h12 h12' h9 h9' (by omega)] at hi
            have q1 := hs.2.1 i hi
            rw [swaps_lent h12 h12' h9 h9' (by omega), swaps_lier h12 h12' h9 h9' (by omega), swaps_air h12 h12' h9 h9' (by omega), swaps_day h12 h12' h9 h9', hbn, hcn]
            have hne : d ≠ e → b ≠ c := by intro h1 h2; subst h2; rw [hbn] at g3; rw [hcn] at k3; omega
            simp only [wI_1]; grind
          · intro i hi
            rw [swaps_lo h12 h12' h9 h9' (by omega)] at hi
            have q1 := SR206_had hs hi
            rw [swaps_had h12 h12' h9 h9' (by omega)]
            simp only [wI_1]; grind
          · intro i hi
            rw [swaps_lo h12 h12' h9 h9' (by omega)] at hi
            have q1 := hs.2.2.2.1 i hi
            rw [swaps_lat h12 h12' h9 h9' (by omega), swaps_rest h12 h12' h9 h9' (by omega), swaps_laidm h12 h12' h9 h9' (by omega), swaps_day h12 h12' h9 h9']
            simp only [wI_1]; grind
          · intro i hi
            rw [swaps_lo h12 h12' h9 h9' (by omega)] at hi
            have q1 := hs.2.2.2.2 i hi
            rw [swaps_how h12 h12' h9 h9' (by omega), swaps_inb h12 h12' h9 h9' (by omega), swaps_inp h12 h12' h9 h9' (by omega), swaps_wait h12 h12' h9 h9' (by omega), swaps_lain h12 h12' h9 h9' (by omega)]
            simp only [wI_1]; grind
          · repeat' first | exact only_rf _ _ _ | refine only_w ?_ (by omega) (by omega)
    · have hwy : whySwap A d e = 1 := by simp [whySwap, c1, c2]
      rw [if_pos c1, if_neg c2]
      simp only [wp_some, hwy]
      exact ⟨trivial, by simpa using hs, only_rf _ _ _⟩
  · have hwy : whySwap A d e = 1 := by simp [whySwap, c1]
    rw [if_neg c1]
    simp only [wp_some, hwy]
    exact ⟨trivial, by simpa using hs, only_rf _ _ _⟩

theorem C_mend_206 {s : mS} {A : Row} (hs : SR s 206 A) (hv : WFv A) {b : Nat} (hb : (b : Int) < A 0) (m : Nat) :
    wp (f_St_mendIt_206 m (b : Int) s) (fun r s' => r = whyMend A b ∧ SR s' 206 (if r = 0 then mends A b else A) ∧ only s s' 206 219) := by
  have hn := WFv_boxes hv
  have hn2 := WFv_dead hv
  have hn1 := WFv_plots hv
  have h9 : b < 9 := by omega
  rw [f_St_mendIt_206_eq]
  simp (disch := omega) only [inR_pos, Int.toNat_natCast, SR206_lent hs hb, SR206_lier hs hb]
  by_cases c1 : A (86 + b) = 0
  · have hwy : whyMend A b = 1 := by simp [whyMend, c1]
    simp only [c1, if_true, wp_some, hwy]
    exact ⟨trivial, by simpa using hs, only_rf _ _ _⟩
  · by_cases c2 : A (95 + b) = -1
    · have hwy : whyMend A b = 0 := by simp [whyMend, c1, c2]
      simp only [c1, c2, if_true, if_false, wp_some, hwy]
      refine ⟨trivial, ⟨?_, ?_, ?_, ?_, ?_⟩, ?_⟩
      · have := SR206_day hs
        simp only [wI_1, mends_day h9]; grind
      · intro i hi
        rw [mends_lo h9 (by omega)] at hi
        have q1 := hs.2.1 i hi
        rw [mends_lent h9 (by omega), mends_lier h9 (by omega), mends_air h9 (by omega), mends_day h9]
        simp only [wI_1]; grind
      · intro i hi
        rw [mends_lo h9 (by omega)] at hi
        have q1 := SR206_had hs hi
        rw [mends_had h9 (by omega)]
        simp only [wI_1]; grind
      · intro i hi
        rw [mends_lo h9 (by omega)] at hi
        have q1 := hs.2.2.2.1 i hi
        rw [mends_lat h9 (by omega), mends_rest h9 (by omega), mends_laidm h9 (by omega), mends_day h9]
        simp only [wI_1]; grind
      · intro i hi
        rw [mends_lo h9 (by omega)] at hi
        have q1 := hs.2.2.2.2 i hi
        rw [mends_how h9 (by omega), mends_inb h9 (by omega), mends_inp h9 (by omega), mends_wait h9 (by omega), mends_lain h9 (by omega)]
        simp only [wI_1]; grind
      · repeat' first | exact only_rf _ _ _ | refine only_w ?_ (by omega) (by omega)
    · have hwy : whyMend A b = 2 := by simp [whyMend, c1, c2]
      simp only [c1, c2, if_false, wp_some, hwy]
      exact ⟨trivial, by simpa using hs, only_rf _ _ _⟩

