/-! ===== layer 3: what an act leaves ===== -/
theorem Inv_st {s s2 : mS} (h : Inv s) {A' : Row} (hw : WF A') (hA : s2.1 251 = A') (hlo : ∀ k, k < 85 → A' k = s.1 251 k) (hhi : ∀ k, 224 ≤ k → k < 466 → A' k = s.1 251 k) (hS : SR s2 17 A') (hP : pPast s2)
    (h1 : ∀ c, c < 249 → ¬ (17 ≤ c ∧ c < 30) → ¬ (206 ≤ c ∧ c < 219) → ¬ (100 ≤ c ∧ c < 206) → c ≠ 245 → s2.1 c = s.1 c) (h2 : s2.2 = s.2)
    (h3 : ∀ c, 249 < c → c < 270 → c ≠ 251 → c ≠ 254 → c ≠ 255 → c ≠ 256 → s2.1 c = s.1 c) (h4 : ∀ k, k ≠ 0 → k ≠ 25 → k ≠ 36 → s2.1 249 k = s.1 249 k) : Inv s2 := by
  obtain ⟨g1, g2, g3, g4, g5, g6, g7, g8, g9, g10⟩ := h
  obtain ⟨w1, w2, w3, w4, w5⟩ := g1
  refine ⟨?_, pTape_keep g2 (by rw [h1 1 (by omega) (by omega) (by omega) (by omega) (by omega)]) (h1 2 (by omega) (by omega) (by omega) (by omega) (by omega)) (h4 2 (by omega) (by omega) (by omega)) (h3 250 (by omega) (by omega) (by omega) (by omega) (by omega) (by omega)), ?_, ?_, ?_, ?_, ?_, ?_, ?_, hP⟩
  · rw [hA, h2]
    refine ⟨hw, ?_, hS, ?_, ?_⟩
    · exact VR_cg (VR_keep w2 (fun c a b => h1 c (by omega) (by omega) (by omega) (by omega) (by omega))) w1.1 hlo
    · exact VN_cg (VN_keep w4 (fun c _ _ => by rw [h2])) w1.1 hlo (fun _ _ => rfl)
    · exact QR_cg (QR_keep w5 (fun c a b => h1 c (by omega) (by omega) (by omega) (by omega) (by omega))) (hlo 0 (by omega)) (hlo 2 (by omega)) hhi
  · have e := h1 0 (by omega) (by omega) (by omega) (by omega) (by omega)
    exact pMisc_keep g3 (by rw [e]) (by rw [e]) (by rw [e]) (h4 _ (by omega) (by omega) (by omega)) (h4 _ (by omega) (by omega) (by omega)) (h4 _ (by omega) (by omega) (by omega))
  · have e := h1 0 (by omega) (by omega) (by omega) (by omega) (by omega)
    exact pRing_keep g4 (by rw [e]) (h4 _ (by omega) (by omega) (by omega)) (h1 246 (by omega) (by omega) (by omega) (by omega) (by omega)) (h3 264 (by omega) (by omega) (by omega) (by omega) (by omega) (by omega))
  · have e := h1 0 (by omega) (by omega) (by omega) (by omega) (by omega)
    exact pTag_keep g5 (by rw [e]) (h4 _ (by omega) (by omega) (by omega)) (h1 247 (by omega) (by omega) (by omega) (by omega) (by omega)) (h3 265 (by omega) (by omega) (by omega) (by omega) (by omega) (by omega))
  · have e := h1 0 (by omega) (by omega) (by omega) (by omega) (by omega)
    exact pTold_keep g6 (by rw [e]) (h4 _ (by omega) (by omega) (by omega)) (h1 248 (by omega) (by omega) (by omega) (by omega) (by omega)) (h3 267 (by omega) (by omega) (by omega) (by omega) (by omega) (by omega))
  · exact pMatch_keep g7 (h4 _ (by omega) (by omega) (by omega)) (h1 242 (by omega) (by omega) (by omega) (by omega) (by omega)) (h3 262 (by omega) (by omega) (by omega) (by omega) (by omega) (by omega))
  · exact pImg_keep g8 (fun c a b => h1 c (by omega) (by omega) (by omega) (by omega) (by omega)) (fun c _ _ => by rw [h2]) (h3 253 (by omega) (by omega) (by omega) (by omega) (by omega) (by omega)) (by rw [h2]) (h3 260 (by omega) (by omega) (by omega) (by omega) (by omega) (by omega))
  · exact pImg_keep g9 (fun c a b => h1 c (by omega) (by omega) (by omega) (by omega) (by omega)) (fun c _ _ => by rw [h2]) (h3 253 (by omega) (by omega) (by omega) (by omega) (by omega) (by omega)) (by rw [h2]) (h3 260 (by omega) (by omega) (by omega) (by omega) (by omega) (by omega))
theorem pastRow_at (s : mS) (i k : Nat) : pastRow s i k = if 85 ≤ k ∧ k < 224 then s.1 254 (139 * i + (k - 85)) else s.1 251 k := rfl
/-- what was ahead of an act is kept: the ninth gives up the oldest -/
theorem Past_push {s s2 : mS} (h : pPast s) {A : Row} (hA : s.1 251 = A) (hw : WF A) {f k : Nat} (hf : s.1 100 1 = (f : Int)) (hk : s.1 100 2 = (k : Int))
    (hlo : ∀ q, q < 85 → s2.1 251 q = A q)
    (hsn : s2.1 254 = if s.1 249 25 = 8 then rowPut (shiftR (s.1 254) 0) 973 A 85 139 else rowPut (s.1 254) (139 * (s.1 249 25).toNat) A 85 139)
    (hm : s2.1 249 25 = min 8 (s.1 249 25 + 1))
    (hp : s2.1 100 1 = (if k < 8 then (f : Int) else (((f + 1) % 8 : Nat) : Int)) ∧ s2.1 100 2 = if k < 8 then (k : Int) + 1 else (k : Int))
    (hS : SR s2 (102 + 13 * ((f + k) % 8)) A) (hk2 : ∀ c, 102 ≤ c → c < 206 → ¬ (102 + 13 * ((f + k) % 8) ≤ c ∧ c < 102 + 13 * ((f + k) % 8) + 13) → s2.1 c = s.1 c) : pPast s2 := by
  obtain ⟨a1, a2, a3, a4, a5, a6⟩ := h
  have ek : s.1 249 25 = (k : Int) := by rw [← a1]; exact hk
  have hk8 : k ≤ 8 := by omega
  have hf8 : f < 8 := by omega
  rw [ek] at hsn hm a6
  rw [hf] at a6
  simp only [Int.toNat_natCast] at hsn a6
  have hlm : (f + k) % 8 < 8 := Nat.mod_lt _ (by decide)
  by_cases c : k < 8
  · rw [if_pos c, if_pos c] at hp
    rw [if_neg (by omega)] at hsn
    have hm' : s2.1 249 25 = (k : Int) + 1 := by omega
    unfold pPast
    rw [hp.1, hp.2, hm']
    refine ⟨rfl, by omega, by omega, by omega, by omega, fun i hi => ?_⟩
    simp only [Int.toNat_natCast]
    by_cases hik : i = k
    · subst hik
      have e : ∀ q, q < 224 → pastRow s2 i q = A q := by
        intro q hq
        rw [pastRow_at]
        by_cases c2 : 85 ≤ q ∧ q < 224
        · rw [if_pos c2, hsn]; unfold rowPut; rw [if_pos (by omega), show 85 + (139 * i + (q - 85) - 139 * i) = q from by omega]
        · rw [if_neg c2, hlo q (by omega)]
      exact ⟨WF_cg hw e, SR_cg hS hw.1 e⟩
    · have hik2 : i < k := by omega
      have e : ∀ q, q < 224 → pastRow s2 i q = pastRow s i q := by
        intro q hq
        rw [pastRow_at, pastRow_at]
        by_cases c2 : 85 ≤ q ∧ q < 224
        · rw [if_pos c2, if_pos c2, hsn]; unfold rowPut; rw [if_neg (by omega)]
        · rw [if_neg c2, if_neg c2, hlo q (by omega), hA]
      have g := a6 i (by omega)
      refine ⟨WF_cg g.1 e, SR_cg (SR_keep g.2 (fun c x y => hk2 c ?_ ?_ ?_)) g.1.1 e⟩
      · omega
      · have : (f + i) % 8 < 8 := Nat.mod_lt _ (by decide)
        omega
      · omega
  · rw [if_neg c, if_neg c] at hp
    have hk' : k = 8 := by omega
    subst hk'
    rw [if_pos (by omega)] at hsn
    have hm' : s2.1 249 25 = 8 := by omega
    have hf' : (f + 8) % 8 = f := by omega
    rw [hf'] at hS hk2
    unfold pPast
    rw [hp.1, hp.2, hm']
    refine ⟨rfl, by omega, by omega, by omega, by omega, fun i hi => ?_⟩
    simp only [Int.toNat_natCast]
    by_cases hik : i = 7
    · subst hik
      have e : ∀ q, q < 224 → pastRow s2 7 q = A q := by
        intro q hq
        rw [pastRow_at]
        by_cases c2 : 85 ≤ q ∧ q < 224
        · rw [if_pos c2, hsn]; unfold rowPut; rw [if_pos (by omega), show 85 + (139 * 7 + (q - 85) - 973) = q from by omega]
        · rw [if_neg c2, hlo q (by omega)]
      have ei : ((f + 1) % 8 + 7) % 8 = f := by omega
      rw [ei]
      exact ⟨WF_cg hw e, SR_cg hS hw.1 e⟩
    · have e : ∀ q, q < 224 → pastRow s2 i q = pastRow s (i + 1) q := by
        intro q hq
        rw [pastRow_at, pastRow_at]
        by_cases c2 : 85 ≤ q ∧ q < 224
        · rw [if_pos c2, if_pos c2, hsn]; unfold rowPut; rw [if_neg (by omega)]; unfold shiftR; rw [if_pos (by omega), show 139 * i + (q - 85) + 139 = 139 * (i + 1) + (q - 85) from by omega]
        · rw [if_neg c2, if_neg c2, hlo q (by omega), hA]
      have g := a6 (i + 1) (by omega)
      have ei : ((f + 1) % 8 + i) % 8 = (f + (i + 1)) % 8 := by omega
      rw [ei]
      refine ⟨WF_cg g.1 e, SR_cg (SR_keep g.2 (fun c x y => hk2 c ?_ ?_ ?_)) g.1.1 e⟩
      · omega
      · have : (f + (i + 1)) % 8 < 8 := Nat.mod_lt _ (by decide)
        omega
      · omega
