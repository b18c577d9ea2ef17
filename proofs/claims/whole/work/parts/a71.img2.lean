/-! ===== written by gen_a71.py: image, restore (2) ===== -/
def sj (s : mS) (c : Nat) (f : Row) : mS := (s.1, fun a j => if a = c then f j else s.2 a j)
theorem sj_1 (s : mS) (c : Nat) (f : Row) : (sj s c f).1 = s.1 := rfl
theorem sj_eq (s : mS) (c : Nat) (f : Row) : (sj s c f).2 c = f := by unfold sj; funext j; simp
theorem sj_ne (s : mS) (c : Nat) (f : Row) {a : Nat} (h : a ≠ c) : (sj s c f).2 a = s.2 a := by unfold sj; funext j; simp [h]
theorem sj_ext {s : mS} {c : Nat} {f g : Row} (h : ∀ k, f k = g k) : sj s c f = sj s c g := by rw [funext h]
theorem sj_self (s : mS) (c : Nat) : sj s c (s.2 c) = s := by
  unfold sj
  have : (fun a j => if a = c then s.2 c j else s.2 a j) = s.2 := by
    funext a j; by_cases h : a = c
    · subst h; simp
    · simp [h]
  rw [this]
theorem w_sj (s : mS) (c : Nat) (f : Row) (k : Nat) (v : Int) : wJ (sj s c f) c k v = sj s c (up f k v) := by
  unfold wJ sj u2 up
  congr 1
  funext a j
  by_cases h : a = c
  · subst h; by_cases h2 : j = k <;> simp [h2]
  · simp [h]
theorem R_imgA {s : mS} {m : Nat} {q : Nat} (hq : q < 2) : ∀ (k n i : Nat) (C : Row), i + k = 466 → k < n →
    l_R_image_L18 m n (q : Int) (i : Int) (sr s 253 C) = l_R_image_L51 m (n - (k + 1)) (q : Int) 0 (sr s 253 (rowPut C (466 * q + i) (s.1 251) i k)) := by
  intro k
  induction k with
  | zero =>
    intro n i C hi hkn
    obtain ⟨n, rfl⟩ : ∃ n', n = n' + 1 := ⟨n - 1, by omega⟩
    rw [l_R_image_L18_eq, if_neg (by omega), sr_ext (rowPut_zero C (466 * q + i) (s.1 251) i)]; rfl
  | succ k ih =>
    intro n i C hi hkn
    obtain ⟨n, rfl⟩ : ∃ n', n = n' + 1 := ⟨n - 1, by omega⟩
    have e0 : w32 (466 * (q : Int)) = ((466 * q : Nat) : Int) := by rw [w32_in (by omega) (by omega)]; omega
    have e2 : w32 (((466 * q : Nat) : Int) + (i : Int)) = ((466 * q + i : Nat) : Int) := by clear e0; rw [w32_in (by omega) (by omega)]; omega
    have i1 : ((466 * q + i : Nat) : Int) < ((932 : Nat) : Int) := by clear e0 e2; omega
    have i2 : (0 : Int) ≤ ((466 * q + i : Nat) : Int) := by clear e0 e2; omega
    have i3 : (0 : Int) ≤ (i : Int) := by clear e0 e2; omega
    have i4 : (i : Int) < ((466 : Nat) : Int) := by clear e0 e2; omega
    have i5 : (i : Int) < 466 := by clear e0 e2; omega
    have en : n + 1 - (k + 1 + 1) = n - (k + 1) := by clear e0 e2; omega
    have i6 : i < 100000 := by clear e0 e2; omega
    have i7 : i + 1 + k = 466 := by clear e0 e2; omega
    have i8 : k < n := by clear e0 e2; omega
    rw [en, l_R_image_L18_eq, if_pos i5, e0, e2, inR_pos i3 i4, inR_pos i2 i1, Int.toNat_natCast, Int.toNat_natCast, sr_ne s 253 C (by decide : 251 ≠ 253), w_sr, s1w i i6, ih n (i + 1) _ i7 i8]
    have ea : 466 * q + (i + 1) = 466 * q + i + 1 := by clear e0 e2; omega
    rw [ea, sr_ext (rowPut_step C (s.1 251) (466 * q + i) i k)]
theorem R_imgB {s : mS} {m : Nat} {q : Nat} (hq : q < 2) : ∀ (k n i : Nat) (C : Row), i + k = 26 → k < n →
    l_R_image_L51 m n (q : Int) (i : Int) (sj s 259 C) = some (1, wI (sj s 259 (rowPut C (26 * q + i) (s.2 257) i k)) 260 q 1) := by
  intro k
  induction k with
  | zero =>
    intro n i C hi hkn
    obtain ⟨n, rfl⟩ : ∃ n', n = n' + 1 := ⟨n - 1, by omega⟩
    rw [l_R_image_L51_eq, if_neg (by omega), inR_pos (by omega) (by omega), Int.toNat_natCast, sj_ext (rowPut_zero C (26 * q + i) (s.2 257) i)]
  | succ k ih =>
    intro n i C hi hkn
    obtain ⟨n, rfl⟩ : ∃ n', n = n' + 1 := ⟨n - 1, by omega⟩
    have e0 : w32 (26 * (q : Int)) = ((26 * q : Nat) : Int) := by rw [w32_in (by omega) (by omega)]; omega
    have e2 : w32 (((26 * q : Nat) : Int) + (i : Int)) = ((26 * q + i : Nat) : Int) := by clear e0; rw [w32_in (by omega) (by omega)]; omega
    have i1 : ((26 * q + i : Nat) : Int) < ((52 : Nat) : Int) := by clear e0 e2; omega
    have i2 : (0 : Int) ≤ ((26 * q + i : Nat) : Int) := by clear e0 e2; omega
    have i3 : (0 : Int) ≤ (i : Int) := by clear e0 e2; omega
    have i4 : (i : Int) < ((26 : Nat) : Int) := by clear e0 e2; omega
    have i5 : (i : Int) < 26 := by clear e0 e2; omega
    have i6 : i < 100000 := by clear e0 e2; omega
    have i7 : i + 1 + k = 26 := by clear e0 e2; omega
    have i8 : k < n := by clear e0 e2; omega
    rw [l_R_image_L51_eq, if_pos i5, e0, e2, inR_pos i3 i4, inR_pos i2 i1, Int.toNat_natCast, Int.toNat_natCast, sj_ne s 259 C (by decide : 257 ≠ 259), w_sj, s1w i i6, ih n (i + 1) _ i7 i8]
    have ea : 26 * q + (i + 1) = 26 * q + i + 1 := by clear e0 e2; omega
    rw [ea, sj_ext (rowPut_step C (s.2 257) (26 * q + i) i k)]
theorem R_img {s : mS} {m : Nat} (hm : 10000 ≤ m) {q : Nat} (hq : q < 2) : f_R_image m (q : Int) s = some (1, wI (sj (sr (wI s 249 0 0) 253 (rowPut (s.1 253) (466 * q) (s.1 251) 0 466)) 259 (rowPut (s.2 259) (26 * q) (s.2 257) 0 26)) 260 q 1) := by
  have n1 : ¬ (1 : Int) = 0 := by decide
  have a := R_imgA (s := wI s 249 0 0) (m := m) hq 466 m 0 ((wI s 249 0 0).1 253) (by omega) (by omega)
  rw [sr_self, show ((0 : Nat) : Int) = 0 from rfl, show 466 * q + 0 = 466 * q from rfl, wI_ne (by decide : 253 ≠ 249), wI_ne (by decide : 251 ≠ 249)] at a
  have b := R_imgB (s := sr (wI s 249 0 0) 253 (rowPut (s.1 253) (466 * q) (s.1 251) 0 466)) (m := m) hq 26 (m - (466 + 1)) 0 ((sr (wI s 249 0 0) 253 (rowPut (s.1 253) (466 * q) (s.1 251) 0 466)).2 259) (by omega) (by omega)
  rw [sj_self, show ((0 : Nat) : Int) = 0 from rfl, show 26 * q + 0 = 26 * q from rfl] at b
  rw [f_R_image_eq, R_isIn, if_pos (show (0 : Int) ≤ (q : Int) ∧ (q : Int) ≤ 1 from ⟨by omega, by omega⟩), Option.bind_some]
  simp only [n1, if_false]
  rw [a, b]; rfl
theorem R_resA {s : mS} {m : Nat} {q : Nat} (hq : q < 2) : ∀ (k n i : Nat) (C : Row), i + k = 466 → k < n →
    l_R_restore_L27 m n (q : Int) (i : Int) (sr s 251 C) = l_R_restore_L60 m (n - (k + 1)) (q : Int) 0 (sr s 251 (rowPut C i (s.1 253) (466 * q + i) k)) := by
  intro k
  induction k with
  | zero =>
    intro n i C hi hkn
    obtain ⟨n, rfl⟩ : ∃ n', n = n' + 1 := ⟨n - 1, by omega⟩
    rw [l_R_restore_L27_eq, if_neg (by omega), sr_ext (rowPut_zero C i (s.1 253) (466 * q + i))]; rfl
  | succ k ih =>
    intro n i C hi hkn
    obtain ⟨n, rfl⟩ : ∃ n', n = n' + 1 := ⟨n - 1, by omega⟩
    have e0 : w32 (466 * (q : Int)) = ((466 * q : Nat) : Int) := by rw [w32_in (by omega) (by omega)]; omega
    have e2 : w32 (((466 * q : Nat) : Int) + (i : Int)) = ((466 * q + i : Nat) : Int) := by clear e0; rw [w32_in (by omega) (by omega)]; omega
    have i1 : ((466 * q + i : Nat) : Int) < ((932 : Nat) : Int) := by clear e0 e2; omega
    have i2 : (0 : Int) ≤ ((466 * q + i : Nat) : Int) := by clear e0 e2; omega
    have i3 : (0 : Int) ≤ (i : Int) := by clear e0 e2; omega
    have i4 : (i : Int) < ((466 : Nat) : Int) := by clear e0 e2; omega
    have i5 : (i : Int) < 466 := by clear e0 e2; omega
    have en : n + 1 - (k + 1 + 1) = n - (k + 1) := by clear e0 e2; omega
    have i6 : i < 100000 := by clear e0 e2; omega
    have i7 : i + 1 + k = 466 := by clear e0 e2; omega
    have i8 : k < n := by clear e0 e2; omega
    rw [en, l_R_restore_L27_eq, if_pos i5, e0, e2, inR_pos i2 i1, inR_pos i3 i4, Int.toNat_natCast, Int.toNat_natCast, sr_ne s 251 C (by decide : 253 ≠ 251), w_sr, s1w i i6, ih n (i + 1) _ i7 i8]
    have ea : 466 * q + (i + 1) = 466 * q + i + 1 := by clear e0 e2; omega
    rw [ea, sr_ext (rowPut_step C (s.1 253) i (466 * q + i) k)]
theorem R_resB {s : mS} {m : Nat} {q : Nat} (hq : q < 2) : ∀ (k n i : Nat) (C : Row), i + k = 26 → k < n →
    l_R_restore_L60 m n (q : Int) (i : Int) (sj s 257 C) = some (1, wI (sj s 257 (rowPut C i (s.2 259) (26 * q + i) k)) 249 25 0) := by
  intro k
  induction k with
  | zero =>
    intro n i C hi hkn
    obtain ⟨n, rfl⟩ : ∃ n', n = n' + 1 := ⟨n - 1, by omega⟩
    rw [l_R_restore_L60_eq, if_neg (by omega), sj_ext (rowPut_zero C i (s.2 259) (26 * q + i))]
  | succ k ih =>
    intro n i C hi hkn
    obtain ⟨n, rfl⟩ : ∃ n', n = n' + 1 := ⟨n - 1, by omega⟩
    have e0 : w32 (26 * (q : Int)) = ((26 * q : Nat) : Int) := by rw [w32_in (by omega) (by omega)]; omega
    have e2 : w32 (((26 * q : Nat) : Int) + (i : Int)) = ((26 * q + i : Nat) : Int) := by clear e0; rw [w32_in (by omega) (by omega)]; omega
    have i1 : ((26 * q + i : Nat) : Int) < ((52 : Nat) : Int) := by clear e0 e2; omega
    have i2 : (0 : Int) ≤ ((26 * q + i : Nat) : Int) := by clear e0 e2; omega
    have i3 : (0 : Int) ≤ (i : Int) := by clear e0 e2; omega
    have i4 : (i : Int) < ((26 : Nat) : Int) := by clear e0 e2; omega
    have i5 : (i : Int) < 26 := by clear e0 e2; omega
    have i6 : i < 100000 := by clear e0 e2; omega
    have i7 : i + 1 + k = 26 := by clear e0 e2; omega
    have i8 : k < n := by clear e0 e2; omega
    rw [l_R_restore_L60_eq, if_pos i5, e0, e2, inR_pos i2 i1, inR_pos i3 i4, Int.toNat_natCast, Int.toNat_natCast, sj_ne s 257 C (by decide : 259 ≠ 257), w_sj, s1w i i6, ih n (i + 1) _ i7 i8]
    have ea : 26 * q + (i + 1) = 26 * q + i + 1 := by clear e0 e2; omega
    rw [ea, sj_ext (rowPut_step C (s.2 259) i (26 * q + i) k)]
theorem R_res {s : mS} {m : Nat} (hm : 10000 ≤ m) {q : Nat} (hq : q < 2) (hk : s.1 260 q = 1) : f_R_restore m (q : Int) s = some (1, wI (sj (sr (wI s 249 0 0) 251 (rowPut (s.1 251) 0 (s.1 253) (466 * q) 466)) 257 (rowPut (s.2 257) 0 (s.2 259) (26 * q) 26)) 249 25 0) := by
  have n1 : ¬ (1 : Int) = 0 := by decide
  have a := R_resA (s := wI s 249 0 0) (m := m) hq 466 m 0 ((wI s 249 0 0).1 251) (by omega) (by omega)
  rw [sr_self, show ((0 : Nat) : Int) = 0 from rfl, show 466 * q + 0 = 466 * q from rfl, wI_ne (by decide : 253 ≠ 249), wI_ne (by decide : 251 ≠ 249)] at a
  have b := R_resB (s := sr (wI s 249 0 0) 251 (rowPut (s.1 251) 0 (s.1 253) (466 * q) 466)) (m := m) hq 26 (m - (466 + 1)) 0 ((sr (wI s 249 0 0) 251 (rowPut (s.1 251) 0 (s.1 253) (466 * q) 466)).2 257) (by omega) (by omega)
  rw [sj_self, show ((0 : Nat) : Int) = 0 from rfl, show 26 * q + 0 = 26 * q from rfl] at b
  rw [f_R_restore_eq, R_isIn, if_pos (show (0 : Int) ≤ (q : Int) ∧ (q : Int) ≤ 1 from ⟨by omega, by omega⟩), Option.bind_some]
  simp only [n1, if_false]
  rw [inR_pos (by omega) (by omega), Int.toNat_natCast, wI_ne (by decide), hk, if_neg n1, a, b]; rfl
theorem R0_35 : R0f 35 0 = some 36 ∧ R0f 35 1 = some 68 := by decide +kernel
theorem C_img0 {s : mS} {m : Nat} (hm : 10 ≤ m) (h : s.1 4 6 = 0 ∨ s.1 4 6 = 1) : f_X_image m 0 s = some (1, wI (cpW s 37 4 50 17 63 30) 36 3 1) := by
  obtain ⟨n, rfl⟩ : ∃ n, m = n + 1 + 1 := ⟨m - 2, by omega⟩
  have e : (0 : Int).toNat = 0 := rfl
  rw [f_X_image_eq, if_neg (by decide), if_pos (by decide), inR_pos (by decide) (by decide), e, R0_35.1, l_X_image_L17_eq0, cpW_36_3 _ h, Option.bind_some, inR_pos (by decide) (by decide), e, R0_35.1, l_X_image_L30_eq0]
theorem S_img0 {m : Nat} (hm : 10000 ≤ m) : Sim (f_X_image m 0) (f_R_image m 0) := by
  intro s h
  have hb := VR4_bool h.1.2.1
  have r := R_img (s := wI (cpW s 37 4 50 17 63 30) 36 3 1) hm (q := 0) (by decide)
  have c1 : ∀ c, ¬ (36 ≤ c ∧ c < 36 + 31) → (wI (cpW s 37 4 50 17 63 30) 36 3 1).1 c = s.1 c := fun c hc => by rw [wI_ne (by omega), cpW_36_3_1 s (by omega)]
  have c2 : ∀ c, ¬ (36 ≤ c ∧ c < 36 + 31) → (wI (cpW s 37 4 50 17 63 30) 36 3 1).2 c = s.2 c := fun c hc => by rw [wI_2, cpW_36_3_2 s (by omega)]
  have cw : World (wI (cpW s 37 4 50 17 63 30) 36 3 1) 37 50 63 (s.1 251) (s.2 257) := World_keep (cpW_36_3_W h.1) (fun c _ _ => wI_ne (by omega)) (fun c _ _ => rfl) (fun c _ _ => wI_ne (by omega)) (fun c _ _ => wI_ne (by omega))
  have ck : (wI (cpW s 37 4 50 17 63 30) 36 3 1).1 36 3 = 1 := wI_at
  have hX := C_img0 (s := s) (m := m) (by omega) hb
  generalize wI (cpW s 37 4 50 17 63 30) 36 3 1 = s1 at hX r c1 c2 cw ck
  refine ⟨1, s1, _, hX, r, ?_⟩
  rw [c1 253 (by omega), c1 251 (by omega), c2 259 (by omega), c2 257 (by omega)]
  generalize hs2 : wI (sj (sr (wI s1 249 0 0) 253 (rowPut (s.1 253) (466 * 0) (s.1 251) 0 466)) 259 (rowPut (s.2 259) (26 * 0) (s.2 257) 0 26)) 260 0 1 = s2
  have e1 : ∀ c, c ≠ 249 → c ≠ 253 → c ≠ 260 → s2.1 c = s1.1 c := fun c x y z => by rw [← hs2, wI_ne z, sj_1, sr_ne _ _ _ y, wI_ne x]
  have e2 : ∀ c, c ≠ 259 → s2.2 c = s1.2 c := fun c x => by rw [← hs2, wI_2, sj_ne _ _ _ x]; rfl
  have e3 : s2.1 253 = rowPut (s.1 253) (466 * 0) (s.1 251) 0 466 := by rw [← hs2, wI_ne (by decide), sj_1, sr_eq]
  have e4 : s2.2 259 = rowPut (s.2 259) (26 * 0) (s.2 257) 0 26 := by rw [← hs2, wI_2, sj_eq]
  have e5 : s2.1 260 0 = 1 := by rw [← hs2, wI_at]
  have e6 : s2.1 260 1 = s.1 260 1 := by rw [← hs2, wI_f (by decide), sj_1, sr_ne _ _ _ (by decide), wI_ne (by decide), c1 260 (by omega)]
  have e7 : ∀ k, k ≠ 0 → s2.1 249 k = s.1 249 k := fun k hk => by rw [← hs2, wI_ne (by decide), sj_1, sr_ne _ _ _ (by decide), wI_f hk, c1 249 (by omega)]
  have g : ∀ c, ¬ (36 ≤ c ∧ c < 36 + 31) → c ≠ 249 → c ≠ 253 → c ≠ 260 → s2.1 c = s.1 c := fun c x y z w => by rw [e1 c y z w, c1 c x]
  have gj : ∀ c, ¬ (36 ≤ c ∧ c < 36 + 31) → c ≠ 259 → s2.2 c = s.2 c := fun c x y => by rw [e2 c y, c2 c x]
  obtain ⟨g1, g2, g3, g4, g5, g6, g7, g8, g9, g10⟩ := h
  have mine : pImg s2 0 36 := by
    refine ⟨by rw [e1 36 (by decide) (by decide) (by decide), ck, e5], Or.inr ⟨e5, ?_⟩⟩
    refine World_cg (World_keep cw (fun c _ _ => e1 c (by omega) (by omega) (by omega)) (fun c _ _ => e2 c (by omega)) (fun c _ _ => e1 c (by omega) (by omega) (by omega)) (fun c _ _ => e1 c (by omega) (by omega) (by omega))) (fun q hq => ?_) (fun q hq => ?_)
    · unfold imgRow; rw [e3]; unfold rowPut; rw [if_pos (by omega), show 0 + (466 * 0 + q - 466 * 0) = q from by omega]
    · unfold imgNames; rw [e4]; unfold rowPut; rw [if_pos (by omega), show 0 + (26 * 0 + q - 26 * 0) = q from by omega]
  have other : pImg s2 1 68 := by
    have old := g9
    have er : ∀ q, q < 466 → imgRow s2 1 q = imgRow s 1 q := by intro q hq; unfold imgRow; rw [e3]; unfold rowPut; rw [if_neg (by omega)]
    have en : ∀ q, q < 26 → imgNames s2 1 q = imgNames s 1 q := by intro q hq; unfold imgNames; rw [e4]; unfold rowPut; rw [if_neg (by omega)]
    refine ⟨by rw [g 68 (by omega) (by decide) (by decide) (by decide), e6]; exact old.1, ?_⟩
    rw [e6]
    rcases old.2 with q | ⟨q1, q2⟩
    · exact Or.inl q
    · exact Or.inr ⟨q1, World_cg (World_keep q2 (fun c _ _ => g c (by omega) (by omega) (by omega) (by omega)) (fun c _ _ => gj c (by omega) (by omega)) (fun c _ _ => g c (by omega) (by omega) (by omega) (by omega)) (fun c _ _ => g c (by omega) (by omega) (by omega) (by omega))) er en⟩
  refine ⟨?_, pTape_keep g2 (by rw [g 1 (by omega) (by omega) (by omega) (by omega)]) (g _ (by omega) (by omega) (by omega) (by omega)) (e7 _ (by omega)) (g _ (by omega) (by omega) (by omega) (by omega)), pMisc_keep g3 (by rw [g 0 (by omega) (by omega) (by omega) (by omega)]) (by rw [g 0 (by omega) (by omega) (by omega) (by omega)]) (by rw [g 0 (by omega) (by omega) (by omega) (by omega)]) (e7 _ (by omega)) (e7 _ (by omega)) (e7 _ (by omega)), pRing_keep g4 (by rw [g 0 (by omega) (by omega) (by omega) (by omega)]) (e7 _ (by omega)) (g _ (by omega) (by omega) (by omega) (by omega)) (g _ (by omega) (by omega) (by omega) (by omega)), pTag_keep g5 (by rw [g 0 (by omega) (by omega) (by omega) (by omega)]) (e7 _ (by omega)) (g _ (by omega) (by omega) (by omega) (by omega)) (g _ (by omega) (by omega) (by omega) (by omega)), pTold_keep g6 (by rw [g 0 (by omega) (by omega) (by omega) (by omega)]) (e7 _ (by omega)) (g _ (by omega) (by omega) (by omega) (by omega)) (g _ (by omega) (by omega) (by omega) (by omega)), pMatch_keep g7 (e7 _ (by omega)) (g _ (by omega) (by omega) (by omega) (by omega)) (g _ (by omega) (by omega) (by omega) (by omega)), mine, other, pPast_keep g10 (g _ (by omega) (by omega) (by omega) (by omega)) (e7 _ (by omega)) (fun i _ k _ => by rw [pastRow_keep (s := s) (s' := s2) (g _ (by omega) (by omega) (by omega) (by omega)) (g _ (by omega) (by omega) (by omega) (by omega))]) (fun c _ _ => g c (by omega) (by omega) (by omega) (by omega))⟩
  rw [g 251 (by omega) (by omega) (by omega) (by omega), gj 257 (by omega) (by omega)]
  exact World_keep g1 (fun c _ _ => g c (by omega) (by omega) (by omega) (by omega)) (fun c _ _ => gj c (by omega) (by omega)) (fun c _ _ => g c (by omega) (by omega) (by omega) (by omega)) (fun c _ _ => g c (by omega) (by omega) (by omega) (by omega))
theorem C_img1 {s : mS} {m : Nat} (hm : 10 ≤ m) (h : s.1 4 6 = 0 ∨ s.1 4 6 = 1) : f_X_image m 1 s = some (1, wI (cpW s 69 4 82 17 95 30) 68 3 1) := by
  obtain ⟨n, rfl⟩ : ∃ n, m = n + 1 + 1 := ⟨m - 2, by omega⟩
  have e : (1 : Int).toNat = 1 := rfl
  rw [f_X_image_eq, if_neg (by decide), if_pos (by decide), inR_pos (by decide) (by decide), e, R0_35.2, l_X_image_L17_eq1, cpW_68_3 _ h, Option.bind_some, inR_pos (by decide) (by decide), e, R0_35.2, l_X_image_L30_eq1]
theorem S_img1 {m : Nat} (hm : 10000 ≤ m) : Sim (f_X_image m 1) (f_R_image m 1) := by
  intro s h
  have hb := VR4_bool h.1.2.1
  have r := R_img (s := wI (cpW s 69 4 82 17 95 30) 68 3 1) hm (q := 1) (by decide)
  have c1 : ∀ c, ¬ (68 ≤ c ∧ c < 68 + 31) → (wI (cpW s 69 4 82 17 95 30) 68 3 1).1 c = s.1 c := fun c hc => by rw [wI_ne (by omega), cpW_68_3_1 s (by omega)]
  have c2 : ∀ c, ¬ (68 ≤ c ∧ c < 68 + 31) → (wI (cpW s 69 4 82 17 95 30) 68 3 1).2 c = s.2 c := fun c hc => by rw [wI_2, cpW_68_3_2 s (by omega)]
  have cw : World (wI (cpW s 69 4 82 17 95 30) 68 3 1) 69 82 95 (s.1 251) (s.2 257) := World_keep (cpW_68_3_W h.1) (fun c _ _ => wI_ne (by omega)) (fun c _ _ => rfl) (fun c _ _ => wI_ne (by omega)) (fun c _ _ => wI_ne (by omega))
  have ck : (wI (cpW s 69 4 82 17 95 30) 68 3 1).1 68 3 = 1 := wI_at
  have hX := C_img1 (s := s) (m := m) (by omega) hb
  generalize wI (cpW s 69 4 82 17 95 30) 68 3 1 = s1 at hX r c1 c2 cw ck
  refine ⟨1, s1, _, hX, r, ?_⟩
  rw [c1 253 (by omega), c1 251 (by omega), c2 259 (by omega), c2 257 (by omega)]
  generalize hs2 : wI (sj (sr (wI s1 249 0 0) 253 (rowPut (s.1 253) (466 * 1) (s.1 251) 0 466)) 259 (rowPut (s.2 259) (26 * 1) (s.2 257) 0 26)) 260 1 1 = s2
  have e1 : ∀ c, c ≠ 249 → c ≠ 253 → c ≠ 260 → s2.1 c = s1.1 c := fun c x y z => by rw [← hs2, wI_ne z, sj_1, sr_ne _ _ _ y, wI_ne x]
  have e2 : ∀ c, c ≠ 259 → s2.2 c = s1.2 c := fun c x => by rw [← hs2, wI_2, sj_ne _ _ _ x]; rfl
  have e3 : s2.1 253 = rowPut (s.1 253) (466 * 1) (s.1 251) 0 466 := by rw [← hs2, wI_ne (by decide), sj_1, sr_eq]
  have e4 : s2.2 259 = rowPut (s.2 259) (26 * 1) (s.2 257) 0 26 := by rw [← hs2, wI_2, sj_eq]
  have e5 : s2.1 260 1 = 1 := by rw [← hs2, wI_at]
  have e6 : s2.1 260 0 = s.1 260 0 := by rw [← hs2, wI_f (by decide), sj_1, sr_ne _ _ _ (by decide), wI_ne (by decide), c1 260 (by omega)]
  have e7 : ∀ k, k ≠ 0 → s2.1 249 k = s.1 249 k := fun k hk => by rw [← hs2, wI_ne (by decide), sj_1, sr_ne _ _ _ (by decide), wI_f hk, c1 249 (by omega)]
  have g : ∀ c, ¬ (68 ≤ c ∧ c < 68 + 31) → c ≠ 249 → c ≠ 253 → c ≠ 260 → s2.1 c = s.1 c := fun c x y z w => by rw [e1 c y z w, c1 c x]
  have gj : ∀ c, ¬ (68 ≤ c ∧ c < 68 + 31) → c ≠ 259 → s2.2 c = s.2 c := fun c x y => by rw [e2 c y, c2 c x]
  obtain ⟨g1, g2, g3, g4, g5, g6, g7, g8, g9, g10⟩ := h
  have mine : pImg s2 1 68 := by
    refine ⟨by rw [e1 68 (by decide) (by decide) (by decide), ck, e5], Or.inr ⟨e5, ?_⟩⟩
    refine World_cg (World_keep cw (fun c _ _ => e1 c (by omega) (by omega) (by omega)) (fun c _ _ => e2 c (by omega)) (fun c _ _ => e1 c (by omega) (by omega) (by omega)) (fun c _ _ => e1 c (by omega) (by omega) (by omega))) (fun q hq => ?_) (fun q hq => ?_)
    · unfold imgRow; rw [e3]; unfold rowPut; rw [if_pos (by omega), show 0 + (466 * 1 + q - 466 * 1) = q from by omega]
    · unfold imgNames; rw [e4]; unfold rowPut; rw [if_pos (by omega), show 0 + (26 * 1 + q - 26 * 1) = q from by omega]
  have other : pImg s2 0 36 := by
    have old := g8
    have er : ∀ q, q < 466 → imgRow s2 0 q = imgRow s 0 q := by intro q hq; unfold imgRow; rw [e3]; unfold rowPut; rw [if_neg (by omega)]
    have en : ∀ q, q < 26 → imgNames s2 0 q = imgNames s 0 q := by intro q hq; unfold imgNames; rw [e4]; unfold rowPut; rw [if_neg (by omega)]
    refine ⟨by rw [g 36 (by omega) (by decide) (by decide) (by decide), e6]; exact old.1, ?_⟩
    rw [e6]
    rcases old.2 with q | ⟨q1, q2⟩
    · exact Or.inl q
    · exact Or.inr ⟨q1, World_cg (World_keep q2 (fun c _ _ => g c (by omega) (by omega) (by omega) (by omega)) (fun c _ _ => gj c (by omega) (by omega)) (fun c _ _ => g c (by omega) (by omega) (by omega) (by omega)) (fun c _ _ => g c (by omega) (by omega) (by omega) (by omega))) er en⟩
  refine ⟨?_, pTape_keep g2 (by rw [g 1 (by omega) (by omega) (by omega) (by omega)]) (g _ (by omega) (by omega) (by omega) (by omega)) (e7 _ (by omega)) (g _ (by omega) (by omega) (by omega) (by omega)), pMisc_keep g3 (by rw [g 0 (by omega) (by omega) (by omega) (by omega)]) (by rw [g 0 (by omega) (by omega) (by omega) (by omega)]) (by rw [g 0 (by omega) (by omega) (by omega) (by omega)]) (e7 _ (by omega)) (e7 _ (by omega)) (e7 _ (by omega)), pRing_keep g4 (by rw [g 0 (by omega) (by omega) (by omega) (by omega)]) (e7 _ (by omega)) (g _ (by omega) (by omega) (by omega) (by omega)) (g _ (by omega) (by omega) (by omega) (by omega)), pTag_keep g5 (by rw [g 0 (by omega) (by omega) (by omega) (by omega)]) (e7 _ (by omega)) (g _ (by omega) (by omega) (by omega) (by omega)) (g _ (by omega) (by omega) (by omega) (by omega)), pTold_keep g6 (by rw [g 0 (by omega) (by omega) (by omega) (by omega)]) (e7 _ (by omega)) (g _ (by omega) (by omega) (by omega) (by omega)) (g _ (by omega) (by omega) (by omega) (by omega)), pMatch_keep g7 (e7 _ (by omega)) (g _ (by omega) (by omega) (by omega) (by omega)) (g _ (by omega) (by omega) (by omega) (by omega)), other, mine, pPast_keep g10 (g _ (by omega) (by omega) (by omega) (by omega)) (e7 _ (by omega)) (fun i _ k _ => by rw [pastRow_keep (s := s) (s' := s2) (g _ (by omega) (by omega) (by omega) (by omega)) (g _ (by omega) (by omega) (by omega) (by omega))]) (fun c _ _ => g c (by omega) (by omega) (by omega) (by omega))⟩
  rw [g 251 (by omega) (by omega) (by omega) (by omega), gj 257 (by omega) (by omega)]
  exact World_keep g1 (fun c _ _ => g c (by omega) (by omega) (by omega) (by omega)) (fun c _ _ => gj c (by omega) (by omega)) (fun c _ _ => g c (by omega) (by omega) (by omega) (by omega)) (fun c _ _ => g c (by omega) (by omega) (by omega) (by omega))
theorem S_image {m : Nat} (hm : 10000 ≤ m) (a : Int) : Sim (f_X_image m a) (f_R_image m a) := by
  by_cases c0 : a = 0
  · subst c0; exact S_img0 hm
  · by_cases c1 : a = 1
    · subst c1; exact S_img1 hm
    · intro s h
      refine ⟨0, s, wI s 249 0 0, ?_, ?_, Inv_thrown h 0⟩
      · rw [f_X_image_eq]
        by_cases c2 : a < 0
        · rw [if_pos c2]
        · rw [if_neg c2, if_neg (by omega)]
      · rw [f_R_image_eq, R_isIn, if_neg (by omega), Option.bind_some]; rfl
