/-! ===== written by gen_a89.py: reading (7): opening; a vestry's start ===== -/
/-- both tapes alike, and how much was fed -/
def PT (s u : mS) : Prop := s.1 1 1 = u.1 249 2 ∧ 0 ≤ s.1 1 1 ∧ s.1 1 1 ≤ 940 ∧ ∀ k : Nat, k < 940 → -128 ≤ s.1 2 k ∧ s.1 2 k < 128 ∧ u.1 250 k = s.1 2 k % 256
def KO (s s' : mS) : Prop := (∀ c, c ≠ 1 → c < 219 ∨ 240 < c → s'.1 c = s.1 c) ∧ (∀ c, c ≠ 1 → c < 219 ∨ 240 < c → s'.2 c = s.2 c) ∧ s'.1 1 1 = 0
def KP (u u' : mS) : Prop := (∀ c, c ≠ 249 → c ≠ 252 → c ≠ 258 → c ≠ 266 → c ≠ 268 → u'.1 c = u.1 c) ∧ (∀ c, c ≠ 249 → c ≠ 252 → c ≠ 258 → c ≠ 266 → c ≠ 268 → u'.2 c = u.2 c) ∧ (∀ k, 13 < k ∧ k ≠ 24 ∧ k ≠ 39 ∧ k < 42 → u'.1 249 k = u.1 249 k) ∧ u'.1 249 0 = 0 ∧ u'.1 249 2 = 0
theorem KO_tr {a b c : mS} (h : KO a b) (g : KC b c) : KO a c := ⟨fun x h1 h2 => (g.1 x h1 h2).trans (h.1 x h1 h2), fun x h1 h2 => (g.2.1 x h1 h2).trans (h.2.1 x h1 h2), g.2.2.trans h.2.2⟩
theorem KP_tr {a b c : mS} (h : KP a b) (g : KR b c) : KP a c := ⟨fun x h1 h2 h3 h4 h5 => (g.1 x h1 h2 h3 h4 h5).trans (h.1 x h1 h2 h3 h4 h5), fun x h1 h2 h3 h4 h5 => (g.2.1 x h1 h2 h3 h4 h5).trans (h.2.1 x h1 h2 h3 h4 h5), fun k hk => (g.2.2 k (by omega)).trans (h.2.2.1 k hk), (g.2.2 0 (by omega)).trans h.2.2.2.1, (g.2.2 2 (by omega)).trans h.2.2.2.2⟩
theorem T_open {m : Nat} (hm : 10000 ≤ m) {s u : mS} (h : PT s u) {L : Int} (l0 : 0 ≤ L) (l1 : L ≤ 940) :
    ∃ s' u', f_Tp_open m L s = some (0, s') ∧ f_R_begin m L u = some (0, u') ∧ TokG 0 s' u' ∧ KO s s' ∧ KP u u' ∧ (∀ c, c ≠ 249 → u'.1 c = u.1 c) ∧ (∀ c, c ≠ 249 → u'.2 c = u.2 c) ∧ (∀ c, c ≠ 1 → s'.1 c = s.1 c) ∧ (∀ c, c ≠ 1 → s'.2 c = s.2 c) ∧ ∀ k, 13 < k → u'.1 249 k = u.1 249 k := by
  obtain ⟨h1, h2, h3, h4⟩ := h
  obtain ⟨s0, hs0⟩ : ∃ s0, s0 = wI (wI (wI (wI (wI (wI s 1 8 (s.1 1 1)) 1 1 0) 1 9 L) 1 11 0) 1 6 0) 1 7 0 := ⟨_, rfl⟩
  obtain ⟨u0, hu0⟩ : ∃ u0, u0 = wI (wI (wI (wI (wI (wI u 249 0 0) 249 2 0) 249 3 (u.1 249 2)) 249 4 L) 249 10 0) 249 5 0 := ⟨_, rfl⟩
  have a8 : s0.1 1 8 = s.1 1 1 := by rw [hs0, wI_f (by decide), wI_f (by decide), wI_f (by decide), wI_f (by decide), wI_f (by decide), wI_at]
  have a1 : s0.1 1 1 = 0 := by rw [hs0, wI_f (by decide), wI_f (by decide), wI_f (by decide), wI_f (by decide), wI_at]
  have a9 : s0.1 1 9 = L := by rw [hs0, wI_f (by decide), wI_f (by decide), wI_f (by decide), wI_at]
  have a11 : s0.1 1 11 = 0 := by rw [hs0, wI_f (by decide), wI_f (by decide), wI_at]
  have a6 : s0.1 1 6 = 0 := by rw [hs0, wI_f (by decide), wI_at]
  have ac : ∀ c, c ≠ 1 → s0.1 c = s.1 c := fun c hc => by rw [hs0, wI_ne hc, wI_ne hc, wI_ne hc, wI_ne hc, wI_ne hc, wI_ne hc]
  have ac2 : ∀ c, s0.2 c = s.2 c := fun c => by rw [hs0]; rfl
  have b3 : u0.1 249 3 = u.1 249 2 := by rw [hu0, wI_f (by decide), wI_f (by decide), wI_f (by decide), wI_at]
  have b4 : u0.1 249 4 = L := by rw [hu0, wI_f (by decide), wI_f (by decide), wI_at]
  have b5 : u0.1 249 5 = 0 := by rw [hu0, wI_at]
  have b10 : u0.1 249 10 = 0 := by rw [hu0, wI_f (by decide), wI_at]
  have b0 : u0.1 249 0 = 0 := by rw [hu0, wI_f (by decide), wI_f (by decide), wI_f (by decide), wI_f (by decide), wI_f (by decide), wI_at]
  have b2 : u0.1 249 2 = 0 := by rw [hu0, wI_f (by decide), wI_f (by decide), wI_f (by decide), wI_f (by decide), wI_at]
  have bk : ∀ k, 13 < k → u0.1 249 k = u.1 249 k := fun k hk => by rw [hu0, wI_f (by omega), wI_f (by omega), wI_f (by omega), wI_f (by omega), wI_f (by omega), wI_f (by omega)]
  have bc : ∀ c, c ≠ 249 → u0.1 c = u.1 c := fun c hc => by rw [hu0, wI_ne hc, wI_ne hc, wI_ne hc, wI_ne hc, wI_ne hc, wI_ne hc]
  have bc2 : ∀ c, u0.2 c = u.2 c := fun c => by rw [hu0]; rfl
  have hE : TokE s0 u0 := ⟨by rw [a8, b3, h1], by rw [a8]; exact h2, by rw [a8]; exact h3, by rw [a9, b4], by rw [a9]; exact l0, by rw [a9]; exact l1, fun k hk => by rw [ac 2 (by decide), bc 250 (by decide)]; exact h4 k hk⟩
  obtain ⟨s', u', r1, r2, r3, r4, r5, r6⟩ := T_go hm hE (by rw [a11, b5]) (by rw [a11]; decide) (by rw [a11, a8]; exact h2)
  have f4 := TF_of r4
  have f5 := RF_of r5
  refine ⟨s', u', ?_, ?_, ⟨r3, by decide, ?_, fun x y => ?_, ?_, ?_⟩, ⟨fun c x _ => ?_, fun c x _ => ?_, ?_⟩, ⟨fun c x _ _ _ _ => ?_, fun c x _ _ _ _ => ?_, fun k hk => ?_, ?_, ?_⟩, fun c hc => ?_, fun c hc => ?_, fun c hc => ?_, fun c hc => ?_, fun k hk => ?_⟩
  · rw [f_Tp_open_eq, ← hs0, r1, Option.bind_some]
  · rw [f_R_begin_eq, f_R_take_eq, Option.bind_some]
    dsimp only
    rw [show (wI u 249 0 0).1 249 2 = u.1 249 2 from wI_f (by decide), ← hu0, r2, Option.bind_some]
  · rw [r4.2.1 8 (by decide) (by decide) (by decide) (by decide) (by decide), a8]; exact h2
  · have := r6 x y; rw [a11] at this; omega
  · rw [r4.2.1 6 (by decide) (by decide) (by decide) (by decide) (by decide)]; exact a6
  · rw [r5.2.1 10 (by decide) (by decide) (by decide) (by decide) (by decide)]; exact b10
  · rw [f4.1 c x, ac c x]
  · rw [f4.2.1 c x, ac2]
  · rw [f4.2.2, a1]
  · rw [f5.1 c x, bc c x]
  · rw [f5.2.1 c x, bc2]
  · rw [f5.2.2 k (by omega), bk k (by omega)]
  · rw [f5.2.2 0 (by omega), b0]
  · rw [f5.2.2 2 (by omega), b2]
  · rw [f5.1 c hc, bc c hc]
  · rw [f5.2.1 c hc, bc2]
  · rw [f4.1 c hc, ac c hc]
  · rw [f4.2.1 c hc, ac2]
  · rw [f5.2.2 k (by omega), bk k hk]
theorem C_fillA_18 (m : Nat) (v : Int) : ∀ (d n k : Nat) (s : mS), k + d = 9 → d + 1 ≤ n → ∃ s', l_Ja_fill_18_L5 m n v (k : Int) 9 s = some (0, s') ∧ (∀ j, s'.1 18 j = if k ≤ j ∧ j < 9 then v else s.1 18 j) ∧ (∀ x, x ≠ 18 → s'.1 x = s.1 x) ∧ s'.2 = s.2
  | 0, n, k, s, hk, hn => by
    obtain ⟨n0, rfl⟩ : ∃ n0, n = n0 + 1 := ⟨n - 1, by omega⟩
    rw [l_Ja_fill_18_L5_eq, if_neg (by omega)]
    exact ⟨s, rfl, fun j => by rw [if_neg (by omega)], fun _ _ => rfl, rfl⟩
  | d + 1, n, k, s, hk, hn => by
    obtain ⟨n0, rfl⟩ : ∃ n0, n = n0 + 1 := ⟨n - 1, by omega⟩
    rw [l_Ja_fill_18_L5_eq, if_pos (by omega), inR_pos (by omega) (by omega), w32_in (by omega) (by omega), Int.toNat_natCast, show (k : Int) + 1 = ((k + 1 : Nat) : Int) from by omega]
    obtain ⟨s', r1, r2, r3, r4⟩ := C_fillA_18 m v d n0 (k + 1) (wI s 18 k v) (by omega) (by omega)
    refine ⟨s', r1, fun j => ?_, fun x hx => by rw [r3 x hx, wI_ne hx], r4⟩
    rw [r2 j]
    by_cases q : j = k
    · subst q; rw [if_neg (by omega), wI_at, if_pos (by omega)]
    · by_cases q2 : k + 1 ≤ j ∧ j < 9
      · rw [if_pos q2, if_pos (by omega)]
      · rw [if_neg q2, wI_f q, if_neg (by omega)]
theorem C_fill_18 {m : Nat} (hm : 100 ≤ m) (v : Int) (s : mS) : ∃ s', f_Ja_fill_18 m v s = some (0, s') ∧ (∀ j, j < 9 → s'.1 18 j = v) ∧ (∀ x, x ≠ 18 → s'.1 x = s.1 x) ∧ s'.2 = s.2 := by
  obtain ⟨s', r1, r2, r3, r4⟩ := C_fillA_18 m v 9 m 0 s (by omega) (by omega)
  exact ⟨s', by rw [f_Ja_fill_18_eq]; exact r1, fun j hj => by rw [r2 j, if_pos (by omega)], r3, r4⟩
theorem C_fillA_19 (m : Nat) (v : Int) : ∀ (d n k : Nat) (s : mS), k + d = 9 → d + 1 ≤ n → ∃ s', l_Ja_fill_19_L5 m n v (k : Int) 9 s = some (0, s') ∧ (∀ j, s'.1 19 j = if k ≤ j ∧ j < 9 then v else s.1 19 j) ∧ (∀ x, x ≠ 19 → s'.1 x = s.1 x) ∧ s'.2 = s.2
  | 0, n, k, s, hk, hn => by
    obtain ⟨n0, rfl⟩ : ∃ n0, n = n0 + 1 := ⟨n - 1, by omega⟩
    rw [l_Ja_fill_19_L5_eq, if_neg (by omega)]
    exact ⟨s, rfl, fun j => by rw [if_neg (by omega)], fun _ _ => rfl, rfl⟩
  | d + 1, n, k, s, hk, hn => by
    obtain ⟨n0, rfl⟩ : ∃ n0, n = n0 + 1 := ⟨n - 1, by omega⟩
    rw [l_Ja_fill_19_L5_eq, if_pos (by omega), inR_pos (by omega) (by omega), w32_in (by omega) (by omega), Int.toNat_natCast, show (k : Int) + 1 = ((k + 1 : Nat) : Int) from by omega]
    obtain ⟨s', r1, r2, r3, r4⟩ := C_fillA_19 m v d n0 (k + 1) (wI s 19 k v) (by omega) (by omega)
    refine ⟨s', r1, fun j => ?_, fun x hx => by rw [r3 x hx, wI_ne hx], r4⟩
    rw [r2 j]
    by_cases q : j = k
    · subst q; rw [if_neg (by omega), wI_at, if_pos (by omega)]
    · by_cases q2 : k + 1 ≤ j ∧ j < 9
      · rw [if_pos q2, if_pos (by omega)]
      · rw [if_neg q2, wI_f q, if_neg (by omega)]
theorem C_fill_19 {m : Nat} (hm : 100 ≤ m) (v : Int) (s : mS) : ∃ s', f_Ja_fill_19 m v s = some (0, s') ∧ (∀ j, j < 9 → s'.1 19 j = v) ∧ (∀ x, x ≠ 19 → s'.1 x = s.1 x) ∧ s'.2 = s.2 := by
  obtain ⟨s', r1, r2, r3, r4⟩ := C_fillA_19 m v 9 m 0 s (by omega) (by omega)
  exact ⟨s', by rw [f_Ja_fill_19_eq]; exact r1, fun j hj => by rw [r2 j, if_pos (by omega)], r3, r4⟩
theorem C_fillA_20 (m : Nat) (v : Int) : ∀ (d n k : Nat) (s : mS), k + d = 9 → d + 1 ≤ n → ∃ s', l_Ja_fill_20_L5 m n v (k : Int) 9 s = some (0, s') ∧ (∀ j, s'.1 20 j = if k ≤ j ∧ j < 9 then v else s.1 20 j) ∧ (∀ x, x ≠ 20 → s'.1 x = s.1 x) ∧ s'.2 = s.2
  | 0, n, k, s, hk, hn => by
    obtain ⟨n0, rfl⟩ : ∃ n0, n = n0 + 1 := ⟨n - 1, by omega⟩
    rw [l_Ja_fill_20_L5_eq, if_neg (by omega)]
    exact ⟨s, rfl, fun j => by rw [if_neg (by omega)], fun _ _ => rfl, rfl⟩
  | d + 1, n, k, s, hk, hn => by
    obtain ⟨n0, rfl⟩ : ∃ n0, n = n0 + 1 := ⟨n - 1, by omega⟩
    rw [l_Ja_fill_20_L5_eq, if_pos (by omega), inR_pos (by omega) (by omega), w32_in (by omega) (by omega), Int.toNat_natCast, show (k : Int) + 1 = ((k + 1 : Nat) : Int) from by omega]
    obtain ⟨s', r1, r2, r3, r4⟩ := C_fillA_20 m v d n0 (k + 1) (wI s 20 k v) (by omega) (by omega)
    refine ⟨s', r1, fun j => ?_, fun x hx => by rw [r3 x hx, wI_ne hx], r4⟩
    rw [r2 j]
    by_cases q : j = k
    · subst q; rw [if_neg (by omega), wI_at, if_pos (by omega)]
    · by_cases q2 : k + 1 ≤ j ∧ j < 9
      · rw [if_pos q2, if_pos (by omega)]
      · rw [if_neg q2, wI_f q, if_neg (by omega)]
theorem C_fill_20 {m : Nat} (hm : 100 ≤ m) (v : Int) (s : mS) : ∃ s', f_Ja_fill_20 m v s = some (0, s') ∧ (∀ j, j < 9 → s'.1 20 j = v) ∧ (∀ x, x ≠ 20 → s'.1 x = s.1 x) ∧ s'.2 = s.2 := by
  obtain ⟨s', r1, r2, r3, r4⟩ := C_fillA_20 m v 9 m 0 s (by omega) (by omega)
  exact ⟨s', by rw [f_Ja_fill_20_eq]; exact r1, fun j hj => by rw [r2 j, if_pos (by omega)], r3, r4⟩
theorem C_fillA_21 (m : Nat) (v : Int) : ∀ (d n k : Nat) (s : mS), k + d = 36 → d + 1 ≤ n → ∃ s', l_Ja_fill_21_L5 m n v (k : Int) 36 s = some (0, s') ∧ (∀ j, s'.1 21 j = if k ≤ j ∧ j < 36 then v else s.1 21 j) ∧ (∀ x, x ≠ 21 → s'.1 x = s.1 x) ∧ s'.2 = s.2
  | 0, n, k, s, hk, hn => by
    obtain ⟨n0, rfl⟩ : ∃ n0, n = n0 + 1 := ⟨n - 1, by omega⟩
    rw [l_Ja_fill_21_L5_eq, if_neg (by omega)]
    exact ⟨s, rfl, fun j => by rw [if_neg (by omega)], fun _ _ => rfl, rfl⟩
  | d + 1, n, k, s, hk, hn => by
    obtain ⟨n0, rfl⟩ : ∃ n0, n = n0 + 1 := ⟨n - 1, by omega⟩
    rw [l_Ja_fill_21_L5_eq, if_pos (by omega), inR_pos (by omega) (by omega), w32_in (by omega) (by omega), Int.toNat_natCast, show (k : Int) + 1 = ((k + 1 : Nat) : Int) from by omega]
    obtain ⟨s', r1, r2, r3, r4⟩ := C_fillA_21 m v d n0 (k + 1) (wI s 21 k v) (by omega) (by omega)
    refine ⟨s', r1, fun j => ?_, fun x hx => by rw [r3 x hx, wI_ne hx], r4⟩
    rw [r2 j]
    by_cases q : j = k
    · subst q; rw [if_neg (by omega), wI_at, if_pos (by omega)]
    · by_cases q2 : k + 1 ≤ j ∧ j < 36
      · rw [if_pos q2, if_pos (by omega)]
      · rw [if_neg q2, wI_f q, if_neg (by omega)]
theorem C_fill_21 {m : Nat} (hm : 100 ≤ m) (v : Int) (s : mS) : ∃ s', f_Ja_fill_21 m v s = some (0, s') ∧ (∀ j, j < 36 → s'.1 21 j = v) ∧ (∀ x, x ≠ 21 → s'.1 x = s.1 x) ∧ s'.2 = s.2 := by
  obtain ⟨s', r1, r2, r3, r4⟩ := C_fillA_21 m v 36 m 0 s (by omega) (by omega)
  exact ⟨s', by rw [f_Ja_fill_21_eq]; exact r1, fun j hj => by rw [r2 j, if_pos (by omega)], r3, r4⟩
theorem C_fillA_22 (m : Nat) (v : Int) : ∀ (d n k : Nat) (s : mS), k + d = 5 → d + 1 ≤ n → ∃ s', l_Ja_fill_22_L5 m n v (k : Int) 5 s = some (0, s') ∧ (∀ j, s'.1 22 j = if k ≤ j ∧ j < 5 then v else s.1 22 j) ∧ (∀ x, x ≠ 22 → s'.1 x = s.1 x) ∧ s'.2 = s.2
  | 0, n, k, s, hk, hn => by
    obtain ⟨n0, rfl⟩ : ∃ n0, n = n0 + 1 := ⟨n - 1, by omega⟩
    rw [l_Ja_fill_22_L5_eq, if_neg (by omega)]
    exact ⟨s, rfl, fun j => by rw [if_neg (by omega)], fun _ _ => rfl, rfl⟩
  | d + 1, n, k, s, hk, hn => by
    obtain ⟨n0, rfl⟩ : ∃ n0, n = n0 + 1 := ⟨n - 1, by omega⟩
    rw [l_Ja_fill_22_L5_eq, if_pos (by omega), inR_pos (by omega) (by omega), w32_in (by omega) (by omega), Int.toNat_natCast, show (k : Int) + 1 = ((k + 1 : Nat) : Int) from by omega]
    obtain ⟨s', r1, r2, r3, r4⟩ := C_fillA_22 m v d n0 (k + 1) (wI s 22 k v) (by omega) (by omega)
    refine ⟨s', r1, fun j => ?_, fun x hx => by rw [r3 x hx, wI_ne hx], r4⟩
    rw [r2 j]
    by_cases q : j = k
    · subst q; rw [if_neg (by omega), wI_at, if_pos (by omega)]
    · by_cases q2 : k + 1 ≤ j ∧ j < 5
      · rw [if_pos q2, if_pos (by omega)]
      · rw [if_neg q2, wI_f q, if_neg (by omega)]
theorem C_fill_22 {m : Nat} (hm : 100 ≤ m) (v : Int) (s : mS) : ∃ s', f_Ja_fill_22 m v s = some (0, s') ∧ (∀ j, j < 5 → s'.1 22 j = v) ∧ (∀ x, x ≠ 22 → s'.1 x = s.1 x) ∧ s'.2 = s.2 := by
  obtain ⟨s', r1, r2, r3, r4⟩ := C_fillA_22 m v 5 m 0 s (by omega) (by omega)
  exact ⟨s', by rw [f_Ja_fill_22_eq]; exact r1, fun j hj => by rw [r2 j, if_pos (by omega)], r3, r4⟩
theorem C_fillA_23 (m : Nat) (v : Int) : ∀ (d n k : Nat) (s : mS), k + d = 5 → d + 1 ≤ n → ∃ s', l_Ja_fill_23_L5 m n v (k : Int) 5 s = some (0, s') ∧ (∀ j, s'.1 23 j = if k ≤ j ∧ j < 5 then v else s.1 23 j) ∧ (∀ x, x ≠ 23 → s'.1 x = s.1 x) ∧ s'.2 = s.2
  | 0, n, k, s, hk, hn => by
    obtain ⟨n0, rfl⟩ : ∃ n0, n = n0 + 1 := ⟨n - 1, by omega⟩
    rw [l_Ja_fill_23_L5_eq, if_neg (by omega)]
    exact ⟨s, rfl, fun j => by rw [if_neg (by omega)], fun _ _ => rfl, rfl⟩
  | d + 1, n, k, s, hk, hn => by
    obtain ⟨n0, rfl⟩ : ∃ n0, n = n0 + 1 := ⟨n - 1, by omega⟩
    rw [l_Ja_fill_23_L5_eq, if_pos (by omega), inR_pos (by omega) (by omega), w32_in (by omega) (by omega), Int.toNat_natCast, show (k : Int) + 1 = ((k + 1 : Nat) : Int) from by omega]
    obtain ⟨s', r1, r2, r3, r4⟩ := C_fillA_23 m v d n0 (k + 1) (wI s 23 k v) (by omega) (by omega)
    refine ⟨s', r1, fun j => ?_, fun x hx => by rw [r3 x hx, wI_ne hx], r4⟩
    rw [r2 j]
    by_cases q : j = k
    · subst q; rw [if_neg (by omega), wI_at, if_pos (by omega)]
    · by_cases q2 : k + 1 ≤ j ∧ j < 5
      · rw [if_pos q2, if_pos (by omega)]
      · rw [if_neg q2, wI_f q, if_neg (by omega)]
theorem C_fill_23 {m : Nat} (hm : 100 ≤ m) (v : Int) (s : mS) : ∃ s', f_Ja_fill_23 m v s = some (0, s') ∧ (∀ j, j < 5 → s'.1 23 j = v) ∧ (∀ x, x ≠ 23 → s'.1 x = s.1 x) ∧ s'.2 = s.2 := by
  obtain ⟨s', r1, r2, r3, r4⟩ := C_fillA_23 m v 5 m 0 s (by omega) (by omega)
  exact ⟨s', by rw [f_Ja_fill_23_eq]; exact r1, fun j hj => by rw [r2 j, if_pos (by omega)], r3, r4⟩
theorem C_fillA_24 (m : Nat) (v : Int) : ∀ (d n k : Nat) (s : mS), k + d = 5 → d + 1 ≤ n → ∃ s', l_Ja_fill_24_L5 m n v (k : Int) 5 s = some (0, s') ∧ (∀ j, s'.1 24 j = if k ≤ j ∧ j < 5 then v else s.1 24 j) ∧ (∀ x, x ≠ 24 → s'.1 x = s.1 x) ∧ s'.2 = s.2
  | 0, n, k, s, hk, hn => by
    obtain ⟨n0, rfl⟩ : ∃ n0, n = n0 + 1 := ⟨n - 1, by omega⟩
    rw [l_Ja_fill_24_L5_eq, if_neg (by omega)]
    exact ⟨s, rfl, fun j => by rw [if_neg (by omega)], fun _ _ => rfl, rfl⟩
  | d + 1, n, k, s, hk, hn => by
    obtain ⟨n0, rfl⟩ : ∃ n0, n = n0 + 1 := ⟨n - 1, by omega⟩
    rw [l_Ja_fill_24_L5_eq, if_pos (by omega), inR_pos (by omega) (by omega), w32_in (by omega) (by omega), Int.toNat_natCast, show (k : Int) + 1 = ((k + 1 : Nat) : Int) from by omega]
    obtain ⟨s', r1, r2, r3, r4⟩ := C_fillA_24 m v d n0 (k + 1) (wI s 24 k v) (by omega) (by omega)
    refine ⟨s', r1, fun j => ?_, fun x hx => by rw [r3 x hx, wI_ne hx], r4⟩
    rw [r2 j]
    by_cases q : j = k
    · subst q; rw [if_neg (by omega), wI_at, if_pos (by omega)]
    · by_cases q2 : k + 1 ≤ j ∧ j < 5
      · rw [if_pos q2, if_pos (by omega)]
      · rw [if_neg q2, wI_f q, if_neg (by omega)]
theorem C_fill_24 {m : Nat} (hm : 100 ≤ m) (v : Int) (s : mS) : ∃ s', f_Ja_fill_24 m v s = some (0, s') ∧ (∀ j, j < 5 → s'.1 24 j = v) ∧ (∀ x, x ≠ 24 → s'.1 x = s.1 x) ∧ s'.2 = s.2 := by
  obtain ⟨s', r1, r2, r3, r4⟩ := C_fillA_24 m v 5 m 0 s (by omega) (by omega)
  exact ⟨s', by rw [f_Ja_fill_24_eq]; exact r1, fun j hj => by rw [r2 j, if_pos (by omega)], r3, r4⟩
theorem C_fillA_25 (m : Nat) (v : Int) : ∀ (d n k : Nat) (s : mS), k + d = 12 → d + 1 ≤ n → ∃ s', l_Ja_fill_25_L5 m n v (k : Int) 12 s = some (0, s') ∧ (∀ j, s'.1 25 j = if k ≤ j ∧ j < 12 then v else s.1 25 j) ∧ (∀ x, x ≠ 25 → s'.1 x = s.1 x) ∧ s'.2 = s.2
  | 0, n, k, s, hk, hn => by
    obtain ⟨n0, rfl⟩ : ∃ n0, n = n0 + 1 := ⟨n - 1, by omega⟩
    rw [l_Ja_fill_25_L5_eq, if_neg (by omega)]
    exact ⟨s, rfl, fun j => by rw [if_neg (by omega)], fun _ _ => rfl, rfl⟩
  | d + 1, n, k, s, hk, hn => by
    obtain ⟨n0, rfl⟩ : ∃ n0, n = n0 + 1 := ⟨n - 1, by omega⟩
    rw [l_Ja_fill_25_L5_eq, if_pos (by omega), inR_pos (by omega) (by omega), w32_in (by omega) (by omega), Int.toNat_natCast, show (k : Int) + 1 = ((k + 1 : Nat) : Int) from by omega]
    obtain ⟨s', r1, r2, r3, r4⟩ := C_fillA_25 m v d n0 (k + 1) (wI s 25 k v) (by omega) (by omega)
    refine ⟨s', r1, fun j => ?_, fun x hx => by rw [r3 x hx, wI_ne hx], r4⟩
    rw [r2 j]
    by_cases q : j = k
    · subst q; rw [if_neg (by omega), wI_at, if_pos (by omega)]
    · by_cases q2 : k + 1 ≤ j ∧ j < 12
      · rw [if_pos q2, if_pos (by omega)]
      · rw [if_neg q2, wI_f q, if_neg (by omega)]
theorem C_fill_25 {m : Nat} (hm : 100 ≤ m) (v : Int) (s : mS) : ∃ s', f_Ja_fill_25 m v s = some (0, s') ∧ (∀ j, j < 12 → s'.1 25 j = v) ∧ (∀ x, x ≠ 25 → s'.1 x = s.1 x) ∧ s'.2 = s.2 := by
  obtain ⟨s', r1, r2, r3, r4⟩ := C_fillA_25 m v 12 m 0 s (by omega) (by omega)
  exact ⟨s', by rw [f_Ja_fill_25_eq]; exact r1, fun j hj => by rw [r2 j, if_pos (by omega)], r3, r4⟩
theorem C_fillA_26 (m : Nat) (v : Int) : ∀ (d n k : Nat) (s : mS), k + d = 12 → d + 1 ≤ n → ∃ s', l_Ja_fill_26_L5 m n v (k : Int) 12 s = some (0, s') ∧ (∀ j, s'.1 26 j = if k ≤ j ∧ j < 12 then v else s.1 26 j) ∧ (∀ x, x ≠ 26 → s'.1 x = s.1 x) ∧ s'.2 = s.2
  | 0, n, k, s, hk, hn => by
    obtain ⟨n0, rfl⟩ : ∃ n0, n = n0 + 1 := ⟨n - 1, by omega⟩
    rw [l_Ja_fill_26_L5_eq, if_neg (by omega)]
    exact ⟨s, rfl, fun j => by rw [if_neg (by omega)], fun _ _ => rfl, rfl⟩
  | d + 1, n, k, s, hk, hn => by
    obtain ⟨n0, rfl⟩ : ∃ n0, n = n0 + 1 := ⟨n - 1, by omega⟩
    rw [l_Ja_fill_26_L5_eq, if_pos (by omega), inR_pos (by omega) (by omega), w32_in (by omega) (by omega), Int.toNat_natCast, show (k : Int) + 1 = ((k + 1 : Nat) : Int) from by omega]
    obtain ⟨s', r1, r2, r3, r4⟩ := C_fillA_26 m v d n0 (k + 1) (wI s 26 k v) (by omega) (by omega)
    refine ⟨s', r1, fun j => ?_, fun x hx => by rw [r3 x hx, wI_ne hx], r4⟩
    rw [r2 j]
    by_cases q : j = k
    · subst q; rw [if_neg (by omega), wI_at, if_pos (by omega)]
    · by_cases q2 : k + 1 ≤ j ∧ j < 12
      · rw [if_pos q2, if_pos (by omega)]
      · rw [if_neg q2, wI_f q, if_neg (by omega)]
theorem C_fill_26 {m : Nat} (hm : 100 ≤ m) (v : Int) (s : mS) : ∃ s', f_Ja_fill_26 m v s = some (0, s') ∧ (∀ j, j < 12 → s'.1 26 j = v) ∧ (∀ x, x ≠ 26 → s'.1 x = s.1 x) ∧ s'.2 = s.2 := by
  obtain ⟨s', r1, r2, r3, r4⟩ := C_fillA_26 m v 12 m 0 s (by omega) (by omega)
  exact ⟨s', by rw [f_Ja_fill_26_eq]; exact r1, fun j hj => by rw [r2 j, if_pos (by omega)], r3, r4⟩
theorem C_fillA_27 (m : Nat) (v : Int) : ∀ (d n k : Nat) (s : mS), k + d = 12 → d + 1 ≤ n → ∃ s', l_Ja_fill_27_L5 m n v (k : Int) 12 s = some (0, s') ∧ (∀ j, s'.1 27 j = if k ≤ j ∧ j < 12 then v else s.1 27 j) ∧ (∀ x, x ≠ 27 → s'.1 x = s.1 x) ∧ s'.2 = s.2
  | 0, n, k, s, hk, hn => by
    obtain ⟨n0, rfl⟩ : ∃ n0, n = n0 + 1 := ⟨n - 1, by omega⟩
    rw [l_Ja_fill_27_L5_eq, if_neg (by omega)]
    exact ⟨s, rfl, fun j => by rw [if_neg (by omega)], fun _ _ => rfl, rfl⟩
  | d + 1, n, k, s, hk, hn => by
    obtain ⟨n0, rfl⟩ : ∃ n0, n = n0 + 1 := ⟨n - 1, by omega⟩
    rw [l_Ja_fill_27_L5_eq, if_pos (by omega), inR_pos (by omega) (by omega), w32_in (by omega) (by omega), Int.toNat_natCast, show (k : Int) + 1 = ((k + 1 : Nat) : Int) from by omega]
    obtain ⟨s', r1, r2, r3, r4⟩ := C_fillA_27 m v d n0 (k + 1) (wI s 27 k v) (by omega) (by omega)
    refine ⟨s', r1, fun j => ?_, fun x hx => by rw [r3 x hx, wI_ne hx], r4⟩
    rw [r2 j]
    by_cases q : j = k
    · subst q; rw [if_neg (by omega), wI_at, if_pos (by omega)]
    · by_cases q2 : k + 1 ≤ j ∧ j < 12
      · rw [if_pos q2, if_pos (by omega)]
      · rw [if_neg q2, wI_f q, if_neg (by omega)]
theorem C_fill_27 {m : Nat} (hm : 100 ≤ m) (v : Int) (s : mS) : ∃ s', f_Ja_fill_27 m v s = some (0, s') ∧ (∀ j, j < 12 → s'.1 27 j = v) ∧ (∀ x, x ≠ 27 → s'.1 x = s.1 x) ∧ s'.2 = s.2 := by
  obtain ⟨s', r1, r2, r3, r4⟩ := C_fillA_27 m v 12 m 0 s (by omega) (by omega)
  exact ⟨s', by rw [f_Ja_fill_27_eq]; exact r1, fun j hj => by rw [r2 j, if_pos (by omega)], r3, r4⟩
theorem C_fillA_28 (m : Nat) (v : Int) : ∀ (d n k : Nat) (s : mS), k + d = 12 → d + 1 ≤ n → ∃ s', l_Ja_fill_28_L5 m n v (k : Int) 12 s = some (0, s') ∧ (∀ j, s'.1 28 j = if k ≤ j ∧ j < 12 then v else s.1 28 j) ∧ (∀ x, x ≠ 28 → s'.1 x = s.1 x) ∧ s'.2 = s.2
  | 0, n, k, s, hk, hn => by
    obtain ⟨n0, rfl⟩ : ∃ n0, n = n0 + 1 := ⟨n - 1, by omega⟩
    rw [l_Ja_fill_28_L5_eq, if_neg (by omega)]
    exact ⟨s, rfl, fun j => by rw [if_neg (by omega)], fun _ _ => rfl, rfl⟩
  | d + 1, n, k, s, hk, hn => by
    obtain ⟨n0, rfl⟩ : ∃ n0, n = n0 + 1 := ⟨n - 1, by omega⟩
    rw [l_Ja_fill_28_L5_eq, if_pos (by omega), inR_pos (by omega) (by omega), w32_in (by omega) (by omega), Int.toNat_natCast, show (k : Int) + 1 = ((k + 1 : Nat) : Int) from by omega]
    obtain ⟨s', r1, r2, r3, r4⟩ := C_fillA_28 m v d n0 (k + 1) (wI s 28 k v) (by omega) (by omega)
    refine ⟨s', r1, fun j => ?_, fun x hx => by rw [r3 x hx, wI_ne hx], r4⟩
    rw [r2 j]
    by_cases q : j = k
    · subst q; rw [if_neg (by omega), wI_at, if_pos (by omega)]
    · by_cases q2 : k + 1 ≤ j ∧ j < 12
      · rw [if_pos q2, if_pos (by omega)]
      · rw [if_neg q2, wI_f q, if_neg (by omega)]
theorem C_fill_28 {m : Nat} (hm : 100 ≤ m) (v : Int) (s : mS) : ∃ s', f_Ja_fill_28 m v s = some (0, s') ∧ (∀ j, j < 12 → s'.1 28 j = v) ∧ (∀ x, x ≠ 28 → s'.1 x = s.1 x) ∧ s'.2 = s.2 := by
  obtain ⟨s', r1, r2, r3, r4⟩ := C_fillA_28 m v 12 m 0 s (by omega) (by omega)
  exact ⟨s', by rw [f_Ja_fill_28_eq]; exact r1, fun j hj => by rw [r2 j, if_pos (by omega)], r3, r4⟩
theorem C_fillA_29 (m : Nat) (v : Int) : ∀ (d n k : Nat) (s : mS), k + d = 12 → d + 1 ≤ n → ∃ s', l_Ja_fill_29_L5 m n v (k : Int) 12 s = some (0, s') ∧ (∀ j, s'.1 29 j = if k ≤ j ∧ j < 12 then v else s.1 29 j) ∧ (∀ x, x ≠ 29 → s'.1 x = s.1 x) ∧ s'.2 = s.2
  | 0, n, k, s, hk, hn => by
    obtain ⟨n0, rfl⟩ : ∃ n0, n = n0 + 1 := ⟨n - 1, by omega⟩
    rw [l_Ja_fill_29_L5_eq, if_neg (by omega)]
    exact ⟨s, rfl, fun j => by rw [if_neg (by omega)], fun _ _ => rfl, rfl⟩
  | d + 1, n, k, s, hk, hn => by
    obtain ⟨n0, rfl⟩ : ∃ n0, n = n0 + 1 := ⟨n - 1, by omega⟩
    rw [l_Ja_fill_29_L5_eq, if_pos (by omega), inR_pos (by omega) (by omega), w32_in (by omega) (by omega), Int.toNat_natCast, show (k : Int) + 1 = ((k + 1 : Nat) : Int) from by omega]
    obtain ⟨s', r1, r2, r3, r4⟩ := C_fillA_29 m v d n0 (k + 1) (wI s 29 k v) (by omega) (by omega)
    refine ⟨s', r1, fun j => ?_, fun x hx => by rw [r3 x hx, wI_ne hx], r4⟩
    rw [r2 j]
    by_cases q : j = k
    · subst q; rw [if_neg (by omega), wI_at, if_pos (by omega)]
    · by_cases q2 : k + 1 ≤ j ∧ j < 12
      · rw [if_pos q2, if_pos (by omega)]
      · rw [if_neg q2, wI_f q, if_neg (by omega)]
theorem C_fill_29 {m : Nat} (hm : 100 ≤ m) (v : Int) (s : mS) : ∃ s', f_Ja_fill_29 m v s = some (0, s') ∧ (∀ j, j < 12 → s'.1 29 j = v) ∧ (∀ x, x ≠ 29 → s'.1 x = s.1 x) ∧ s'.2 = s.2 := by
  obtain ⟨s', r1, r2, r3, r4⟩ := C_fillA_29 m v 12 m 0 s (by omega) (by omega)
  exact ⟨s', by rw [f_Ja_fill_29_eq]; exact r1, fun j hj => by rw [r2 j, if_pos (by omega)], r3, r4⟩
theorem C_fillA_228 (m : Nat) (v : Int) : ∀ (d n k : Nat) (s : mS), k + d = 12 → d + 1 ≤ n → ∃ s', l_Ja_fill_228_L5 m n v (k : Int) 12 s = some (0, s') ∧ (∀ j, s'.1 228 j = if k ≤ j ∧ j < 12 then v else s.1 228 j) ∧ (∀ x, x ≠ 228 → s'.1 x = s.1 x) ∧ s'.2 = s.2
  | 0, n, k, s, hk, hn => by
    obtain ⟨n0, rfl⟩ : ∃ n0, n = n0 + 1 := ⟨n - 1, by omega⟩
    rw [l_Ja_fill_228_L5_eq, if_neg (by omega)]
    exact ⟨s, rfl, fun j => by rw [if_neg (by omega)], fun _ _ => rfl, rfl⟩
  | d + 1, n, k, s, hk, hn => by
    obtain ⟨n0, rfl⟩ : ∃ n0, n = n0 + 1 := ⟨n - 1, by omega⟩
    rw [l_Ja_fill_228_L5_eq, if_pos (by omega), inR_pos (by omega) (by omega), w32_in (by omega) (by omega), Int.toNat_natCast, show (k : Int) + 1 = ((k + 1 : Nat) : Int) from by omega]
    obtain ⟨s', r1, r2, r3, r4⟩ := C_fillA_228 m v d n0 (k + 1) (wI s 228 k v) (by omega) (by omega)
    refine ⟨s', r1, fun j => ?_, fun x hx => by rw [r3 x hx, wI_ne hx], r4⟩
    rw [r2 j]
    by_cases q : j = k
    · subst q; rw [if_neg (by omega), wI_at, if_pos (by omega)]
    · by_cases q2 : k + 1 ≤ j ∧ j < 12
      · rw [if_pos q2, if_pos (by omega)]
      · rw [if_neg q2, wI_f q, if_neg (by omega)]
theorem C_fill_228 {m : Nat} (hm : 100 ≤ m) (v : Int) (s : mS) : ∃ s', f_Ja_fill_228 m v s = some (0, s') ∧ (∀ j, j < 12 → s'.1 228 j = v) ∧ (∀ x, x ≠ 228 → s'.1 x = s.1 x) ∧ s'.2 = s.2 := by
  obtain ⟨s', r1, r2, r3, r4⟩ := C_fillA_228 m v 12 m 0 s (by omega) (by omega)
  exact ⟨s', by rw [f_Ja_fill_228_eq]; exact r1, fun j hj => by rw [r2 j, if_pos (by omega)], r3, r4⟩
theorem C_fillA_229 (m : Nat) (v : Int) : ∀ (d n k : Nat) (s : mS), k + d = 12 → d + 1 ≤ n → ∃ s', l_Ja_fill_229_L5 m n v (k : Int) 12 s = some (0, s') ∧ (∀ j, s'.1 229 j = if k ≤ j ∧ j < 12 then v else s.1 229 j) ∧ (∀ x, x ≠ 229 → s'.1 x = s.1 x) ∧ s'.2 = s.2
  | 0, n, k, s, hk, hn => by
    obtain ⟨n0, rfl⟩ : ∃ n0, n = n0 + 1 := ⟨n - 1, by omega⟩
    rw [l_Ja_fill_229_L5_eq, if_neg (by omega)]
    exact ⟨s, rfl, fun j => by rw [if_neg (by omega)], fun _ _ => rfl, rfl⟩
  | d + 1, n, k, s, hk, hn => by
    obtain ⟨n0, rfl⟩ : ∃ n0, n = n0 + 1 := ⟨n - 1, by omega⟩
    rw [l_Ja_fill_229_L5_eq, if_pos (by omega), inR_pos (by omega) (by omega), w32_in (by omega) (by omega), Int.toNat_natCast, show (k : Int) + 1 = ((k + 1 : Nat) : Int) from by omega]
    obtain ⟨s', r1, r2, r3, r4⟩ := C_fillA_229 m v d n0 (k + 1) (wI s 229 k v) (by omega) (by omega)
    refine ⟨s', r1, fun j => ?_, fun x hx => by rw [r3 x hx, wI_ne hx], r4⟩
    rw [r2 j]
    by_cases q : j = k
    · subst q; rw [if_neg (by omega), wI_at, if_pos (by omega)]
    · by_cases q2 : k + 1 ≤ j ∧ j < 12
      · rw [if_pos q2, if_pos (by omega)]
      · rw [if_neg q2, wI_f q, if_neg (by omega)]
theorem C_fill_229 {m : Nat} (hm : 100 ≤ m) (v : Int) (s : mS) : ∃ s', f_Ja_fill_229 m v s = some (0, s') ∧ (∀ j, j < 12 → s'.1 229 j = v) ∧ (∀ x, x ≠ 229 → s'.1 x = s.1 x) ∧ s'.2 = s.2 := by
  obtain ⟨s', r1, r2, r3, r4⟩ := C_fillA_229 m v 12 m 0 s (by omega) (by omega)
  exact ⟨s', by rw [f_Ja_fill_229_eq]; exact r1, fun j hj => by rw [r2 j, if_pos (by omega)], r3, r4⟩
theorem R_L9 (m : Nat) : ∀ (d n k : Nat) (s : mS), k + d = 85 → d + 1 ≤ n → ∃ n' s', l_R_vestry_L9 m n (k : Int) s = l_R_vestry_L42 m n' 0 (wI (wI s' 252 5 1) 249 24 0) ∧ n = n' + d + 1 ∧ (∀ j, s'.1 252 j = if k ≤ j ∧ j < 85 then 0 else s.1 252 j) ∧ (∀ x, x ≠ 252 → s'.1 x = s.1 x) ∧ s'.2 = s.2
  | 0, n, k, s, hk, hn => by
    obtain ⟨n0, rfl⟩ : ∃ n0, n = n0 + 1 := ⟨n - 1, by omega⟩
    rw [l_R_vestry_L9_eq, if_neg (by omega)]
    exact ⟨n0, s, rfl, by omega, fun j => by rw [if_neg (by omega)], fun _ _ => rfl, rfl⟩
  | d + 1, n, k, s, hk, hn => by
    obtain ⟨n0, rfl⟩ : ∃ n0, n = n0 + 1 := ⟨n - 1, by omega⟩
    rw [l_R_vestry_L9_eq, if_pos (by omega), inR_pos (by omega) (by omega), w32_in (by omega) (by omega), Int.toNat_natCast, show (k : Int) + 1 = ((k + 1 : Nat) : Int) from by omega]
    obtain ⟨n', s', r1, r0, r2, r3, r4⟩ := R_L9 m d n0 (k + 1) (wI s 252 k 0) (by omega) (by omega)
    refine ⟨n', s', r1, by omega, fun j => ?_, fun x hx => by rw [r3 x hx, wI_ne hx], r4⟩
    rw [r2 j]
    by_cases q : j = k
    · subst q; rw [if_neg (by omega), wI_at, if_pos (by omega)]
    · by_cases q2 : k + 1 ≤ j ∧ j < 85
      · rw [if_pos q2, if_pos (by omega)]
      · rw [if_neg q2, wI_f q, if_neg (by omega)]
theorem R_L78 (m : Nat) (y : Int) : ∀ (d n k : Nat) (s : mS), k + d = 85 → d + 1 ≤ n → ∃ n' s', l_R_vestry_L78 m n y (k : Int) s = l_R_vestry_L104 m n' y 0 s' ∧ n = n' + d + 1 ∧ (∀ j, s'.1 251 j = if k ≤ j ∧ j < 85 then s.1 252 j else s.1 251 j) ∧ (∀ x, x ≠ 251 → s'.1 x = s.1 x) ∧ s'.2 = s.2
  | 0, n, k, s, hk, hn => by
    obtain ⟨n0, rfl⟩ : ∃ n0, n = n0 + 1 := ⟨n - 1, by omega⟩
    rw [l_R_vestry_L78_eq, if_neg (by omega)]
    exact ⟨n0, s, rfl, by omega, fun j => by rw [if_neg (by omega)], fun _ _ => rfl, rfl⟩
  | d + 1, n, k, s, hk, hn => by
    obtain ⟨n0, rfl⟩ : ∃ n0, n = n0 + 1 := ⟨n - 1, by omega⟩
    rw [l_R_vestry_L78_eq, if_pos (by omega), inR_pos (by omega) (by omega), inR_pos (by omega) (by omega), w32_in (by omega) (by omega), Int.toNat_natCast, show (k : Int) + 1 = ((k + 1 : Nat) : Int) from by omega]
    obtain ⟨n', s', r1, r0, r2, r3, r4⟩ := R_L78 m y d n0 (k + 1) (wI s 251 k (s.1 252 k)) (by omega) (by omega)
    refine ⟨n', s', r1, by omega, fun j => ?_, fun x hx => by rw [r3 x hx, wI_ne hx], r4⟩
    rw [r2 j, wI_ne (by decide)]
    by_cases q : j = k
    · subst q; rw [if_neg (by omega), wI_at, if_pos (by omega)]
    · by_cases q2 : k + 1 ≤ j ∧ j < 85
      · rw [if_pos q2, if_pos (by omega)]
      · rw [if_neg q2, wI_f q, if_neg (by omega)]
theorem R_L104 (m : Nat) (y : Int) : ∀ (d n k : Nat) (s : mS), k + d = 26 → d + 1 ≤ n → ∃ s', l_R_vestry_L104 m n y (k : Int) s = ((f_R_startSo m s').bind fun p0 => (some (y, wI p0.2 249 25 0))) ∧ (∀ j, s'.2 257 j = if k ≤ j ∧ j < 26 then s.2 258 j else s.2 257 j) ∧ (∀ x, x ≠ 257 → s'.2 x = s.2 x) ∧ s'.1 = s.1
  | 0, n, k, s, hk, hn => by
    obtain ⟨n0, rfl⟩ : ∃ n0, n = n0 + 1 := ⟨n - 1, by omega⟩
    rw [l_R_vestry_L104_eq, if_neg (by omega)]
    exact ⟨s, rfl, fun j => by rw [if_neg (by omega)], fun _ _ => rfl, rfl⟩
  | d + 1, n, k, s, hk, hn => by
    obtain ⟨n0, rfl⟩ : ∃ n0, n = n0 + 1 := ⟨n - 1, by omega⟩
    rw [l_R_vestry_L104_eq, if_pos (by omega), inR_pos (by omega) (by omega), inR_pos (by omega) (by omega), w32_in (by omega) (by omega), Int.toNat_natCast, show (k : Int) + 1 = ((k + 1 : Nat) : Int) from by omega]
    obtain ⟨s', r1, r2, r3, r4⟩ := R_L104 m y d n0 (k + 1) (wJ s 257 k (s.2 258 k)) (by omega) (by omega)
    refine ⟨s', r1, fun j => ?_, fun x hx => by rw [r3 x hx, wJ_ne2 hx], r4⟩
    rw [r2 j, wJ_ne2 (show (258 : Nat) ≠ 257 by decide)]
    by_cases q : j = k
    · subst q; rw [if_neg (by omega), wJ_at2, if_pos (by omega)]
    · by_cases q2 : k + 1 ≤ j ∧ j < 26
      · rw [if_pos q2, if_pos (by omega)]
      · rw [if_neg q2, wJ_f2 q, if_neg (by omega)]
theorem R_soL3 (m : Nat) : ∀ (d n k : Nat) (s : mS), k + d = 466 → d + 1 ≤ n → ∃ n' s', l_R_startSo_L3 m n (k : Int) s = l_R_startSo_L25 m n' 0 s' ∧ n = n' + d + 1 ∧ (∀ j, s'.1 251 j = if k ≤ j ∧ j < 466 then 0 else s.1 251 j) ∧ (∀ x, x ≠ 251 → s'.1 x = s.1 x) ∧ s'.2 = s.2
  | 0, n, k, s, hk, hn => by
    obtain ⟨n0, rfl⟩ : ∃ n0, n = n0 + 1 := ⟨n - 1, by omega⟩
    rw [l_R_startSo_L3_eq, if_neg (by omega)]
    exact ⟨n0, s, rfl, by omega, fun j => by rw [if_neg (by omega)], fun _ _ => rfl, rfl⟩
  | d + 1, n, k, s, hk, hn => by
    obtain ⟨n0, rfl⟩ : ∃ n0, n = n0 + 1 := ⟨n - 1, by omega⟩
    rw [l_R_startSo_L3_eq, if_pos (by omega)]
    rw [inR_pos (by omega) (by omega), w32_in (by omega) (by omega), Int.toNat_natCast, show (k : Int) + 1 = ((k + 1 : Nat) : Int) from by omega]
    obtain ⟨n', s', r1, r0, r2, r3, r4⟩ := R_soL3 m d n0 (k + 1) (wI s 251 k 0) (by omega) (by omega)
    refine ⟨n', s', r1, by omega, fun j => ?_, fun x hx => by rw [r3 x hx, wI_ne hx], r4⟩
    rw [r2 j]
    by_cases q : j = k
    · subst q; rw [if_neg (by omega), wI_at, if_pos (by omega)]
    · by_cases q2 : (k + 1) ≤ j ∧ j < 466
      · rw [if_pos q2, if_pos (by omega)]
      · rw [if_neg q2, wI_f q, if_neg (by omega)]
theorem R_soL25 (m : Nat) : ∀ (d n k : Nat) (s : mS), k + d = 9 → d + 1 ≤ n → ∃ n' s', l_R_startSo_L25 m n (k : Int) s = l_R_startSo_L49 m n' 0 s' ∧ n = n' + d + 1 ∧ (∀ j, s'.1 251 j = if 95 + k ≤ j ∧ j < 104 then (-1) else s.1 251 j) ∧ (∀ x, x ≠ 251 → s'.1 x = s.1 x) ∧ s'.2 = s.2
  | 0, n, k, s, hk, hn => by
    obtain ⟨n0, rfl⟩ : ∃ n0, n = n0 + 1 := ⟨n - 1, by omega⟩
    rw [l_R_startSo_L25_eq, if_neg (by omega)]
    exact ⟨n0, s, rfl, by omega, fun j => by rw [if_neg (by omega)], fun _ _ => rfl, rfl⟩
  | d + 1, n, k, s, hk, hn => by
    obtain ⟨n0, rfl⟩ : ∃ n0, n = n0 + 1 := ⟨n - 1, by omega⟩
    rw [l_R_startSo_L25_eq, if_pos (by omega)]
    have ew : w32 ((95 : Int) + (k : Int)) = ((95 + k : Nat) : Int) := by rw [w32_in (by omega) (by omega)]; omega
    rw [ew, inR_pos (i := ((95 + k : Nat) : Int)) (by omega) (by omega), w32_in (x := (k : Int) + 1) (by omega) (by omega), Int.toNat_natCast, show (k : Int) + 1 = ((k + 1 : Nat) : Int) from by clear ew; omega]
    clear ew
    obtain ⟨n', s', r1, r0, r2, r3, r4⟩ := R_soL25 m d n0 (k + 1) (wI s 251 (95 + k) (-1)) (by omega) (by omega)
    refine ⟨n', s', r1, by omega, fun j => ?_, fun x hx => by rw [r3 x hx, wI_ne hx], r4⟩
    rw [r2 j]
    by_cases q : j = (95 + k)
    · subst q; rw [if_neg (by omega), wI_at, if_pos (by omega)]
    · by_cases q2 : 95 + (k + 1) ≤ j ∧ j < 104
      · rw [if_pos q2, if_pos (by omega)]
      · rw [if_neg q2, wI_f q, if_neg (by omega)]
theorem R_soL49 (m : Nat) : ∀ (d n k : Nat) (s : mS), k + d = 36 → d + 1 ≤ n → ∃ n' s', l_R_startSo_L49 m n (k : Int) s = l_R_startSo_L73 m n' 0 s' ∧ n = n' + d + 1 ∧ (∀ j, s'.1 251 j = if 113 + k ≤ j ∧ j < 149 then (-1) else s.1 251 j) ∧ (∀ x, x ≠ 251 → s'.1 x = s.1 x) ∧ s'.2 = s.2
  | 0, n, k, s, hk, hn => by
    obtain ⟨n0, rfl⟩ : ∃ n0, n = n0 + 1 := ⟨n - 1, by omega⟩
    rw [l_R_startSo_L49_eq, if_neg (by omega)]
    exact ⟨n0, s, rfl, by omega, fun j => by rw [if_neg (by omega)], fun _ _ => rfl, rfl⟩
  | d + 1, n, k, s, hk, hn => by
    obtain ⟨n0, rfl⟩ : ∃ n0, n = n0 + 1 := ⟨n - 1, by omega⟩
    rw [l_R_startSo_L49_eq, if_pos (by omega)]
    have ew : w32 ((113 : Int) + (k : Int)) = ((113 + k : Nat) : Int) := by rw [w32_in (by omega) (by omega)]; omega
    rw [ew, inR_pos (i := ((113 + k : Nat) : Int)) (by omega) (by omega), w32_in (x := (k : Int) + 1) (by omega) (by omega), Int.toNat_natCast, show (k : Int) + 1 = ((k + 1 : Nat) : Int) from by clear ew; omega]
    clear ew
    obtain ⟨n', s', r1, r0, r2, r3, r4⟩ := R_soL49 m d n0 (k + 1) (wI s 251 (113 + k) (-1)) (by omega) (by omega)
    refine ⟨n', s', r1, by omega, fun j => ?_, fun x hx => by rw [r3 x hx, wI_ne hx], r4⟩
    rw [r2 j]
    by_cases q : j = (113 + k)
    · subst q; rw [if_neg (by omega), wI_at, if_pos (by omega)]
    · by_cases q2 : 113 + (k + 1) ≤ j ∧ j < 149
      · rw [if_pos q2, if_pos (by omega)]
      · rw [if_neg q2, wI_f q, if_neg (by omega)]
theorem R_soL73 (m : Nat) : ∀ (d n k : Nat) (s : mS), k + d = 5 → d + 1 ≤ n → ∃ n' s', l_R_startSo_L73 m n (k : Int) s = l_R_startSo_L97 m n' 0 s' ∧ n = n' + d + 1 ∧ (∀ j, s'.1 251 j = if 154 + k ≤ j ∧ j < 159 then (-1) else s.1 251 j) ∧ (∀ x, x ≠ 251 → s'.1 x = s.1 x) ∧ s'.2 = s.2
  | 0, n, k, s, hk, hn => by
    obtain ⟨n0, rfl⟩ : ∃ n0, n = n0 + 1 := ⟨n - 1, by omega⟩
    rw [l_R_startSo_L73_eq, if_neg (by omega)]
    exact ⟨n0, s, rfl, by omega, fun j => by rw [if_neg (by omega)], fun _ _ => rfl, rfl⟩
  | d + 1, n, k, s, hk, hn => by
    obtain ⟨n0, rfl⟩ : ∃ n0, n = n0 + 1 := ⟨n - 1, by omega⟩
    rw [l_R_startSo_L73_eq, if_pos (by omega)]
    have ew : w32 ((154 : Int) + (k : Int)) = ((154 + k : Nat) : Int) := by rw [w32_in (by omega) (by omega)]; omega
    rw [ew, inR_pos (i := ((154 + k : Nat) : Int)) (by omega) (by omega), w32_in (x := (k : Int) + 1) (by omega) (by omega), Int.toNat_natCast, show (k : Int) + 1 = ((k + 1 : Nat) : Int) from by clear ew; omega]
    clear ew
    obtain ⟨n', s', r1, r0, r2, r3, r4⟩ := R_soL73 m d n0 (k + 1) (wI s 251 (154 + k) (-1)) (by omega) (by omega)
    refine ⟨n', s', r1, by omega, fun j => ?_, fun x hx => by rw [r3 x hx, wI_ne hx], r4⟩
    rw [r2 j]
    by_cases q : j = (154 + k)
    · subst q; rw [if_neg (by omega), wI_at, if_pos (by omega)]
    · by_cases q2 : 154 + (k + 1) ≤ j ∧ j < 159
      · rw [if_pos q2, if_pos (by omega)]
      · rw [if_neg q2, wI_f q, if_neg (by omega)]
theorem R_soL97 (m : Nat) : ∀ (d n k : Nat) (s : mS), k + d = 12 → d + 1 ≤ n → ∃ s', l_R_startSo_L97 m n (k : Int) s = ((f_R_comeb m s').bind fun p0 => (some (0, p0.2))) ∧ (∀ j, s'.1 251 j = if (176 + k ≤ j ∧ j < 188) ∨ (188 + k ≤ j ∧ j < 200) then (-1) else s.1 251 j) ∧ (∀ x, x ≠ 251 → s'.1 x = s.1 x) ∧ s'.2 = s.2
  | 0, n, k, s, hk, hn => by
    obtain ⟨n0, rfl⟩ : ∃ n0, n = n0 + 1 := ⟨n - 1, by omega⟩
    rw [l_R_startSo_L97_eq, if_neg (by omega)]
    exact ⟨s, rfl, fun j => by rw [if_neg (by omega)], fun _ _ => rfl, rfl⟩
  | d + 1, n, k, s, hk, hn => by
    obtain ⟨n0, rfl⟩ : ∃ n0, n = n0 + 1 := ⟨n - 1, by omega⟩
    rw [l_R_startSo_L97_eq, if_pos (by omega)]
    have ew : w32 ((176 : Int) + (k : Int)) = ((176 + k : Nat) : Int) := by rw [w32_in (by omega) (by omega)]; omega
    rw [ew]
    clear ew
    have ew : w32 ((188 : Int) + (k : Int)) = ((188 + k : Nat) : Int) := by rw [w32_in (by omega) (by omega)]; omega
    rw [ew]
    clear ew
    rw [inR_pos (i := ((176 + k : Nat) : Int)) (by omega) (by omega), inR_pos (i := ((188 + k : Nat) : Int)) (by omega) (by omega), w32_in (x := (k : Int) + 1) (by omega) (by omega), Int.toNat_natCast, Int.toNat_natCast, show (k : Int) + 1 = ((k + 1 : Nat) : Int) from by omega]
    obtain ⟨s', r1, r2, r3, r4⟩ := R_soL97 m d n0 (k + 1) (wI (wI s 251 (176 + k) (-1)) 251 (188 + k) (-1)) (by omega) (by omega)
    refine ⟨s', r1, fun j => ?_, fun x hx => by rw [r3 x hx, wI_ne hx, wI_ne hx], r4⟩
    rw [r2 j]
    by_cases q : j = 188 + k
    · subst q; rw [if_neg (by omega), wI_at, if_pos (by omega)]
    · by_cases q1 : j = 176 + k
      · subst q1; rw [if_neg (by omega), wI_f q, wI_at, if_pos (by omega)]
      · by_cases q2 : (176 + (k + 1) ≤ j ∧ j < 188) ∨ (188 + (k + 1) ≤ j ∧ j < 200)
        · rw [if_pos q2, if_pos (by omega)]
        · rw [if_neg q2, wI_f q, wI_f q1, if_neg (by omega)]
/-- how a vestry stands as it begins -/
def beg (A : Row) : Row := fun j => if (176 ≤ j ∧ j < 200) ∨ (154 ≤ j ∧ j < 159) ∨ (113 ≤ j ∧ j < 149) ∨ (95 ≤ j ∧ j < 104) then -1 else if 85 ≤ j ∧ j < 466 then 0 else A j
theorem R_startSo {m : Nat} (hm : 10000 ≤ m) {s : mS} (hn : s.1 251 2 ≤ 12) : ∃ s', f_R_startSo m s = some (0, s') ∧ s'.1 251 = comes (beg (s.1 251)) ∧ (∀ x, x ≠ 251 → s'.1 x = s.1 x) ∧ s'.2 = s.2 := by
  obtain ⟨n1, s1, a1, a0, a2, a3, a4⟩ := R_soL3 m 381 m 85 s (by omega) (by omega)
  obtain ⟨n2, s2, b1, b0, b2, b3, b4⟩ := R_soL25 m 9 n1 0 s1 (by omega) (by omega)
  obtain ⟨n3, s3, c1, c0, c2, c3, c4⟩ := R_soL49 m 36 n2 0 s2 (by omega) (by omega)
  obtain ⟨n4, s4, d1, d0, d2, d3, d4⟩ := R_soL73 m 5 n3 0 s3 (by omega) (by omega)
  obtain ⟨s5, e1, e2, e3, e4⟩ := R_soL97 m 12 n4 0 s4 (by omega) (by omega)
  have eb : s5.1 251 = beg (s.1 251) := by
    funext j
    unfold beg
    rw [e2 j, d2 j, c2 j, b2 j, a2 j]
    clear a2 b2 c2 d2 e2
    by_cases q1 : 176 ≤ j ∧ j < 200
    · rw [if_pos (by omega), if_pos (by omega)]
    · rw [if_neg (by omega)]
      by_cases q2 : 154 ≤ j ∧ j < 159
      · rw [if_pos (by omega), if_pos (by omega)]
      · rw [if_neg (by omega)]
        by_cases q3 : 113 ≤ j ∧ j < 149
        · rw [if_pos (by omega), if_pos (by omega)]
        · rw [if_neg (by omega)]
          by_cases q4 : 95 ≤ j ∧ j < 104
          · rw [if_pos (by omega), if_pos (by omega)]
          · rw [if_neg (by omega), if_neg (show ¬ ((176 ≤ j ∧ j < 200) ∨ (154 ≤ j ∧ j < 159) ∨ (113 ≤ j ∧ j < 149) ∨ (95 ≤ j ∧ j < 104)) from by omega)]
  have h2 : beg (s.1 251) 2 ≤ 12 := by unfold beg; rw [if_neg (by omega), if_neg (by omega)]; exact hn
  have hc := R_come (s := s5) (A := beg (s.1 251)) eb h2 (m := m) (by omega)
  refine ⟨sr s5 251 (comes (beg (s.1 251))), ?_, sr_eq _ _ _, fun x hx => ?_, ?_⟩
  · rw [f_R_startSo_eq, show l_R_startSo_L3 m m 85 s = l_R_startSo_L3 m m ((85 : Nat) : Int) s from rfl, a1, show l_R_startSo_L25 m n1 0 s1 = l_R_startSo_L25 m n1 ((0 : Nat) : Int) s1 from rfl, b1, show l_R_startSo_L49 m n2 0 s2 = l_R_startSo_L49 m n2 ((0 : Nat) : Int) s2 from rfl, c1, show l_R_startSo_L73 m n3 0 s3 = l_R_startSo_L73 m n3 ((0 : Nat) : Int) s3 from rfl, d1, show l_R_startSo_L97 m n4 0 s4 = l_R_startSo_L97 m n4 ((0 : Nat) : Int) s4 from rfl, e1, hc, Option.bind_some]
  · rw [sr_ne _ _ _ hx, e3 x hx, d3 x hx, c3 x hx, b3 x hx, a3 x hx]
  · rw [sr_2, e4, d4, c4, b4, a4]
theorem beg_lo (A : Row) {j : Nat} (h : j < 85) : beg A j = A j := by unfold beg; rw [if_neg (by omega), if_neg (by omega)]
theorem beg_m1 (A : Row) {j : Nat} (h : (176 ≤ j ∧ j < 200) ∨ (154 ≤ j ∧ j < 159) ∨ (113 ≤ j ∧ j < 149) ∨ (95 ≤ j ∧ j < 104)) : beg A j = -1 := by unfold beg; rw [if_pos h]
theorem beg_0 (A : Row) {j : Nat} (h : ¬ ((176 ≤ j ∧ j < 200) ∨ (154 ≤ j ∧ j < 159) ∨ (113 ≤ j ∧ j < 149) ∨ (95 ≤ j ∧ j < 104))) (h2 : 85 ≤ j ∧ j < 466) : beg A j = 0 := by unfold beg; rw [if_neg h, if_pos h2]
theorem C_begin {m : Nat} (hm : 10000 ≤ m) {s : mS} {A : Row} (hv : WFv A) (hr : VR s 4 A) : ∃ r s', f_St_begin m s = some (r, s') ∧ SR s' 17 (comes (beg A)) ∧ (∀ x, x < 17 ∨ 30 ≤ x → s'.1 x = s.1 x) ∧ s'.2 = s.2 := by
  have W0 := WFv_boxes hv
  have W1 := WFv_plots hv
  have W2 := WFv_dead hv
  obtain ⟨t0, a0, b0, c0, d0⟩ := C_fill_18 (m := m) (by omega) 0 (wI s 17 0 0)
  obtain ⟨t1, a1, b1, c1, d1⟩ := C_fill_19 (m := m) (by omega) (-1) t0
  obtain ⟨t2, a2, b2, c2, d2⟩ := C_fill_20 (m := m) (by omega) 0 t1
  obtain ⟨t3, a3, b3, c3, d3⟩ := C_fill_21 (m := m) (by omega) (-1) t2
  obtain ⟨t4, a4, b4, c4, d4⟩ := C_fill_22 (m := m) (by omega) (-1) t3
  obtain ⟨t5, a5, b5, c5, d5⟩ := C_fill_23 (m := m) (by omega) 0 t4
  obtain ⟨t6, a6, b6, c6, d6⟩ := C_fill_24 (m := m) (by omega) 0 t5
  obtain ⟨t7, a7, b7, c7, d7⟩ := C_fill_25 (m := m) (by omega) 0 t6
  obtain ⟨t8, a8, b8, c8, d8⟩ := C_fill_26 (m := m) (by omega) (-1) t7
  obtain ⟨t9, a9, b9, c9, d9⟩ := C_fill_27 (m := m) (by omega) (-1) t8
  obtain ⟨t10, a10, b10, c10, d10⟩ := C_fill_28 (m := m) (by omega) 0 t9
  obtain ⟨t11, a11, b11, c11, d11⟩ := C_fill_29 (m := m) (by omega) 0 t10
  have hlo : ∀ x, x < 17 ∨ 30 ≤ x → t11.1 x = s.1 x := fun x hx => by rw [c11 x (by omega), c10 x (by omega), c9 x (by omega), c8 x (by omega), c7 x (by omega), c6 x (by omega), c5 x (by omega), c4 x (by omega), c3 x (by omega), c2 x (by omega), c1 x (by omega), c0 x (by omega), wI_ne (by omega)]
  have h2' : t11.2 = s.2 := by rw [d11, d10, d9, d8, d7, d6, d5, d4, d3, d2, d1, d0, wI_2]
  have h17 : t11.1 17 0 = 0 := by rw [c11 17 (by omega), c10 17 (by omega), c9 17 (by omega), c8 17 (by omega), c7 17 (by omega), c6 17 (by omega), c5 17 (by omega), c4 17 (by omega), c3 17 (by omega), c2 17 (by omega), c1 17 (by omega), c0 17 (by omega), wI_at]
  have v18 : ∀ j, j < 9 → t11.1 18 j = 0 := fun j hj => by rw [c11 18 (by omega), c10 18 (by omega), c9 18 (by omega), c8 18 (by omega), c7 18 (by omega), c6 18 (by omega), c5 18 (by omega), c4 18 (by omega), c3 18 (by omega), c2 18 (by omega), c1 18 (by omega)]; exact b0 j hj
  have v19 : ∀ j, j < 9 → t11.1 19 j = (-1) := fun j hj => by rw [c11 19 (by omega), c10 19 (by omega), c9 19 (by omega), c8 19 (by omega), c7 19 (by omega), c6 19 (by omega), c5 19 (by omega), c4 19 (by omega), c3 19 (by omega), c2 19 (by omega)]; exact b1 j hj
  have v20 : ∀ j, j < 9 → t11.1 20 j = 0 := fun j hj => by rw [c11 20 (by omega), c10 20 (by omega), c9 20 (by omega), c8 20 (by omega), c7 20 (by omega), c6 20 (by omega), c5 20 (by omega), c4 20 (by omega), c3 20 (by omega)]; exact b2 j hj
  have v21 : ∀ j, j < 36 → t11.1 21 j = (-1) := fun j hj => by rw [c11 21 (by omega), c10 21 (by omega), c9 21 (by omega), c8 21 (by omega), c7 21 (by omega), c6 21 (by omega), c5 21 (by omega), c4 21 (by omega)]; exact b3 j hj
  have v22 : ∀ j, j < 5 → t11.1 22 j = (-1) := fun j hj => by rw [c11 22 (by omega), c10 22 (by omega), c9 22 (by omega), c8 22 (by omega), c7 22 (by omega), c6 22 (by omega), c5 22 (by omega)]; exact b4 j hj
  have v23 : ∀ j, j < 5 → t11.1 23 j = 0 := fun j hj => by rw [c11 23 (by omega), c10 23 (by omega), c9 23 (by omega), c8 23 (by omega), c7 23 (by omega), c6 23 (by omega)]; exact b5 j hj
  have v24 : ∀ j, j < 5 → t11.1 24 j = 0 := fun j hj => by rw [c11 24 (by omega), c10 24 (by omega), c9 24 (by omega), c8 24 (by omega), c7 24 (by omega)]; exact b6 j hj
  have v25 : ∀ j, j < 12 → t11.1 25 j = 0 := fun j hj => by rw [c11 25 (by omega), c10 25 (by omega), c9 25 (by omega), c8 25 (by omega)]; exact b7 j hj
  have v26 : ∀ j, j < 12 → t11.1 26 j = (-1) := fun j hj => by rw [c11 26 (by omega), c10 26 (by omega), c9 26 (by omega)]; exact b8 j hj
  have v27 : ∀ j, j < 12 → t11.1 27 j = (-1) := fun j hj => by rw [c11 27 (by omega), c10 27 (by omega)]; exact b9 j hj
  have v28 : ∀ j, j < 12 → t11.1 28 j = 0 := fun j hj => by rw [c11 28 (by omega)]; exact b10 j hj
  have v29 : ∀ j, j < 12 → t11.1 29 j = 0 := fun j hj => by exact b11 j hj
  have hs : SR t11 17 (beg A) := by
    refine ⟨by rw [h17, beg_0 A (by omega) (by omega)], fun b hb => ?_, fun k hk => ?_, fun p hp => ?_, fun d hd => ?_⟩
    · rw [beg_lo A (by omega)] at hb
      rw [v18 b (by omega), v19 b (by omega), v20 b (by omega), beg_0 A (j := 86 + b) (by omega) (by omega), beg_m1 A (j := 95 + b) (by omega), beg_0 A (j := 104 + b) (by omega) (by omega), beg_0 A (j := 85) (by omega) (by omega)]
      exact ⟨rfl, rfl, rfl, by omega, by omega⟩
    · rw [beg_lo A (by omega)] at hk
      rw [v21 k (by omega), beg_m1 A (j := 113 + k) (by omega)]
    · rw [beg_lo A (by omega)] at hp
      rw [v22 p (by omega), v23 p (by omega), v24 p (by omega), beg_m1 A (j := 154 + p) (by omega), beg_0 A (j := 149 + p) (by omega) (by omega), beg_0 A (j := 159 + p) (by omega) (by omega), beg_0 A (j := 85) (by omega) (by omega)]
      exact ⟨rfl, rfl, by omega, by omega, rfl⟩
    · rw [beg_lo A (by omega)] at hd
      rw [v25 d (by omega), v26 d (by omega), v27 d (by omega), v28 d (by omega), v29 d (by omega), beg_0 A (j := 164 + d) (by omega) (by omega), beg_m1 A (j := 176 + d) (by omega), beg_m1 A (j := 188 + d) (by omega), beg_0 A (j := 200 + d) (by omega) (by omega), beg_0 A (j := 212 + d) (by omega) (by omega)]
      exact ⟨rfl, rfl, rfl, rfl, rfl⟩
  have hvB : WFv (beg A) := WFv_cg hv (fun k hk => beg_lo A hk)
  have hrB : VR t11 4 (beg A) := VR_cg (VR_keep hr (fun c x y => hlo c (by omega))) hv (fun k hk => beg_lo A hk)
  have hc : ∀ d : Nat, (d : Int) < beg A 2 → beg A (164 + d) = 0 → beg A 85 ≤ beg A (41 + d) := by
    intro d hd _
    rw [beg_lo A (by omega)] at hd
    rw [beg_0 A (j := 85) (by omega) (by omega), beg_lo A (j := 41 + d) (by omega)]
    exact (hv.2.2.2.2.2.2.2.2.1 d hd).2.2.1
  obtain ⟨r, s2, z1, z2, z3⟩ := C_arrive_17 hs hrB hvB hc (m := m) (by omega)
  refine ⟨0, s2, ?_, z2, fun x hx => by rw [z3.1 x (by omega), hlo x hx], by rw [z3.2, h2']⟩
  rw [f_St_begin_eq, a0, Option.bind_some, a1, Option.bind_some, a2, Option.bind_some, a3, Option.bind_some, a4, Option.bind_some, a5, Option.bind_some, a6, Option.bind_some, a7, Option.bind_some, a8, Option.bind_some, a9, Option.bind_some, a10, Option.bind_some, a11, Option.bind_some, z1, Option.bind_some]
