/-! ===== written by gen_a74.py: tag (2) ===== -/
theorem js_len_1200 (m : Nat) (s : mS) : f_Js_length_1200 m s = some (6, s) := rfl
theorem C_text_1200 {m : Nat} (hm : 1000 ≤ m) {s : mS} (h0 : 0 ≤ s.1 0 17) (h1 : s.1 0 17 ≤ 20) : f_X_tagText_0_1200 m s = some (0, ([32, 99, 111, 109, 101, 115] : List Int).foldl pushT s) := by
  obtain ⟨n, hn⟩ : ∃ n, m = n + 1 + 1 + 1 + 1 + 1 + 1 + 1 := ⟨m - 7, by omega⟩
  have stp : ∀ (k : Nat) (i : Nat) (v : Int) (u : mS), i < 6 → f_Js_charAt_1200 m (i : Int) u = some (v, u) → 0 ≤ v → v < 128 → 0 ≤ u.1 0 17 → u.1 0 17 < 32 → l_X_tagText_0_1200_L2 m (k + 1) (i : Int) u = l_X_tagText_0_1200_L2 m k ((i + 1 : Nat) : Int) (pushT u v) := by
    intro k i v u hi hc v0 v1 u0 u1
    rw [l_X_tagText_0_1200_L2_eq, js_len_1200, Option.bind_some, if_pos (by omega), hc, Option.bind_some, C_tagByte m u0 u1 v0 v1, Option.bind_some, s1w i (by omega)]
  have fin : ∀ (k : Nat) (u : mS), l_X_tagText_0_1200_L2 m (k + 1) ((6 : Nat) : Int) u = some (0, u) := by
    intro k u
    rw [l_X_tagText_0_1200_L2_eq, js_len_1200, Option.bind_some, if_neg (by omega)]
  rw [f_X_tagText_0_1200_eq]
  rw [show l_X_tagText_0_1200_L2 m m = l_X_tagText_0_1200_L2 m (n + 1 + 1 + 1 + 1 + 1 + 1 + 1) from by rw [← hn], show (0 : Int) = ((0 : Nat) : Int) from rfl]
  have q0 : (s).1 0 17 = s.1 0 17 + 0 := by omega
  rw [stp _ 0 32 _ (by omega) rfl (by omega) (by omega) (by rw [q0]; omega) (by rw [q0]; omega)]
  have q1 : (pushT (s) 32).1 0 17 = s.1 0 17 + 1 := by have := pushT_len (s) 32; omega
  rw [stp _ 1 99 _ (by omega) rfl (by omega) (by omega) (by rw [q1]; omega) (by rw [q1]; omega)]
  have q2 : (pushT (pushT (s) 32) 99).1 0 17 = s.1 0 17 + 2 := by have := pushT_len (pushT (s) 32) 99; omega
  rw [stp _ 2 111 _ (by omega) rfl (by omega) (by omega) (by rw [q2]; omega) (by rw [q2]; omega)]
  have q3 : (pushT (pushT (pushT (s) 32) 99) 111).1 0 17 = s.1 0 17 + 3 := by have := pushT_len (pushT (pushT (s) 32) 99) 111; omega
  rw [stp _ 3 109 _ (by omega) rfl (by omega) (by omega) (by rw [q3]; omega) (by rw [q3]; omega)]
  have q4 : (pushT (pushT (pushT (pushT (s) 32) 99) 111) 109).1 0 17 = s.1 0 17 + 4 := by have := pushT_len (pushT (pushT (pushT (s) 32) 99) 111) 109; omega
  rw [stp _ 4 101 _ (by omega) rfl (by omega) (by omega) (by rw [q4]; omega) (by rw [q4]; omega)]
  have q5 : (pushT (pushT (pushT (pushT (pushT (s) 32) 99) 111) 109) 101).1 0 17 = s.1 0 17 + 5 := by have := pushT_len (pushT (pushT (pushT (pushT (s) 32) 99) 111) 109) 101; omega
  rw [stp _ 5 115 _ (by omega) rfl (by omega) (by omega) (by rw [q5]; omega) (by rw [q5]; omega)]
  rw [fin]; rfl
theorem js_len_1201 (m : Nat) (s : mS) : f_Js_length_1201 m s = some (6, s) := rfl
theorem C_text_1201 {m : Nat} (hm : 1000 ≤ m) {s : mS} (h0 : 0 ≤ s.1 0 17) (h1 : s.1 0 17 ≤ 20) : f_X_tagText_0_1201 m s = some (0, ([32, 119, 97, 105, 116, 115] : List Int).foldl pushT s) := by
  obtain ⟨n, hn⟩ : ∃ n, m = n + 1 + 1 + 1 + 1 + 1 + 1 + 1 := ⟨m - 7, by omega⟩
  have stp : ∀ (k : Nat) (i : Nat) (v : Int) (u : mS), i < 6 → f_Js_charAt_1201 m (i : Int) u = some (v, u) → 0 ≤ v → v < 128 → 0 ≤ u.1 0 17 → u.1 0 17 < 32 → l_X_tagText_0_1201_L2 m (k + 1) (i : Int) u = l_X_tagText_0_1201_L2 m k ((i + 1 : Nat) : Int) (pushT u v) := by
    intro k i v u hi hc v0 v1 u0 u1
    rw [l_X_tagText_0_1201_L2_eq, js_len_1201, Option.bind_some, if_pos (by omega), hc, Option.bind_some, C_tagByte m u0 u1 v0 v1, Option.bind_some, s1w i (by omega)]
  have fin : ∀ (k : Nat) (u : mS), l_X_tagText_0_1201_L2 m (k + 1) ((6 : Nat) : Int) u = some (0, u) := by
    intro k u
    rw [l_X_tagText_0_1201_L2_eq, js_len_1201, Option.bind_some, if_neg (by omega)]
  rw [f_X_tagText_0_1201_eq]
  rw [show l_X_tagText_0_1201_L2 m m = l_X_tagText_0_1201_L2 m (n + 1 + 1 + 1 + 1 + 1 + 1 + 1) from by rw [← hn], show (0 : Int) = ((0 : Nat) : Int) from rfl]
  have q0 : (s).1 0 17 = s.1 0 17 + 0 := by omega
  rw [stp _ 0 32 _ (by omega) rfl (by omega) (by omega) (by rw [q0]; omega) (by rw [q0]; omega)]
  have q1 : (pushT (s) 32).1 0 17 = s.1 0 17 + 1 := by have := pushT_len (s) 32; omega
  rw [stp _ 1 119 _ (by omega) rfl (by omega) (by omega) (by rw [q1]; omega) (by rw [q1]; omega)]
  have q2 : (pushT (pushT (s) 32) 119).1 0 17 = s.1 0 17 + 2 := by have := pushT_len (pushT (s) 32) 119; omega
  rw [stp _ 2 97 _ (by omega) rfl (by omega) (by omega) (by rw [q2]; omega) (by rw [q2]; omega)]
  have q3 : (pushT (pushT (pushT (s) 32) 119) 97).1 0 17 = s.1 0 17 + 3 := by have := pushT_len (pushT (pushT (s) 32) 119) 97; omega
  rw [stp _ 3 105 _ (by omega) rfl (by omega) (by omega) (by rw [q3]; omega) (by rw [q3]; omega)]
  have q4 : (pushT (pushT (pushT (pushT (s) 32) 119) 97) 105).1 0 17 = s.1 0 17 + 4 := by have := pushT_len (pushT (pushT (pushT (s) 32) 119) 97) 105; omega
  rw [stp _ 4 116 _ (by omega) rfl (by omega) (by omega) (by rw [q4]; omega) (by rw [q4]; omega)]
  have q5 : (pushT (pushT (pushT (pushT (pushT (s) 32) 119) 97) 105) 116).1 0 17 = s.1 0 17 + 5 := by have := pushT_len (pushT (pushT (pushT (pushT (s) 32) 119) 97) 105) 116; omega
  rw [stp _ 5 115 _ (by omega) rfl (by omega) (by omega) (by rw [q5]; omega) (by rw [q5]; omega)]
  rw [fin]; rfl
theorem js_len_1202 (m : Nat) (s : mS) : f_Js_length_1202 m s = some (9, s) := rfl
theorem C_text_1202 {m : Nat} (hm : 1000 ≤ m) {s : mS} (h0 : 0 ≤ s.1 0 17) (h1 : s.1 0 17 ≤ 20) : f_X_tagText_0_1202 m s = some (0, ([32, 108, 105, 101, 115, 32, 105, 110, 32] : List Int).foldl pushT s) := by
  obtain ⟨n, hn⟩ : ∃ n, m = n + 1 + 1 + 1 + 1 + 1 + 1 + 1 + 1 + 1 + 1 := ⟨m - 10, by omega⟩
  have stp : ∀ (k : Nat) (i : Nat) (v : Int) (u : mS), i < 9 → f_Js_charAt_1202 m (i : Int) u = some (v, u) → 0 ≤ v → v < 128 → 0 ≤ u.1 0 17 → u.1 0 17 < 32 → l_X_tagText_0_1202_L2 m (k + 1) (i : Int) u = l_X_tagText_0_1202_L2 m k ((i + 1 : Nat) : Int) (pushT u v) := by
    intro k i v u hi hc v0 v1 u0 u1
    rw [l_X_tagText_0_1202_L2_eq, js_len_1202, Option.bind_some, if_pos (by omega), hc, Option.bind_some, C_tagByte m u0 u1 v0 v1, Option.bind_some, s1w i (by omega)]
  have fin : ∀ (k : Nat) (u : mS), l_X_tagText_0_1202_L2 m (k + 1) ((9 : Nat) : Int) u = some (0, u) := by
    intro k u
    rw [l_X_tagText_0_1202_L2_eq, js_len_1202, Option.bind_some, if_neg (by omega)]
  rw [f_X_tagText_0_1202_eq]
  rw [show l_X_tagText_0_1202_L2 m m = l_X_tagText_0_1202_L2 m (n + 1 + 1 + 1 + 1 + 1 + 1 + 1 + 1 + 1 + 1) from by rw [← hn], show (0 : Int) = ((0 : Nat) : Int) from rfl]
  have q0 : (s).1 0 17 = s.1 0 17 + 0 := by omega
  rw [stp _ 0 32 _ (by omega) rfl (by omega) (by omega) (by rw [q0]; omega) (by rw [q0]; omega)]
  have q1 : (pushT (s) 32).1 0 17 = s.1 0 17 + 1 := by have := pushT_len (s) 32; omega
  rw [stp _ 1 108 _ (by omega) rfl (by omega) (by omega) (by rw [q1]; omega) (by rw [q1]; omega)]
  have q2 : (pushT (pushT (s) 32) 108).1 0 17 = s.1 0 17 + 2 := by have := pushT_len (pushT (s) 32) 108; omega
  rw [stp _ 2 105 _ (by omega) rfl (by omega) (by omega) (by rw [q2]; omega) (by rw [q2]; omega)]
  have q3 : (pushT (pushT (pushT (s) 32) 108) 105).1 0 17 = s.1 0 17 + 3 := by have := pushT_len (pushT (pushT (s) 32) 108) 105; omega
  rw [stp _ 3 101 _ (by omega) rfl (by omega) (by omega) (by rw [q3]; omega) (by rw [q3]; omega)]
  have q4 : (pushT (pushT (pushT (pushT (s) 32) 108) 105) 101).1 0 17 = s.1 0 17 + 4 := by have := pushT_len (pushT (pushT (pushT (s) 32) 108) 105) 101; omega
  rw [stp _ 4 115 _ (by omega) rfl (by omega) (by omega) (by rw [q4]; omega) (by rw [q4]; omega)]
  have q5 : (pushT (pushT (pushT (pushT (pushT (s) 32) 108) 105) 101) 115).1 0 17 = s.1 0 17 + 5 := by have := pushT_len (pushT (pushT (pushT (pushT (s) 32) 108) 105) 101) 115; omega
  rw [stp _ 5 32 _ (by omega) rfl (by omega) (by omega) (by rw [q5]; omega) (by rw [q5]; omega)]
  have q6 : (pushT (pushT (pushT (pushT (pushT (pushT (s) 32) 108) 105) 101) 115) 32).1 0 17 = s.1 0 17 + 6 := by have := pushT_len (pushT (pushT (pushT (pushT (pushT (s) 32) 108) 105) 101) 115) 32; omega
  rw [stp _ 6 105 _ (by omega) rfl (by omega) (by omega) (by rw [q6]; omega) (by rw [q6]; omega)]
  have q7 : (pushT (pushT (pushT (pushT (pushT (pushT (pushT (s) 32) 108) 105) 101) 115) 32) 105).1 0 17 = s.1 0 17 + 7 := by have := pushT_len (pushT (pushT (pushT (pushT (pushT (pushT (s) 32) 108) 105) 101) 115) 32) 105; omega
  rw [stp _ 7 110 _ (by omega) rfl (by omega) (by omega) (by rw [q7]; omega) (by rw [q7]; omega)]
  have q8 : (pushT (pushT (pushT (pushT (pushT (pushT (pushT (pushT (s) 32) 108) 105) 101) 115) 32) 105) 110).1 0 17 = s.1 0 17 + 8 := by have := pushT_len (pushT (pushT (pushT (pushT (pushT (pushT (pushT (s) 32) 108) 105) 101) 115) 32) 105) 110; omega
  rw [stp _ 8 32 _ (by omega) rfl (by omega) (by omega) (by rw [q8]; omega) (by rw [q8]; omega)]
  rw [fin]; rfl
theorem js_len_1203 (m : Nat) (s : mS) : f_Js_length_1203 m s = some (9, s) := rfl
theorem C_text_1203 {m : Nat} (hm : 1000 ≤ m) {s : mS} (h0 : 0 ≤ s.1 0 17) (h1 : s.1 0 17 ≤ 20) : f_X_tagText_0_1203 m s = some (0, ([32, 108, 97, 105, 100, 32, 105, 110, 32] : List Int).foldl pushT s) := by
  obtain ⟨n, hn⟩ : ∃ n, m = n + 1 + 1 + 1 + 1 + 1 + 1 + 1 + 1 + 1 + 1 := ⟨m - 10, by omega⟩
  have stp : ∀ (k : Nat) (i : Nat) (v : Int) (u : mS), i < 9 → f_Js_charAt_1203 m (i : Int) u = some (v, u) → 0 ≤ v → v < 128 → 0 ≤ u.1 0 17 → u.1 0 17 < 32 → l_X_tagText_0_1203_L2 m (k + 1) (i : Int) u = l_X_tagText_0_1203_L2 m k ((i + 1 : Nat) : Int) (pushT u v) := by
    intro k i v u hi hc v0 v1 u0 u1
    rw [l_X_tagText_0_1203_L2_eq, js_len_1203, Option.bind_some, if_pos (by omega), hc, Option.bind_some, C_tagByte m u0 u1 v0 v1, Option.bind_some, s1w i (by omega)]
  have fin : ∀ (k : Nat) (u : mS), l_X_tagText_0_1203_L2 m (k + 1) ((9 : Nat) : Int) u = some (0, u) := by
    intro k u
    rw [l_X_tagText_0_1203_L2_eq, js_len_1203, Option.bind_some, if_neg (by omega)]
  rw [f_X_tagText_0_1203_eq]
  rw [show l_X_tagText_0_1203_L2 m m = l_X_tagText_0_1203_L2 m (n + 1 + 1 + 1 + 1 + 1 + 1 + 1 + 1 + 1 + 1) from by rw [← hn], show (0 : Int) = ((0 : Nat) : Int) from rfl]
  have q0 : (s).1 0 17 = s.1 0 17 + 0 := by omega
  rw [stp _ 0 32 _ (by omega) rfl (by omega) (by omega) (by rw [q0]; omega) (by rw [q0]; omega)]
  have q1 : (pushT (s) 32).1 0 17 = s.1 0 17 + 1 := by have := pushT_len (s) 32; omega
  rw [stp _ 1 108 _ (by omega) rfl (by omega) (by omega) (by rw [q1]; omega) (by rw [q1]; omega)]
  have q2 : (pushT (pushT (s) 32) 108).1 0 17 = s.1 0 17 + 2 := by have := pushT_len (pushT (s) 32) 108; omega
  rw [stp _ 2 97 _ (by omega) rfl (by omega) (by omega) (by rw [q2]; omega) (by rw [q2]; omega)]
  have q3 : (pushT (pushT (pushT (s) 32) 108) 97).1 0 17 = s.1 0 17 + 3 := by have := pushT_len (pushT (pushT (s) 32) 108) 97; omega
  rw [stp _ 3 105 _ (by omega) rfl (by omega) (by omega) (by rw [q3]; omega) (by rw [q3]; omega)]
  have q4 : (pushT (pushT (pushT (pushT (s) 32) 108) 97) 105).1 0 17 = s.1 0 17 + 4 := by have := pushT_len (pushT (pushT (pushT (s) 32) 108) 97) 105; omega
  rw [stp _ 4 100 _ (by omega) rfl (by omega) (by omega) (by rw [q4]; omega) (by rw [q4]; omega)]
  have q5 : (pushT (pushT (pushT (pushT (pushT (s) 32) 108) 97) 105) 100).1 0 17 = s.1 0 17 + 5 := by have := pushT_len (pushT (pushT (pushT (pushT (s) 32) 108) 97) 105) 100; omega
  rw [stp _ 5 32 _ (by omega) rfl (by omega) (by omega) (by rw [q5]; omega) (by rw [q5]; omega)]
  have q6 : (pushT (pushT (pushT (pushT (pushT (pushT (s) 32) 108) 97) 105) 100) 32).1 0 17 = s.1 0 17 + 6 := by have := pushT_len (pushT (pushT (pushT (pushT (pushT (s) 32) 108) 97) 105) 100) 32; omega
  rw [stp _ 6 105 _ (by omega) rfl (by omega) (by omega) (by rw [q6]; omega) (by rw [q6]; omega)]
  have q7 : (pushT (pushT (pushT (pushT (pushT (pushT (pushT (s) 32) 108) 97) 105) 100) 32) 105).1 0 17 = s.1 0 17 + 7 := by have := pushT_len (pushT (pushT (pushT (pushT (pushT (pushT (s) 32) 108) 97) 105) 100) 32) 105; omega
  rw [stp _ 7 110 _ (by omega) rfl (by omega) (by omega) (by rw [q7]; omega) (by rw [q7]; omega)]
  have q8 : (pushT (pushT (pushT (pushT (pushT (pushT (pushT (pushT (s) 32) 108) 97) 105) 100) 32) 105) 110).1 0 17 = s.1 0 17 + 8 := by have := pushT_len (pushT (pushT (pushT (pushT (pushT (pushT (pushT (s) 32) 108) 97) 105) 100) 32) 105) 110; omega
  rw [stp _ 8 32 _ (by omega) rfl (by omega) (by omega) (by rw [q8]; omega) (by rw [q8]; omega)]
  rw [fin]; rfl
theorem sp_comes (m : Nat) (hm : 10 ≤ m) (s : mS) : f_R_spelt m 99 111 109 101 115 0 0 s = some (((E27 [3, 15, 13, 5, 19] : Nat) : Int), s) := by
  obtain ⟨n, hn⟩ : ∃ n, m = n + 1 + 1 := ⟨m - 2, by omega⟩
  subst hn
  rw [f_R_spelt_eq, if_pos (by decide), l_R_spelt_L38_eq, if_pos (by decide), if_pos (by decide), l_R_spelt_L78_eq, if_neg (by decide), if_neg (by decide)]
  exact congrArg (fun z : Int => some (z, s)) (by decide)
theorem sp_waits (m : Nat) (hm : 10 ≤ m) (s : mS) : f_R_spelt m 119 97 105 116 115 0 0 s = some (((E27 [23, 1, 9, 20, 19] : Nat) : Int), s) := by
  obtain ⟨n, hn⟩ : ∃ n, m = n + 1 + 1 := ⟨m - 2, by omega⟩
  subst hn
  rw [f_R_spelt_eq, if_pos (by decide), l_R_spelt_L38_eq, if_pos (by decide), if_pos (by decide), l_R_spelt_L78_eq, if_neg (by decide), if_neg (by decide)]
  exact congrArg (fun z : Int => some (z, s)) (by decide)
theorem sp_lies (m : Nat) (hm : 10 ≤ m) (s : mS) : f_R_spelt m 108 105 101 115 0 0 0 s = some (((E27 [12, 9, 5, 19] : Nat) : Int), s) := by
  obtain ⟨n, hn⟩ : ∃ n, m = n + 1 + 1 := ⟨m - 2, by omega⟩
  subst hn
  rw [f_R_spelt_eq, if_pos (by decide), l_R_spelt_L38_eq, if_pos (by decide), if_neg (by decide), l_R_spelt_L78_eq, if_neg (by decide), if_neg (by decide)]
  exact congrArg (fun z : Int => some (z, s)) (by decide)
theorem sp_laid (m : Nat) (hm : 10 ≤ m) (s : mS) : f_R_spelt m 108 97 105 100 0 0 0 s = some (((E27 [12, 1, 9, 4] : Nat) : Int), s) := by
  obtain ⟨n, hn⟩ : ∃ n, m = n + 1 + 1 := ⟨m - 2, by omega⟩
  subst hn
  rw [f_R_spelt_eq, if_pos (by decide), l_R_spelt_L38_eq, if_pos (by decide), if_neg (by decide), l_R_spelt_L78_eq, if_neg (by decide), if_neg (by decide)]
  exact congrArg (fun z : Int => some (z, s)) (by decide)
theorem sp_in (m : Nat) (hm : 10 ≤ m) (s : mS) : f_R_spelt m 105 110 0 0 0 0 0 s = some (((E27 [9, 14] : Nat) : Int), s) := by
  obtain ⟨n, hn⟩ : ∃ n, m = n + 1 + 1 := ⟨m - 2, by omega⟩
  subst hn
  rw [f_R_spelt_eq, if_neg (by decide), l_R_spelt_L38_eq, if_neg (by decide), if_neg (by decide), l_R_spelt_L78_eq, if_neg (by decide), if_neg (by decide)]
  exact congrArg (fun z : Int => some (z, s)) (by decide)
theorem wo_18 {m : Nat} (hm : 10 ≤ m) (s : mS) : f_R_wordOf m 18 s = some (((E27 [9, 14] : Nat) : Int), s) := by
  rw [f_R_wordOf_eq]
  simp (decide := true) only [if_true, if_false]
  rw [sp_in m hm, Option.bind_some]
theorem wo_17 {m : Nat} (hm : 10 ≤ m) (s : mS) : f_R_wordOf m 17 s = some (((E27 [12, 1, 9, 4] : Nat) : Int), s) := by
  rw [f_R_wordOf_eq]
  simp (decide := true) only [if_true, if_false]
  rw [sp_laid m hm, Option.bind_some]
theorem R_next1 {m : Nat} {ws : List Nat} (h : WW ws) {s : mS} (h0 : 0 ≤ s.1 249 35) (h1 : s.1 249 35 ≤ 38) : f_R_writeNext m ((E27 ws : Nat) : Int) s = some (0, (32 :: lets ws).foldl pushW s) := by
  have l := pushW_len s 32
  obtain ⟨k, hk⟩ : ∃ k, ws.length = k + 1 := ⟨ws.length - 1, by have := h.1; omega⟩
  have h7 := h.2.1
  rw [f_R_writeNext_eq, R_write m 32 h0 (by omega), Option.bind_some, R_word m k ws 63 (pushW s 32) hk (by omega) (by omega) (fun l hl => h.2.2 l hl) (by omega) (by omega), Option.bind_some]
  rfl
theorem WW_w (ws : List Nat) (h1 : 1 ≤ ws.length ∧ ws.length ≤ 7) (h2 : ws.all (fun l => decide (1 ≤ l) && decide (l ≤ 26)) = true) : WW ws := by
  refine ⟨h1.1, h1.2, fun l hl => ?_⟩
  have := List.all_eq_true.mp h2 l hl
  simpa using this
theorem lets_len (ws : List Nat) : (lets ws).length = ws.length := by unfold lets; simp
/-- the tag, byte by byte -/
theorem tag_rel {s s1 s2 : mS} (h : Inv s) {bs : List Int} (hb : ∀ v ∈ bs, 0 ≤ v ∧ v < 128) (hl : bs.length ≤ 32)
    (e1 : s1 = bs.foldl pushT (wI s 0 17 0)) (e2 : s2 = bs.foldl pushW (wI (wI s1 249 0 0) 249 35 0)) : s1.1 0 17 = bs.length ∧ s2.1 249 35 = bs.length ∧ Inv s2 := by
  obtain ⟨a1, a2, a3, a4, a5⟩ := pushT_all bs (wI s 0 17 0) (by rw [wI_at]; omega)
  rw [← e1] at a1 a2 a3 a4 a5
  rw [wI_at] at a1 a5
  obtain ⟨b1, b2, b3, b4, b5⟩ := pushW_all bs (wI (wI s1 249 0 0) 249 35 0) (by rw [wI_at]; omega)
  rw [← e2] at b1 b2 b3 b4 b5
  rw [wI_at] at b1 b5
  have g : ∀ c, c ≠ 0 → c ≠ 247 → c ≠ 249 → c ≠ 265 → s2.1 c = s.1 c := fun c x y z w => by rw [b3 c z w, wI_ne z, wI_ne z, a3 c x y, wI_ne x]
  have g0 : ∀ k, k ≠ 17 → s2.1 0 k = s.1 0 k := fun k hk => by rw [b3 0 (by decide) (by decide), wI_ne (by decide), wI_ne (by decide), a4 k hk, wI_f hk]
  have g9 : ∀ k, k ≠ 0 → k ≠ 35 → s2.1 249 k = s.1 249 k := fun k x y => by rw [b4 k y, wI_f y, wI_f x, a3 249 (by decide) (by decide), wI_ne (by decide)]
  have gj : s2.2 = s.2 := by rw [b2]; show s1.2 = s.2; rw [a2]; rfl
  have r1 : s1.1 0 17 = bs.length := by rw [a1]; omega
  have r2 : s2.1 249 35 = bs.length := by rw [b1]; omega
  refine ⟨r1, r2, ?_⟩
  have q0 : s2.1 0 17 = bs.length := by rw [b3 0 (by decide) (by decide), wI_ne (by decide), wI_ne (by decide)]; exact r1
  obtain ⟨g1, g2, g3, g4, g5, g6, g7, g8, g99, g10⟩ := h
  refine ⟨?_, pTape_keep g2 (by rw [g 1 (by omega) (by omega) (by omega) (by omega)]) (g _ (by omega) (by omega) (by omega) (by omega)) (g9 _ (by omega) (by omega)) (g _ (by omega) (by omega) (by omega) (by omega)), pMisc_keep g3 (g0 _ (by omega)) (g0 _ (by omega)) (g0 _ (by omega)) (g9 _ (by omega) (by omega)) (g9 _ (by omega) (by omega)) (g9 _ (by omega) (by omega)), pRing_keep g4 (g0 _ (by omega)) (g9 _ (by omega) (by omega)) (g _ (by omega) (by omega) (by omega) (by omega)) (g _ (by omega) (by omega) (by omega) (by omega)), ?_, pTold_keep g6 (g0 _ (by omega)) (g9 _ (by omega) (by omega)) (g _ (by omega) (by omega) (by omega) (by omega)) (g _ (by omega) (by omega) (by omega) (by omega)), pMatch_keep g7 (g9 _ (by omega) (by omega)) (g _ (by omega) (by omega) (by omega) (by omega)) (g _ (by omega) (by omega) (by omega) (by omega)), pImg_keep g8 (fun c _ _ => g c (by omega) (by omega) (by omega) (by omega)) (fun c _ _ => by rw [gj]) (g _ (by omega) (by omega) (by omega) (by omega)) (by rw [gj]) (g _ (by omega) (by omega) (by omega) (by omega)), pImg_keep g99 (fun c _ _ => g c (by omega) (by omega) (by omega) (by omega)) (fun c _ _ => by rw [gj]) (g _ (by omega) (by omega) (by omega) (by omega)) (by rw [gj]) (g _ (by omega) (by omega) (by omega) (by omega)), pPast_keep g10 (g _ (by omega) (by omega) (by omega) (by omega)) (g9 _ (by omega) (by omega)) (fun i _ k _ => by rw [pastRow_keep (s := s) (s' := s2) (g _ (by omega) (by omega) (by omega) (by omega)) (g _ (by omega) (by omega) (by omega) (by omega))]) (fun c _ _ => g c (by omega) (by omega) (by omega) (by omega))⟩
  · rw [g 251 (by omega) (by omega) (by omega) (by omega), gj]
    exact World_keep g1 (fun c _ _ => g c (by omega) (by omega) (by omega) (by omega)) (fun c _ _ => by rw [gj]) (fun c _ _ => g c (by omega) (by omega) (by omega) (by omega)) (fun c _ _ => g c (by omega) (by omega) (by omega) (by omega))
  · refine ⟨by rw [q0, r2], by omega, by omega, fun k hk => ?_⟩
    rw [r2] at hk
    have c1 := a5 k
    have c2 := b5 k
    rw [show (0 : Int).toNat = 0 from rfl, if_pos (by omega), Nat.sub_zero] at c1 c2
    have q7 : s2.1 247 k = bs.getD k 0 := by rw [b3 247 (by decide) (by decide), wI_ne (by decide), wI_ne (by decide), c1]
    rw [q7, c2]
    have hm : bs.getD k 0 ∈ bs := by
      rw [List.getD_eq_getElem?_getD, List.getElem?_eq_getElem (by omega)]
      exact List.getElem_mem _
    have := hb _ hm
    unfold can
    omega
