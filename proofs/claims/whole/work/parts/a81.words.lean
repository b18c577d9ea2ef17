/-! ===== written by gen_a81.py: tokenizer (5): the words ===== -/
def rwl : List (List Nat) := [[2, 15, 24], [16, 12, 15, 20], [4, 5, 1, 4], [1, 19, 11, 19], [6, 18, 15, 19, 20], [1, 9, 18], [12, 5, 14, 4], [12, 1, 25], [19, 23, 1, 16], [13, 5, 14, 4], [4, 1, 25], [15, 18], [1, 14, 4], [14, 15, 20], [3, 15, 13, 9, 14, 7], [23, 1, 9, 20, 9, 14, 7], [12, 25, 9, 14, 7], [12, 1, 9, 4], [9, 14], [11, 9, 14], [12, 15, 14, 7], [23, 1, 9, 20, 5, 4], [12, 1, 9, 14], [14, 21, 13, 2, 5, 18]]
def rws (k : Nat) : List Nat := rwl.getD k []
def cpl : List Nat := [0, 1, 2, 4, 5, 6, 7, 8, 9, 10, 11, 12, 13, 14, 15, 16, 17, 18, 19, 3, 20, 21, 22, 23]
def cpw (k : Nat) : Nat := cpl.getD k 0
theorem spw_0 (m : Nat) (hm : 10 ≤ m) (s : mS) : f_R_spelt m 98 111 120 0 0 0 0 s = some (((E27 [2, 15, 24] : Nat) : Int), s) := by
  obtain ⟨n, hn⟩ : ∃ n, m = n + 1 + 1 := ⟨m - 2, by omega⟩
  subst hn
  rw [f_R_spelt_eq, if_pos (by decide), l_R_spelt_L38_eq, if_neg (by decide), if_neg (by decide), l_R_spelt_L78_eq, if_neg (by decide), if_neg (by decide)]
  exact congrArg (fun z : Int => some (z, s)) (by decide)
theorem wow_0 (m : Nat) (hm : 10 ≤ m) (s : mS) : f_R_wordOf m 0 s = some (((E27 [2, 15, 24] : Nat) : Int), s) := by
  rw [f_R_wordOf_eq]
  simp (decide := true) only [if_true, if_false]
  rw [spw_0 m hm, Option.bind_some]
theorem spw_1 (m : Nat) (hm : 10 ≤ m) (s : mS) : f_R_spelt m 112 108 111 116 0 0 0 s = some (((E27 [16, 12, 15, 20] : Nat) : Int), s) := by
  obtain ⟨n, hn⟩ : ∃ n, m = n + 1 + 1 := ⟨m - 2, by omega⟩
  subst hn
  rw [f_R_spelt_eq, if_pos (by decide), l_R_spelt_L38_eq, if_pos (by decide), if_neg (by decide), l_R_spelt_L78_eq, if_neg (by decide), if_neg (by decide)]
  exact congrArg (fun z : Int => some (z, s)) (by decide)
theorem wow_1 (m : Nat) (hm : 10 ≤ m) (s : mS) : f_R_wordOf m 1 s = some (((E27 [16, 12, 15, 20] : Nat) : Int), s) := by
  rw [f_R_wordOf_eq]
  simp (decide := true) only [if_true, if_false]
  rw [spw_1 m hm, Option.bind_some]
theorem spw_2 (m : Nat) (hm : 10 ≤ m) (s : mS) : f_R_spelt m 100 101 97 100 0 0 0 s = some (((E27 [4, 5, 1, 4] : Nat) : Int), s) := by
  obtain ⟨n, hn⟩ : ∃ n, m = n + 1 + 1 := ⟨m - 2, by omega⟩
  subst hn
  rw [f_R_spelt_eq, if_pos (by decide), l_R_spelt_L38_eq, if_pos (by decide), if_neg (by decide), l_R_spelt_L78_eq, if_neg (by decide), if_neg (by decide)]
  exact congrArg (fun z : Int => some (z, s)) (by decide)
theorem wow_2 (m : Nat) (hm : 10 ≤ m) (s : mS) : f_R_wordOf m 2 s = some (((E27 [4, 5, 1, 4] : Nat) : Int), s) := by
  rw [f_R_wordOf_eq]
  simp (decide := true) only [if_true, if_false]
  rw [spw_2 m hm, Option.bind_some]
theorem spw_3 (m : Nat) (hm : 10 ≤ m) (s : mS) : f_R_spelt m 97 115 107 115 0 0 0 s = some (((E27 [1, 19, 11, 19] : Nat) : Int), s) := by
  obtain ⟨n, hn⟩ : ∃ n, m = n + 1 + 1 := ⟨m - 2, by omega⟩
  subst hn
  rw [f_R_spelt_eq, if_pos (by decide), l_R_spelt_L38_eq, if_pos (by decide), if_neg (by decide), l_R_spelt_L78_eq, if_neg (by decide), if_neg (by decide)]
  exact congrArg (fun z : Int => some (z, s)) (by decide)
theorem wow_3 (m : Nat) (hm : 10 ≤ m) (s : mS) : f_R_wordOf m 3 s = some (((E27 [1, 19, 11, 19] : Nat) : Int), s) := by
  rw [f_R_wordOf_eq]
  simp (decide := true) only [if_true, if_false]
  rw [spw_3 m hm, Option.bind_some]
theorem spw_4 (m : Nat) (hm : 10 ≤ m) (s : mS) : f_R_spelt m 102 114 111 115 116 0 0 s = some (((E27 [6, 18, 15, 19, 20] : Nat) : Int), s) := by
  obtain ⟨n, hn⟩ : ∃ n, m = n + 1 + 1 := ⟨m - 2, by omega⟩
  subst hn
  rw [f_R_spelt_eq, if_pos (by decide), l_R_spelt_L38_eq, if_pos (by decide), if_pos (by decide), l_R_spelt_L78_eq, if_neg (by decide), if_neg (by decide)]
  exact congrArg (fun z : Int => some (z, s)) (by decide)
theorem wow_4 (m : Nat) (hm : 10 ≤ m) (s : mS) : f_R_wordOf m 4 s = some (((E27 [6, 18, 15, 19, 20] : Nat) : Int), s) := by
  rw [f_R_wordOf_eq]
  simp (decide := true) only [if_true, if_false]
  rw [spw_4 m hm, Option.bind_some]
theorem spw_5 (m : Nat) (hm : 10 ≤ m) (s : mS) : f_R_spelt m 97 105 114 0 0 0 0 s = some (((E27 [1, 9, 18] : Nat) : Int), s) := by
  obtain ⟨n, hn⟩ : ∃ n, m = n + 1 + 1 := ⟨m - 2, by omega⟩
  subst hn
  rw [f_R_spelt_eq, if_pos (by decide), l_R_spelt_L38_eq, if_neg (by decide), if_neg (by decide), l_R_spelt_L78_eq, if_neg (by decide), if_neg (by decide)]
  exact congrArg (fun z : Int => some (z, s)) (by decide)
theorem wow_5 (m : Nat) (hm : 10 ≤ m) (s : mS) : f_R_wordOf m 5 s = some (((E27 [1, 9, 18] : Nat) : Int), s) := by
  rw [f_R_wordOf_eq]
  simp (decide := true) only [if_true, if_false]
  rw [spw_5 m hm, Option.bind_some]
theorem spw_6 (m : Nat) (hm : 10 ≤ m) (s : mS) : f_R_spelt m 108 101 110 100 0 0 0 s = some (((E27 [12, 5, 14, 4] : Nat) : Int), s) := by
  obtain ⟨n, hn⟩ : ∃ n, m = n + 1 + 1 := ⟨m - 2, by omega⟩
  subst hn
  rw [f_R_spelt_eq, if_pos (by decide), l_R_spelt_L38_eq, if_pos (by decide), if_neg (by decide), l_R_spelt_L78_eq, if_neg (by decide), if_neg (by decide)]
  exact congrArg (fun z : Int => some (z, s)) (by decide)
theorem wow_6 (m : Nat) (hm : 10 ≤ m) (s : mS) : f_R_wordOf m 6 s = some (((E27 [12, 5, 14, 4] : Nat) : Int), s) := by
  rw [f_R_wordOf_eq]
  simp (decide := true) only [if_true, if_false]
  rw [spw_6 m hm, Option.bind_some]
theorem spw_7 (m : Nat) (hm : 10 ≤ m) (s : mS) : f_R_spelt m 108 97 121 0 0 0 0 s = some (((E27 [12, 1, 25] : Nat) : Int), s) := by
  obtain ⟨n, hn⟩ : ∃ n, m = n + 1 + 1 := ⟨m - 2, by omega⟩
  subst hn
  rw [f_R_spelt_eq, if_pos (by decide), l_R_spelt_L38_eq, if_neg (by decide), if_neg (by decide), l_R_spelt_L78_eq, if_neg (by decide), if_neg (by decide)]
  exact congrArg (fun z : Int => some (z, s)) (by decide)
theorem wow_7 (m : Nat) (hm : 10 ≤ m) (s : mS) : f_R_wordOf m 7 s = some (((E27 [12, 1, 25] : Nat) : Int), s) := by
  rw [f_R_wordOf_eq]
  simp (decide := true) only [if_true, if_false]
  rw [spw_7 m hm, Option.bind_some]
theorem spw_8 (m : Nat) (hm : 10 ≤ m) (s : mS) : f_R_spelt m 115 119 97 112 0 0 0 s = some (((E27 [19, 23, 1, 16] : Nat) : Int), s) := by
  obtain ⟨n, hn⟩ : ∃ n, m = n + 1 + 1 := ⟨m - 2, by omega⟩
  subst hn
  rw [f_R_spelt_eq, if_pos (by decide), l_R_spelt_L38_eq, if_pos (by decide), if_neg (by decide), l_R_spelt_L78_eq, if_neg (by decide), if_neg (by decide)]
  exact congrArg (fun z : Int => some (z, s)) (by decide)
theorem wow_8 (m : Nat) (hm : 10 ≤ m) (s : mS) : f_R_wordOf m 8 s = some (((E27 [19, 23, 1, 16] : Nat) : Int), s) := by
  rw [f_R_wordOf_eq]
  simp (decide := true) only [if_true, if_false]
  rw [spw_8 m hm, Option.bind_some]
theorem spw_9 (m : Nat) (hm : 10 ≤ m) (s : mS) : f_R_spelt m 109 101 110 100 0 0 0 s = some (((E27 [13, 5, 14, 4] : Nat) : Int), s) := by
  obtain ⟨n, hn⟩ : ∃ n, m = n + 1 + 1 := ⟨m - 2, by omega⟩
  subst hn
  rw [f_R_spelt_eq, if_pos (by decide), l_R_spelt_L38_eq, if_pos (by decide), if_neg (by decide), l_R_spelt_L78_eq, if_neg (by decide), if_neg (by decide)]
  exact congrArg (fun z : Int => some (z, s)) (by decide)
theorem wow_9 (m : Nat) (hm : 10 ≤ m) (s : mS) : f_R_wordOf m 9 s = some (((E27 [13, 5, 14, 4] : Nat) : Int), s) := by
  rw [f_R_wordOf_eq]
  simp (decide := true) only [if_true, if_false]
  rw [spw_9 m hm, Option.bind_some]
theorem spw_10 (m : Nat) (hm : 10 ≤ m) (s : mS) : f_R_spelt m 100 97 121 0 0 0 0 s = some (((E27 [4, 1, 25] : Nat) : Int), s) := by
  obtain ⟨n, hn⟩ : ∃ n, m = n + 1 + 1 := ⟨m - 2, by omega⟩
  subst hn
  rw [f_R_spelt_eq, if_pos (by decide), l_R_spelt_L38_eq, if_neg (by decide), if_neg (by decide), l_R_spelt_L78_eq, if_neg (by decide), if_neg (by decide)]
  exact congrArg (fun z : Int => some (z, s)) (by decide)
theorem wow_10 (m : Nat) (hm : 10 ≤ m) (s : mS) : f_R_wordOf m 10 s = some (((E27 [4, 1, 25] : Nat) : Int), s) := by
  rw [f_R_wordOf_eq]
  simp (decide := true) only [if_true, if_false]
  rw [spw_10 m hm, Option.bind_some]
theorem spw_11 (m : Nat) (hm : 10 ≤ m) (s : mS) : f_R_spelt m 111 114 0 0 0 0 0 s = some (((E27 [15, 18] : Nat) : Int), s) := by
  obtain ⟨n, hn⟩ : ∃ n, m = n + 1 + 1 := ⟨m - 2, by omega⟩
  subst hn
  rw [f_R_spelt_eq, if_neg (by decide), l_R_spelt_L38_eq, if_neg (by decide), if_neg (by decide), l_R_spelt_L78_eq, if_neg (by decide), if_neg (by decide)]
  exact congrArg (fun z : Int => some (z, s)) (by decide)
theorem wow_11 (m : Nat) (hm : 10 ≤ m) (s : mS) : f_R_wordOf m 11 s = some (((E27 [15, 18] : Nat) : Int), s) := by
  rw [f_R_wordOf_eq]
  simp (decide := true) only [if_true, if_false]
  rw [spw_11 m hm, Option.bind_some]
theorem spw_12 (m : Nat) (hm : 10 ≤ m) (s : mS) : f_R_spelt m 97 110 100 0 0 0 0 s = some (((E27 [1, 14, 4] : Nat) : Int), s) := by
  obtain ⟨n, hn⟩ : ∃ n, m = n + 1 + 1 := ⟨m - 2, by omega⟩
  subst hn
  rw [f_R_spelt_eq, if_pos (by decide), l_R_spelt_L38_eq, if_neg (by decide), if_neg (by decide), l_R_spelt_L78_eq, if_neg (by decide), if_neg (by decide)]
  exact congrArg (fun z : Int => some (z, s)) (by decide)
theorem wow_12 (m : Nat) (hm : 10 ≤ m) (s : mS) : f_R_wordOf m 12 s = some (((E27 [1, 14, 4] : Nat) : Int), s) := by
  rw [f_R_wordOf_eq]
  simp (decide := true) only [if_true, if_false]
  rw [spw_12 m hm, Option.bind_some]
theorem spw_13 (m : Nat) (hm : 10 ≤ m) (s : mS) : f_R_spelt m 110 111 116 0 0 0 0 s = some (((E27 [14, 15, 20] : Nat) : Int), s) := by
  obtain ⟨n, hn⟩ : ∃ n, m = n + 1 + 1 := ⟨m - 2, by omega⟩
  subst hn
  rw [f_R_spelt_eq, if_pos (by decide), l_R_spelt_L38_eq, if_neg (by decide), if_neg (by decide), l_R_spelt_L78_eq, if_neg (by decide), if_neg (by decide)]
  exact congrArg (fun z : Int => some (z, s)) (by decide)
theorem wow_13 (m : Nat) (hm : 10 ≤ m) (s : mS) : f_R_wordOf m 13 s = some (((E27 [14, 15, 20] : Nat) : Int), s) := by
  rw [f_R_wordOf_eq]
  simp (decide := true) only [if_true, if_false]
  rw [spw_13 m hm, Option.bind_some]
theorem spw_14 (m : Nat) (hm : 10 ≤ m) (s : mS) : f_R_spelt m 99 111 109 105 110 103 0 s = some (((E27 [3, 15, 13, 9, 14, 7] : Nat) : Int), s) := by
  obtain ⟨n, hn⟩ : ∃ n, m = n + 1 + 1 := ⟨m - 2, by omega⟩
  subst hn
  rw [f_R_spelt_eq, if_pos (by decide), l_R_spelt_L38_eq, if_pos (by decide), if_pos (by decide), l_R_spelt_L78_eq, if_pos (by decide), if_neg (by decide)]
  exact congrArg (fun z : Int => some (z, s)) (by decide)
theorem wow_14 (m : Nat) (hm : 10 ≤ m) (s : mS) : f_R_wordOf m 14 s = some (((E27 [3, 15, 13, 9, 14, 7] : Nat) : Int), s) := by
  rw [f_R_wordOf_eq]
  simp (decide := true) only [if_true, if_false]
  rw [spw_14 m hm, Option.bind_some]
theorem spw_15 (m : Nat) (hm : 10 ≤ m) (s : mS) : f_R_spelt m 119 97 105 116 105 110 103 s = some (((E27 [23, 1, 9, 20, 9, 14, 7] : Nat) : Int), s) := by
  obtain ⟨n, hn⟩ : ∃ n, m = n + 1 + 1 := ⟨m - 2, by omega⟩
  subst hn
  rw [f_R_spelt_eq, if_pos (by decide), l_R_spelt_L38_eq, if_pos (by decide), if_pos (by decide), l_R_spelt_L78_eq, if_pos (by decide), if_pos (by decide)]
  exact congrArg (fun z : Int => some (z, s)) (by decide)
theorem wow_15 (m : Nat) (hm : 10 ≤ m) (s : mS) : f_R_wordOf m 15 s = some (((E27 [23, 1, 9, 20, 9, 14, 7] : Nat) : Int), s) := by
  rw [f_R_wordOf_eq]
  simp (decide := true) only [if_true, if_false]
  rw [spw_15 m hm, Option.bind_some]
theorem spw_16 (m : Nat) (hm : 10 ≤ m) (s : mS) : f_R_spelt m 108 121 105 110 103 0 0 s = some (((E27 [12, 25, 9, 14, 7] : Nat) : Int), s) := by
  obtain ⟨n, hn⟩ : ∃ n, m = n + 1 + 1 := ⟨m - 2, by omega⟩
  subst hn
  rw [f_R_spelt_eq, if_pos (by decide), l_R_spelt_L38_eq, if_pos (by decide), if_pos (by decide), l_R_spelt_L78_eq, if_neg (by decide), if_neg (by decide)]
  exact congrArg (fun z : Int => some (z, s)) (by decide)
theorem wow_16 (m : Nat) (hm : 10 ≤ m) (s : mS) : f_R_wordOf m 16 s = some (((E27 [12, 25, 9, 14, 7] : Nat) : Int), s) := by
  rw [f_R_wordOf_eq]
  simp (decide := true) only [if_true, if_false]
  rw [spw_16 m hm, Option.bind_some]
theorem spw_17 (m : Nat) (hm : 10 ≤ m) (s : mS) : f_R_spelt m 108 97 105 100 0 0 0 s = some (((E27 [12, 1, 9, 4] : Nat) : Int), s) := by
  obtain ⟨n, hn⟩ : ∃ n, m = n + 1 + 1 := ⟨m - 2, by omega⟩
  subst hn
  rw [f_R_spelt_eq, if_pos (by decide), l_R_spelt_L38_eq, if_pos (by decide), if_neg (by decide), l_R_spelt_L78_eq, if_neg (by decide), if_neg (by decide)]
  exact congrArg (fun z : Int => some (z, s)) (by decide)
theorem wow_17 (m : Nat) (hm : 10 ≤ m) (s : mS) : f_R_wordOf m 17 s = some (((E27 [12, 1, 9, 4] : Nat) : Int), s) := by
  rw [f_R_wordOf_eq]
  simp (decide := true) only [if_true, if_false]
  rw [spw_17 m hm, Option.bind_some]
theorem spw_18 (m : Nat) (hm : 10 ≤ m) (s : mS) : f_R_spelt m 105 110 0 0 0 0 0 s = some (((E27 [9, 14] : Nat) : Int), s) := by
  obtain ⟨n, hn⟩ : ∃ n, m = n + 1 + 1 := ⟨m - 2, by omega⟩
  subst hn
  rw [f_R_spelt_eq, if_neg (by decide), l_R_spelt_L38_eq, if_neg (by decide), if_neg (by decide), l_R_spelt_L78_eq, if_neg (by decide), if_neg (by decide)]
  exact congrArg (fun z : Int => some (z, s)) (by decide)
theorem wow_18 (m : Nat) (hm : 10 ≤ m) (s : mS) : f_R_wordOf m 18 s = some (((E27 [9, 14] : Nat) : Int), s) := by
  rw [f_R_wordOf_eq]
  simp (decide := true) only [if_true, if_false]
  rw [spw_18 m hm, Option.bind_some]
theorem spw_19 (m : Nat) (hm : 10 ≤ m) (s : mS) : f_R_spelt m 107 105 110 0 0 0 0 s = some (((E27 [11, 9, 14] : Nat) : Int), s) := by
  obtain ⟨n, hn⟩ : ∃ n, m = n + 1 + 1 := ⟨m - 2, by omega⟩
  subst hn
  rw [f_R_spelt_eq, if_pos (by decide), l_R_spelt_L38_eq, if_neg (by decide), if_neg (by decide), l_R_spelt_L78_eq, if_neg (by decide), if_neg (by decide)]
  exact congrArg (fun z : Int => some (z, s)) (by decide)
theorem wow_19 (m : Nat) (hm : 10 ≤ m) (s : mS) : f_R_wordOf m 19 s = some (((E27 [11, 9, 14] : Nat) : Int), s) := by
  rw [f_R_wordOf_eq]
  simp (decide := true) only [if_true, if_false]
  rw [spw_19 m hm, Option.bind_some]
theorem spw_20 (m : Nat) (hm : 10 ≤ m) (s : mS) : f_R_spelt m 108 111 110 103 0 0 0 s = some (((E27 [12, 15, 14, 7] : Nat) : Int), s) := by
  obtain ⟨n, hn⟩ : ∃ n, m = n + 1 + 1 := ⟨m - 2, by omega⟩
  subst hn
  rw [f_R_spelt_eq, if_pos (by decide), l_R_spelt_L38_eq, if_pos (by decide), if_neg (by decide), l_R_spelt_L78_eq, if_neg (by decide), if_neg (by decide)]
  exact congrArg (fun z : Int => some (z, s)) (by decide)
theorem wow_20 (m : Nat) (hm : 10 ≤ m) (s : mS) : f_R_wordOf m 20 s = some (((E27 [12, 15, 14, 7] : Nat) : Int), s) := by
  rw [f_R_wordOf_eq]
  simp (decide := true) only [if_true, if_false]
  rw [spw_20 m hm, Option.bind_some]
theorem spw_21 (m : Nat) (hm : 10 ≤ m) (s : mS) : f_R_spelt m 119 97 105 116 101 100 0 s = some (((E27 [23, 1, 9, 20, 5, 4] : Nat) : Int), s) := by
  obtain ⟨n, hn⟩ : ∃ n, m = n + 1 + 1 := ⟨m - 2, by omega⟩
  subst hn
  rw [f_R_spelt_eq, if_pos (by decide), l_R_spelt_L38_eq, if_pos (by decide), if_pos (by decide), l_R_spelt_L78_eq, if_pos (by decide), if_neg (by decide)]
  exact congrArg (fun z : Int => some (z, s)) (by decide)
theorem wow_21 (m : Nat) (hm : 10 ≤ m) (s : mS) : f_R_wordOf m 21 s = some (((E27 [23, 1, 9, 20, 5, 4] : Nat) : Int), s) := by
  rw [f_R_wordOf_eq]
  simp (decide := true) only [if_true, if_false]
  rw [spw_21 m hm, Option.bind_some]
theorem spw_22 (m : Nat) (hm : 10 ≤ m) (s : mS) : f_R_spelt m 108 97 105 110 0 0 0 s = some (((E27 [12, 1, 9, 14] : Nat) : Int), s) := by
  obtain ⟨n, hn⟩ : ∃ n, m = n + 1 + 1 := ⟨m - 2, by omega⟩
  subst hn
  rw [f_R_spelt_eq, if_pos (by decide), l_R_spelt_L38_eq, if_pos (by decide), if_neg (by decide), l_R_spelt_L78_eq, if_neg (by decide), if_neg (by decide)]
  exact congrArg (fun z : Int => some (z, s)) (by decide)
theorem wow_22 (m : Nat) (hm : 10 ≤ m) (s : mS) : f_R_wordOf m 22 s = some (((E27 [12, 1, 9, 14] : Nat) : Int), s) := by
  rw [f_R_wordOf_eq]
  simp (decide := true) only [if_true, if_false]
  rw [spw_22 m hm, Option.bind_some]
theorem spw_23 (m : Nat) (hm : 10 ≤ m) (s : mS) : f_R_spelt m 110 117 109 98 101 114 0 s = some (((E27 [14, 21, 13, 2, 5, 18] : Nat) : Int), s) := by
  obtain ⟨n, hn⟩ : ∃ n, m = n + 1 + 1 := ⟨m - 2, by omega⟩
  subst hn
  rw [f_R_spelt_eq, if_pos (by decide), l_R_spelt_L38_eq, if_pos (by decide), if_pos (by decide), l_R_spelt_L78_eq, if_pos (by decide), if_neg (by decide)]
  exact congrArg (fun z : Int => some (z, s)) (by decide)
theorem wow_23 (m : Nat) (hm : 10 ≤ m) (s : mS) : f_R_wordOf m 23 s = some (((E27 [14, 21, 13, 2, 5, 18] : Nat) : Int), s) := by
  rw [f_R_wordOf_eq]
  simp (decide := true) only [if_true, if_false]
  rw [spw_23 m hm, Option.bind_some]
theorem R_wordOf {m : Nat} (hm : 10 ≤ m) (s : mS) : ∀ k : Nat, k < 24 → f_R_wordOf m (k : Int) s = some (((E27 (rws k) : Nat) : Int), s)
  | 0, _ => wow_0 m hm s
  | 1, _ => wow_1 m hm s
  | 2, _ => wow_2 m hm s
  | 3, _ => wow_3 m hm s
  | 4, _ => wow_4 m hm s
  | 5, _ => wow_5 m hm s
  | 6, _ => wow_6 m hm s
  | 7, _ => wow_7 m hm s
  | 8, _ => wow_8 m hm s
  | 9, _ => wow_9 m hm s
  | 10, _ => wow_10 m hm s
  | 11, _ => wow_11 m hm s
  | 12, _ => wow_12 m hm s
  | 13, _ => wow_13 m hm s
  | 14, _ => wow_14 m hm s
  | 15, _ => wow_15 m hm s
  | 16, _ => wow_16 m hm s
  | 17, _ => wow_17 m hm s
  | 18, _ => wow_18 m hm s
  | 19, _ => wow_19 m hm s
  | 20, _ => wow_20 m hm s
  | 21, _ => wow_21 m hm s
  | 22, _ => wow_22 m hm s
  | 23, _ => wow_23 m hm s
  | n + 24, h => absurd h (by omega)
theorem rws_WW : ∀ k, k < 24 → WW (rws k) := by
  have : ∀ k, k < 24 → (1 ≤ (rws k).length ∧ (rws k).length ≤ 7 ∧ ∀ l ∈ rws k, 1 ≤ l ∧ l ≤ 26) := by decide
  exact this
theorem wL_rws : ∀ k, k < 24 → wL (cpw k) = ((E256 (rws k) : Nat) : Int) := by decide +kernel
theorem cpw_lt : ∀ k, k < 24 → cpw k < 24 := by decide
theorem cpw_on : ∀ j, j < 24 → ∃ k, k < 24 ∧ cpw k = j := by decide
def wixA (x : Int) : Nat → Nat → Int
  | 0, _ => -1
  | d + 1, k => if wL k = x then (k : Int) else wixA x d (k + 1)
def wix (x : Int) : Int := wixA x 24 0
theorem wixA_val (x : Int) : ∀ d k, (wixA x d k = -1 ∧ ∀ j, k ≤ j → j < k + d → wL j ≠ x) ∨ ∃ j : Nat, k ≤ j ∧ j < k + d ∧ wixA x d k = (j : Int) ∧ wL j = x
  | 0, k => Or.inl ⟨rfl, fun j h1 h2 => by omega⟩
  | d + 1, k => by
    by_cases c : wL k = x
    · exact Or.inr ⟨k, by omega, by omega, by rw [wixA, if_pos c], c⟩
    · have e : wixA x (d + 1) k = wixA x d (k + 1) := by rw [wixA, if_neg c]
      rcases wixA_val x d (k + 1) with ⟨h1, h2⟩ | ⟨j, h1, h2, h3, h4⟩
      · refine Or.inl ⟨by rw [e]; exact h1, fun j g1 g2 => ?_⟩
        by_cases q : j = k
        · rw [q]; exact c
        · exact h2 j (by omega) (by omega)
      · exact Or.inr ⟨j, by omega, by omega, by rw [e]; exact h3, h4⟩
theorem wix_val (x : Int) : (wix x = -1 ∧ ∀ j, j < 24 → wL j ≠ x) ∨ ∃ j : Nat, j < 24 ∧ wix x = (j : Int) ∧ wL j = x := by
  rcases wixA_val x 24 0 with ⟨h1, h2⟩ | ⟨j, h1, h2, h3, h4⟩
  · exact Or.inl ⟨h1, fun j hj => h2 j (by omega) (by omega)⟩
  · exact Or.inr ⟨j, by omega, h3, h4⟩
theorem wix_hit : ∀ j, j < 24 → wix (wL j) = (j : Int) := by decide +kernel
theorem cmpL0 {x y : Int} : cmpL x y = 0 ↔ x = y := by unfold cmpL; split <;> (try split) <;> omega
theorem C_WoA (m : Nat) (x : Int) (s : mS) : ∀ (d n k : Nat), k + d = 24 → d + 1 ≤ n → l_Wo_of_L2 m n x (k : Int) s = some (wixA x d k, s)
  | 0, n, k, hk, hn => by
    obtain ⟨n0, rfl⟩ : ∃ n0, n = n0 + 1 := ⟨n - 1, by omega⟩
    rw [l_Wo_of_L2_eq, if_neg (by omega)]; rfl
  | d + 1, n, k, hk, hn => by
    obtain ⟨n0, rfl⟩ : ∃ n0, n = n0 + 1 := ⟨n - 1, by omega⟩
    have g : gIn 0 (1000 + k) = true := by
      have : ∀ k, k < 24 → gIn 0 (1000 + k) = true := by decide
      exact this k (by omega)
    have g2 : wOk (some (1000 + k)) = true := by
      have : ∀ k, k < 24 → wOk (some (1000 + k)) = true := by decide
      exact this k (by omega)
    rw [l_Wo_of_L2_eq, if_pos (by omega), inR_pos (by omega) (by omega), Int.toNat_natCast, if_pos g, show 1000 + k - 1000 = k from by omega, wixA]
    by_cases c : wL k = x
    · rw [if_pos (cmpL0.mpr c), if_pos c, inR_pos (by omega) (by omega), g2]
      show some (decW (some (1000 + k)), s) = _
      have : decW (some (1000 + k)) = (k : Int) := by unfold decW; dsimp only; omega
      rw [this]
    · rw [if_neg (fun h => c (cmpL0.mp h)), if_neg c, w32_in (by omega) (by omega), show (k : Int) + 1 = ((k + 1 : Nat) : Int) from by omega]
      exact C_WoA m x s d n0 (k + 1) (by omega) (by omega)
theorem C_Wo {m : Nat} (hm : 100 ≤ m) (x : Int) (s : mS) : f_Wo_of m x s = some (wix x, s) := by
  rw [f_Wo_of_eq]
  exact C_WoA m x s 24 m 0 (by omega) (by omega)
theorem wix_eq {ws : List Nat} (h : WW ws) {k : Nat} (hk : k < 24) : (((E27 ws : Nat) : Int) = ((E27 (rws k) : Nat) : Int)) ↔ wix ((E256 ws : Nat) : Int) = (cpw k : Int) := by
  have hr := rws_WW k hk
  have c24 := cpw_lt k hk
  constructor
  · intro e
    have : ws = rws k := E27_inj ws.length ws (rws k) rfl h.2.2 hr.2.2 (by omega)
    rw [this, ← wL_rws k hk]
    exact wix_hit _ c24
  · intro e
    rcases wix_val ((E256 ws : Nat) : Int) with ⟨h1, _⟩ | ⟨j, h1, h2, h3⟩
    · omega
    · have ej : j = cpw k := by omega
      rw [ej, wL_rws k hk] at h3
      have : ws = rws k := E256_inj ws.length ws (rws k) rfl h.2.2 hr.2.2 (by omega)
      rw [this]
theorem wix_none {ws : List Nat} (h : WW ws) : wix ((E256 ws : Nat) : Int) = -1 ↔ ∀ k, k < 24 → ((E27 ws : Nat) : Int) ≠ ((E27 (rws k) : Nat) : Int) := by
  constructor
  · intro e k hk q
    have := (wix_eq h hk).mp q
    omega
  · intro hh
    rcases wix_val ((E256 ws : Nat) : Int) with ⟨h1, _⟩ | ⟨j, h1, h2, h3⟩
    · exact h1
    · obtain ⟨k, hk, e⟩ := cpw_on j h1
      exact absurd ((wix_eq h hk).mpr (by rw [h2, e])) (hh k hk)
