/-! ===== layer 3: tag (3) ===== -/
theorem ix14 {α : Type} {d N : Nat} {x : Option α} (h : 14 + d < N ∧ N < 100000) : inR (w32 (14 + (d : Int))) N x = x := ix_in (c := 14) h
theorem ix14n {d : Nat} (h : 14 + d < 100000) : (w32 (14 + (d : Int))).toNat = 14 + d := ix_n (c := 14) h
theorem ix9 {α : Type} {d N : Nat} {x : Option α} (h : 9 + d < N ∧ N < 100000) : inR (w32 (9 + (d : Int))) N x = x := ix_in (c := 9) h
theorem ix9n {d : Nat} (h : 9 + d < 100000) : (w32 (9 + (d : Int))).toNat = 9 + d := ix_n (c := 9) h
theorem lets_in {ws : List Nat} (h : WW ws) : ∀ v ∈ lets ws, 0 ≤ v ∧ v < 128 := by
  intro v hv
  unfold lets at hv
  obtain ⟨l, hl, rfl⟩ := List.mem_map.mp hv
  have := h.2.2 l hl
  omega

theorem R_nextL {m : Nat} {ws : List Nat} {L : List Int} (h : WW ws) (hL : 32 :: lets ws = L) {s : mS} (h0 : 0 ≤ s.1 249 35) (h1 : s.1 249 35 ≤ 38) : f_R_writeNext m ((E27 ws : Nat) : Int) s = some (0, L.foldl pushW s) := by rw [← hL]; exact R_next1 h h0 h1
theorem nx_comes {m : Nat} {s : mS} (h0 : 0 ≤ s.1 249 35) (h1 : s.1 249 35 ≤ 38) : f_R_writeNext m ((E27 [3, 15, 13, 5, 19] : Nat) : Int) s = some (0, [32, 99, 111, 109, 101, 115].foldl pushW s) := R_nextL (WW_w _ (by decide) (by decide)) (by decide) h0 h1
theorem nx_waits {m : Nat} {s : mS} (h0 : 0 ≤ s.1 249 35) (h1 : s.1 249 35 ≤ 38) : f_R_writeNext m ((E27 [23, 1, 9, 20, 19] : Nat) : Int) s = some (0, [32, 119, 97, 105, 116, 115].foldl pushW s) := R_nextL (WW_w _ (by decide) (by decide)) (by decide) h0 h1
theorem nx_lies {m : Nat} {s : mS} (h0 : 0 ≤ s.1 249 35) (h1 : s.1 249 35 ≤ 38) : f_R_writeNext m ((E27 [12, 9, 5, 19] : Nat) : Int) s = some (0, [32, 108, 105, 101, 115].foldl pushW s) := R_nextL (WW_w _ (by decide) (by decide)) (by decide) h0 h1
theorem nx_laid {m : Nat} {s : mS} (h0 : 0 ≤ s.1 249 35) (h1 : s.1 249 35 ≤ 38) : f_R_writeNext m ((E27 [12, 1, 9, 4] : Nat) : Int) s = some (0, [32, 108, 97, 105, 100].foldl pushW s) := R_nextL (WW_w _ (by decide) (by decide)) (by decide) h0 h1
theorem nx_in {m : Nat} {s : mS} (h0 : 0 ≤ s.1 249 35) (h1 : s.1 249 35 ≤ 38) : f_R_writeNext m ((E27 [9, 14] : Nat) : Int) s = some (0, [32, 105, 110].foldl pushW s) := R_nextL (WW_w _ (by decide) (by decide)) (by decide) h0 h1
theorem R_comesC {m : Nat} (hm : 10 ≤ m) {p : mS} (h0 : 0 ≤ p.1 249 35) (h1 : p.1 249 35 ≤ 38) : ((f_R_spelt m 99 111 109 101 115 0 0 p).bind fun p2 => ((f_R_writeNext m p2.1 p2.2).bind fun p3 => (some (p3.2.1 249 35, p3.2)))) = some (([32, 99, 111, 109, 101, 115].foldl pushW p).1 249 35, [32, 99, 111, 109, 101, 115].foldl pushW p) := by
  rw [sp_comes m hm, Option.bind_some]
  dsimp only
  rw [nx_comes h0 h1, Option.bind_some]
theorem R_waitsC {m : Nat} (hm : 10 ≤ m) {p : mS} (h0 : 0 ≤ p.1 249 35) (h1 : p.1 249 35 ≤ 38) : ((f_R_spelt m 119 97 105 116 115 0 0 p).bind fun p2 => ((f_R_writeNext m p2.1 p2.2).bind fun p3 => (some (p3.2.1 249 35, p3.2)))) = some (([32, 119, 97, 105, 116, 115].foldl pushW p).1 249 35, [32, 119, 97, 105, 116, 115].foldl pushW p) := by
  rw [sp_waits m hm, Option.bind_some]
  dsimp only
  rw [nx_waits h0 h1, Option.bind_some]

theorem R_liesC {m d b : Nat} (hm : 10 ≤ m) {p : mS} {wb : List Nat} (hwb : WW wb) (h0 : 0 ≤ p.1 249 35) (h1 : p.1 249 35 ≤ 20) (hd : d < 12) (hb : p.1 251 (176 + d) = (b : Int)) (hbb : b < 9) (hy : p.2 257 (b) = ((E27 wb : Nat) : Int)) :
    ((f_R_spelt m 108 105 101 115 0 0 0 p).bind fun p2 => ((f_R_writeNext m p2.1 p2.2).bind fun p3 => ((f_R_wordOf m 18 p3.2).bind fun p4 => ((f_R_writeNext m p4.1 p4.2).bind fun p5 => (inR (w32 (176 + (d : Int))) 466 (inR (p5.2.1 251 (w32 (176 + (d : Int))).toNat) 26 ((f_R_writeNext m (p5.2.2 257 (p5.2.1 251 (w32 (176 + (d : Int))).toNat).toNat) p5.2).bind fun p6 => (some (p6.2.1 249 35, p6.2))))))))) = some (((([32, 108, 105, 101, 115, 32, 105, 110, 32] : List Int) ++ lets wb).foldl pushW p).1 249 35, (([32, 108, 105, 101, 115, 32, 105, 110, 32] : List Int) ++ lets wb).foldl pushW p) := by
  rw [sp_lies m hm, Option.bind_some]
  dsimp only
  rw [nx_lies h0 (by omega), Option.bind_some]
  dsimp only
  obtain ⟨r1, r2, r3, -, -⟩ := pushW_all [32, 108, 105, 101, 115] p h0
  have r1' : (([32, 108, 105, 101, 115] : List Int).foldl pushW p).1 249 35 = p.1 249 35 + 5 := r1
  have r51 := r3 251 (by decide) (by decide)
  have e : (([32, 108, 105, 101, 115, 32, 105, 110, 32] : List Int) ++ lets wb).foldl pushW p = (32 :: lets wb).foldl pushW (([32, 105, 110] : List Int).foldl pushW (([32, 108, 105, 101, 115] : List Int).foldl pushW p)) := by rw [← List.foldl_append, ← List.foldl_append]; simp
  rw [e]
  clear e r1 r3
  generalize ([32, 108, 105, 101, 115] : List Int).foldl pushW p = p1 at r1' r2 r51
  rw [wo_18 hm, Option.bind_some]
  dsimp only
  rw [nx_in (by omega) (by omega), Option.bind_some]
  dsimp only
  obtain ⟨f1, f2, f3, -, -⟩ := pushW_all [32, 105, 110] p1 (by omega)
  have f1' : (([32, 105, 110] : List Int).foldl pushW p1).1 249 35 = p1.1 249 35 + 3 := f1
  have f51 := f3 251 (by decide) (by decide)
  clear f1 f3
  generalize ([32, 105, 110] : List Int).foldl pushW p1 = p2 at f1' f2 f51
  have g51 : p2.1 251 (176 + d) = (b : Int) := by rw [f51, r51]; exact hb
  have g57 : p2.2 257 (b) = ((E27 wb : Nat) : Int) := by rw [f2, r2]; exact hy
  rw [ix176 (by omega), ix176n (by omega), g51, inR_pos (by omega) (by omega), Int.toNat_natCast, g57, R_next1 hwb (by omega) (by omega), Option.bind_some]

theorem R_laidC {m d b : Nat} (hm : 10 ≤ m) {p : mS} {wb : List Nat} (hwb : WW wb) (h0 : 0 ≤ p.1 249 35) (h1 : p.1 249 35 ≤ 20) (hd : d < 12) (hb : p.1 251 (188 + d) = (b : Int)) (hbb : b < 9) (hy : p.2 257 (9 + b) = ((E27 wb : Nat) : Int)) :
    ((f_R_wordOf m 17 p).bind fun p2 => ((f_R_writeNext m p2.1 p2.2).bind fun p3 => ((f_R_wordOf m 18 p3.2).bind fun p4 => ((f_R_writeNext m p4.1 p4.2).bind fun p5 => (inR (w32 (188 + (d : Int))) 466 (inR (w32 (9 + (p5.2.1 251 (w32 (188 + (d : Int))).toNat))) 26 ((f_R_writeNext m (p5.2.2 257 (w32 (9 + (p5.2.1 251 (w32 (188 + (d : Int))).toNat))).toNat) p5.2).bind fun p6 => (some (p6.2.1 249 35, p6.2))))))))) = some (((([32, 108, 97, 105, 100, 32, 105, 110, 32] : List Int) ++ lets wb).foldl pushW p).1 249 35, (([32, 108, 97, 105, 100, 32, 105, 110, 32] : List Int) ++ lets wb).foldl pushW p) := by
  rw [wo_17 hm, Option.bind_some]
  dsimp only
  rw [nx_laid h0 (by omega), Option.bind_some]
  dsimp only
  obtain ⟨r1, r2, r3, -, -⟩ := pushW_all [32, 108, 97, 105, 100] p h0
  have r1' : (([32, 108, 97, 105, 100] : List Int).foldl pushW p).1 249 35 = p.1 249 35 + 5 := r1
  have r51 := r3 251 (by decide) (by decide)
  have e : (([32, 108, 97, 105, 100, 32, 105, 110, 32] : List Int) ++ lets wb).foldl pushW p = (32 :: lets wb).foldl pushW (([32, 105, 110] : List Int).foldl pushW (([32, 108, 97, 105, 100] : List Int).foldl pushW p)) := by rw [← List.foldl_append, ← List.foldl_append]; simp
  rw [e]
  clear e r1 r3
  generalize ([32, 108, 97, 105, 100] : List Int).foldl pushW p = p1 at r1' r2 r51
  rw [wo_18 hm, Option.bind_some]
  dsimp only
  rw [nx_in (by omega) (by omega), Option.bind_some]
  dsimp only
  obtain ⟨f1, f2, f3, -, -⟩ := pushW_all [32, 105, 110] p1 (by omega)
  have f1' : (([32, 105, 110] : List Int).foldl pushW p1).1 249 35 = p1.1 249 35 + 3 := f1
  have f51 := f3 251 (by decide) (by decide)
  clear f1 f3
  generalize ([32, 105, 110] : List Int).foldl pushW p1 = p2 at f1' f2 f51
  have g51 : p2.1 251 (188 + d) = (b : Int) := by rw [f51, r51]; exact hb
  have g57 : p2.2 257 (9 + b) = ((E27 wb : Nat) : Int) := by rw [f2, r2]; exact hy
  rw [ix188 (by omega), ix188n (by omega), g51, ix9 (by omega), ix9n (by omega), g57, R_next1 hwb (by omega) (by omega), Option.bind_some]
