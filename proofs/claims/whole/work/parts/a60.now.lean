/-! ===== written by gen_a60.py: sets as bits; now ===== -/
theorem ix_in {α : Type} {c d N : Nat} {x : Option α} (h : c + d < N ∧ N < 100000) : inR (w32 (((c : Nat) : Int) + (d : Int))) N x = x := by
  have e : w32 (((c : Nat) : Int) + (d : Int)) = ((c + d : Nat) : Int) := by rw [w32_in (by omega) (by omega)]; omega
  rw [e]; exact inR_pos (by omega) (by omega)
theorem ix_n {c d : Nat} (h : c + d < 100000) : (w32 (((c : Nat) : Int) + (d : Int))).toNat = c + d := by rw [w32_in (by omega) (by omega)]; omega
theorem ix6 {α : Type} {d N : Nat} {x : Option α} (h : 6 + d < N ∧ N < 100000) : inR (w32 (6 + (d : Int))) N x = x := ix_in (c := 6) h
theorem ix6n {d : Nat} (h : 6 + d < 100000) : (w32 (6 + (d : Int))).toNat = 6 + d := ix_n (c := 6) h
theorem ix15 {α : Type} {d N : Nat} {x : Option α} (h : 15 + d < N ∧ N < 100000) : inR (w32 (15 + (d : Int))) N x = x := ix_in (c := 15) h
theorem ix15n {d : Nat} (h : 15 + d < 100000) : (w32 (15 + (d : Int))).toNat = 15 + d := ix_n (c := 15) h
theorem ix24 {α : Type} {d N : Nat} {x : Option α} (h : 24 + d < N ∧ N < 100000) : inR (w32 (24 + (d : Int))) N x = x := ix_in (c := 24) h
theorem ix24n {d : Nat} (h : 24 + d < 100000) : (w32 (24 + (d : Int))).toNat = 24 + d := ix_n (c := 24) h
theorem ix29 {α : Type} {d N : Nat} {x : Option α} (h : 29 + d < N ∧ N < 100000) : inR (w32 (29 + (d : Int))) N x = x := ix_in (c := 29) h
theorem ix29n {d : Nat} (h : 29 + d < 100000) : (w32 (29 + (d : Int))).toNat = 29 + d := ix_n (c := 29) h
theorem ix41 {α : Type} {d N : Nat} {x : Option α} (h : 41 + d < N ∧ N < 100000) : inR (w32 (41 + (d : Int))) N x = x := ix_in (c := 41) h
theorem ix41n {d : Nat} (h : 41 + d < 100000) : (w32 (41 + (d : Int))).toNat = 41 + d := ix_n (c := 41) h
theorem ix53 {α : Type} {d N : Nat} {x : Option α} (h : 53 + d < N ∧ N < 100000) : inR (w32 (53 + (d : Int))) N x = x := ix_in (c := 53) h
theorem ix53n {d : Nat} (h : 53 + d < 100000) : (w32 (53 + (d : Int))).toNat = 53 + d := ix_n (c := 53) h
theorem ix65 {α : Type} {d N : Nat} {x : Option α} (h : 65 + d < N ∧ N < 100000) : inR (w32 (65 + (d : Int))) N x = x := ix_in (c := 65) h
theorem ix65n {d : Nat} (h : 65 + d < 100000) : (w32 (65 + (d : Int))).toNat = 65 + d := ix_n (c := 65) h
theorem ix86 {α : Type} {d N : Nat} {x : Option α} (h : 86 + d < N ∧ N < 100000) : inR (w32 (86 + (d : Int))) N x = x := ix_in (c := 86) h
theorem ix86n {d : Nat} (h : 86 + d < 100000) : (w32 (86 + (d : Int))).toNat = 86 + d := ix_n (c := 86) h
theorem ix95 {α : Type} {d N : Nat} {x : Option α} (h : 95 + d < N ∧ N < 100000) : inR (w32 (95 + (d : Int))) N x = x := ix_in (c := 95) h
theorem ix95n {d : Nat} (h : 95 + d < 100000) : (w32 (95 + (d : Int))).toNat = 95 + d := ix_n (c := 95) h
theorem ix104 {α : Type} {d N : Nat} {x : Option α} (h : 104 + d < N ∧ N < 100000) : inR (w32 (104 + (d : Int))) N x = x := ix_in (c := 104) h
theorem ix104n {d : Nat} (h : 104 + d < 100000) : (w32 (104 + (d : Int))).toNat = 104 + d := ix_n (c := 104) h
theorem ix149 {α : Type} {d N : Nat} {x : Option α} (h : 149 + d < N ∧ N < 100000) : inR (w32 (149 + (d : Int))) N x = x := ix_in (c := 149) h
theorem ix149n {d : Nat} (h : 149 + d < 100000) : (w32 (149 + (d : Int))).toNat = 149 + d := ix_n (c := 149) h
theorem ix154 {α : Type} {d N : Nat} {x : Option α} (h : 154 + d < N ∧ N < 100000) : inR (w32 (154 + (d : Int))) N x = x := ix_in (c := 154) h
theorem ix154n {d : Nat} (h : 154 + d < 100000) : (w32 (154 + (d : Int))).toNat = 154 + d := ix_n (c := 154) h
theorem ix159 {α : Type} {d N : Nat} {x : Option α} (h : 159 + d < N ∧ N < 100000) : inR (w32 (159 + (d : Int))) N x = x := ix_in (c := 159) h
theorem ix159n {d : Nat} (h : 159 + d < 100000) : (w32 (159 + (d : Int))).toNat = 159 + d := ix_n (c := 159) h
theorem ix164 {α : Type} {d N : Nat} {x : Option α} (h : 164 + d < N ∧ N < 100000) : inR (w32 (164 + (d : Int))) N x = x := ix_in (c := 164) h
theorem ix164n {d : Nat} (h : 164 + d < 100000) : (w32 (164 + (d : Int))).toNat = 164 + d := ix_n (c := 164) h
theorem ix176 {α : Type} {d N : Nat} {x : Option α} (h : 176 + d < N ∧ N < 100000) : inR (w32 (176 + (d : Int))) N x = x := ix_in (c := 176) h
theorem ix176n {d : Nat} (h : 176 + d < 100000) : (w32 (176 + (d : Int))).toNat = 176 + d := ix_n (c := 176) h
theorem ix188 {α : Type} {d N : Nat} {x : Option α} (h : 188 + d < N ∧ N < 100000) : inR (w32 (188 + (d : Int))) N x = x := ix_in (c := 188) h
theorem ix188n {d : Nat} (h : 188 + d < 100000) : (w32 (188 + (d : Int))).toNat = 188 + d := ix_n (c := 188) h
theorem ix200 {α : Type} {d N : Nat} {x : Option α} (h : 200 + d < N ∧ N < 100000) : inR (w32 (200 + (d : Int))) N x = x := ix_in (c := 200) h
theorem ix200n {d : Nat} (h : 200 + d < 100000) : (w32 (200 + (d : Int))).toNat = 200 + d := ix_n (c := 200) h
theorem ix212 {α : Type} {d N : Nat} {x : Option α} (h : 212 + d < N ∧ N < 100000) : inR (w32 (212 + (d : Int))) N x = x := ix_in (c := 212) h
theorem ix212n {d : Nat} (h : 212 + d < 100000) : (w32 (212 + (d : Int))).toNat = 212 + d := ix_n (c := 212) h
theorem C_bits_17L {s : mS} {A : Row} (hs : SR s 17 A) (hr : VR s 4 A) (w : Int) (m : Nat) (hn : A 2 ≤ 12) : ∀ (k n i : Nat), i + k = (A 2).toNat → k < n →
    l_St_bitsOf_17_4_L5 m n w ((mk (fun d => decide (A (164 + d) = w)) i : Nat) : Int) (i : Int) s = some (((mk (fun d => decide (A (164 + d) = w)) (A 2).toNat : Nat) : Int), s) := by
  intro k
  induction k with
  | zero =>
    intro n i hi hkn
    obtain ⟨n, rfl⟩ : ∃ n', n = n' + 1 := ⟨n - 1, by omega⟩
    rw [l_St_bitsOf_17_4_L5_eq, VR4_dead hr, if_neg (by omega), show i = (A 2).toNat from by omega]
  | succ k ih =>
    intro n i hi hkn
    obtain ⟨n, rfl⟩ : ∃ n', n = n' + 1 := ⟨n - 1, by omega⟩
    have hd : (i : Int) < A 2 := by omega
    have hp1 : (fun d => decide (A (164 + d) = w)) i = true → bor ((mk (fun d => decide (A (164 + d) = w)) i : Nat) : Int) (bshl 1 (i : Int)) = ((mk (fun d => decide (A (164 + d) = w)) (i + 1) : Nat) : Int) := fun h => mk_step (by omega) h
    have hp0 : (fun d => decide (A (164 + d) = w)) i = false → mk (fun d => decide (A (164 + d) = w)) i = mk (fun d => decide (A (164 + d) = w)) (i + 1) := fun h => mk_skip h
    have ih1 := ih n (i + 1) (by omega) (by omega)
    have e1 : w32 ((i : Int) + 1) = ((i + 1 : Nat) : Int) := by rw [w32_in (by omega) (by omega)]; rfl
    rw [l_St_bitsOf_17_4_L5_eq, VR4_dead hr, if_pos hd, e1]
    rw [inR_pos (by omega) (by omega), Int.toNat_natCast, SR17_how hs hd]
    by_cases c : A (164 + i) = w
    · have hp : (fun d => decide (A (164 + d) = w)) i = true := by simp [c]
      rw [if_pos c, hp1 hp]; exact ih1
    · have hp : (fun d => decide (A (164 + d) = w)) i = false := by simp [c]
      rw [if_neg c, hp0 hp]; exact ih1

theorem C_bits_17 {s : mS} {A : Row} (hs : SR s 17 A) (hr : VR s 4 A) (hv : WFv A) {m : Nat} (hm : 1000 ≤ m) (w : Int) : f_St_bitsOf_17_4 m w s = some (((mk (fun d => decide (A (164 + d) = w)) (A 2).toNat : Nat) : Int), s) := by
  have w2 := WFv_dead hv
  rw [f_St_bitsOf_17_4_eq]
  exact C_bits_17L hs hr w m w2.2 (A 2).toNat m 0 (by omega) (by omega)
theorem C_bits_206L {s : mS} {A : Row} (hs : SR s 206 A) (hr : VR s 4 A) (w : Int) (m : Nat) (hn : A 2 ≤ 12) : ∀ (k n i : Nat), i + k = (A 2).toNat → k < n →
    l_St_bitsOf_206_4_L5 m n w ((mk (fun d => decide (A (164 + d) = w)) i : Nat) : Int) (i : Int) s = some (((mk (fun d => decide (A (164 + d) = w)) (A 2).toNat : Nat) : Int), s) := by
  intro k
  induction k with
  | zero =>
    intro n i hi hkn
    obtain ⟨n, rfl⟩ : ∃ n', n = n' + 1 := ⟨n - 1, by omega⟩
    rw [l_St_bitsOf_206_4_L5_eq, VR4_dead hr, if_neg (by omega), show i = (A 2).toNat from by omega]
  | succ k ih =>
    intro n i hi hkn
    obtain ⟨n, rfl⟩ : ∃ n', n = n' + 1 := ⟨n - 1, by omega⟩
    have hd : (i : Int) < A 2 := by omega
    have hp1 : (fun d => decide (A (164 + d) = w)) i = true → bor ((mk (fun d => decide (A (164 + d) = w)) i : Nat) : Int) (bshl 1 (i : Int)) = ((mk (fun d => decide (A (164 + d) = w)) (i + 1) : Nat) : Int) := fun h => mk_step (by omega) h
    have hp0 : (fun d => decide (A (164 + d) = w)) i = false → mk (fun d => decide (A (164 + d) = w)) i = mk (fun d => decide (A (164 + d) = w)) (i + 1) := fun h => mk_skip h
    have ih1 := ih n (i + 1) (by omega) (by omega)
    have e1 : w32 ((i : Int) + 1) = ((i + 1 : Nat) : Int) := by rw [w32_in (by omega) (by omega)]; rfl
    rw [l_St_bitsOf_206_4_L5_eq, VR4_dead hr, if_pos hd, e1]
    rw [inR_pos (by omega) (by omega), Int.toNat_natCast, SR206_how hs hd]
    by_cases c : A (164 + i) = w
    · have hp : (fun d => decide (A (164 + d) = w)) i = true := by simp [c]
      rw [if_pos c, hp1 hp]; exact ih1
    · have hp : (fun d => decide (A (164 + d) = w)) i = false := by simp [c]
      rw [if_neg c, hp0 hp]; exact ih1

theorem C_bits_206 {s : mS} {A : Row} (hs : SR s 206 A) (hr : VR s 4 A) (hv : WFv A) {m : Nat} (hm : 1000 ≤ m) (w : Int) : f_St_bitsOf_206_4 m w s = some (((mk (fun d => decide (A (164 + d) = w)) (A 2).toNat : Nat) : Int), s) := by
  have w2 := WFv_dead hv
  rw [f_St_bitsOf_206_4_eq]
  exact C_bits_206L hs hr w m w2.2 (A 2).toNat m 0 (by omega) (by omega)
theorem R_thoseL {s : mS} {A : Row} (hA : s.1 251 = A) (w : Int) (m : Nat) (hn : A 2 ≤ 12) : ∀ (k n i : Nat), i + k = (A 2).toNat → k < n →
    l_R_those_L4 m n w ((mk (fun d => decide (A (164 + d) = w)) i : Nat) : Int) (i : Int) s = some (((mk (fun d => decide (A (164 + d) = w)) (A 2).toNat : Nat) : Int), s) := by
  intro k
  induction k with
  | zero =>
    intro n i hi hkn
    obtain ⟨n, rfl⟩ : ∃ n', n = n' + 1 := ⟨n - 1, by omega⟩
    rw [l_R_those_L4_eq, hA, if_neg (by omega), show i = (A 2).toNat from by omega]
  | succ k ih =>
    intro n i hi hkn
    obtain ⟨n, rfl⟩ : ∃ n', n = n' + 1 := ⟨n - 1, by omega⟩
    have hd : (i : Int) < A 2 := by omega
    have hp1 : (fun d => decide (A (164 + d) = w)) i = true → bor ((mk (fun d => decide (A (164 + d) = w)) i : Nat) : Int) (bshl 1 (i : Int)) = ((mk (fun d => decide (A (164 + d) = w)) (i + 1) : Nat) : Int) := fun h => mk_step (by omega) h
    have hp0 : (fun d => decide (A (164 + d) = w)) i = false → mk (fun d => decide (A (164 + d) = w)) i = mk (fun d => decide (A (164 + d) = w)) (i + 1) := fun h => mk_skip h
    have ih1 := ih n (i + 1) (by omega) (by omega)
    have e1 : w32 ((i : Int) + 1) = ((i + 1 : Nat) : Int) := by rw [w32_in (by omega) (by omega)]; rfl
    rw [l_R_those_L4_eq, hA, if_pos hd, e1]
    rw [ix164 (by omega), ix164n (by omega)]
    by_cases c : A (164 + i) = w
    · have hp : (fun d => decide (A (164 + d) = w)) i = true := by simp [c]
      rw [if_pos c, hp1 hp]; exact ih1
    · have hp : (fun d => decide (A (164 + d) = w)) i = false := by simp [c]
      rw [if_neg c, hp0 hp]; exact ih1

theorem R_those {s : mS} {A : Row} (hA : s.1 251 = A) (hv : WFv A) {m : Nat} (hm : 1000 ≤ m) (w : Int) : f_R_those m w s = some (((mk (fun d => decide (A (164 + d) = w)) (A 2).toNat : Nat) : Int), s) := by
  have w2 := WFv_dead hv
  rw [f_R_those_eq]
  exact R_thoseL hA w m w2.2 (A 2).toNat m 0 (by omega) (by omega)
theorem C_fplotsL {s : mS} {A : Row} (hs : SR s 17 A) (hr : VR s 4 A) (h : WF A) (m : Nat) (hn : A 1 ≤ 5) : ∀ (k n i : Nat), i + k = (A 1).toNat → k < n →
    l_St_freePlots_L4 m n ((mk (fun p => decide (A (149 + p) = 0)) i : Nat) : Int) (i : Int) s = some (((mk (fun p => decide (A (149 + p) = 0)) (A 1).toNat : Nat) : Int), s) := by
  intro k
  induction k with
  | zero =>
    intro n i hi hkn
    obtain ⟨n, rfl⟩ : ∃ n', n = n' + 1 := ⟨n - 1, by omega⟩
    rw [l_St_freePlots_L4_eq, VR4_plots hr, if_neg (by omega), show i = (A 1).toNat from by omega]
  | succ k ih =>
    intro n i hi hkn
    obtain ⟨n, rfl⟩ : ∃ n', n = n' + 1 := ⟨n - 1, by omega⟩
    have hd : (i : Int) < A 1 := by omega
    have hp1 : (fun p => decide (A (149 + p) = 0)) i = true → bor ((mk (fun p => decide (A (149 + p) = 0)) i : Nat) : Int) (bshl 1 (i : Int)) = ((mk (fun p => decide (A (149 + p) = 0)) (i + 1) : Nat) : Int) := fun h => mk_step (by omega) h
    have hp0 : (fun p => decide (A (149 + p) = 0)) i = false → mk (fun p => decide (A (149 + p) = 0)) i = mk (fun p => decide (A (149 + p) = 0)) (i + 1) := fun h => mk_skip h
    have ih1 := ih n (i + 1) (by omega) (by omega)
    have e1 : w32 ((i : Int) + 1) = ((i + 1 : Nat) : Int) := by rw [w32_in (by omega) (by omega)]; rfl
    rw [l_St_freePlots_L4_eq, VR4_plots hr, if_pos hd, e1]
    have hx := WFs_plot h.2.1 hd
    rw [C_plotFree_17 hs h.1 hd, Option.bind_some]
    by_cases c : 0 < A (149 + i)
    · have hp : (fun p => decide (A (149 + p) = 0)) i = false := by simp; omega
      rw [if_pos c]; simp only [if_true]; rw [hp0 hp]; exact ih1
    · have hp : (fun p => decide (A (149 + p) = 0)) i = true := by simp; omega
      have n1 : ¬ (1 : Int) = 0 := by decide
      rw [if_neg c]; simp only [n1, if_false]; rw [hp1 hp]; exact ih1

theorem C_fplots {s : mS} {A : Row} (hs : SR s 17 A) (hr : VR s 4 A) (h : WF A) {m : Nat} (hm : 1000 ≤ m) : f_St_freePlots m s = some (((mk (fun p => decide (A (149 + p) = 0)) (A 1).toNat : Nat) : Int), s) := by
  have w2 := WFv_plots h.1
  rw [f_St_freePlots_eq]
  exact C_fplotsL hs hr h m w2.2 (A 1).toNat m 0 (by omega) (by omega)
theorem C_fboxesL {s : mS} {A : Row} (hs : SR s 17 A) (hr : VR s 4 A) (h : WF A) (m : Nat) (hn : A 0 ≤ 9) : ∀ (k n i : Nat), i + k = (A 0).toNat → k < n →
    l_St_freeBoxes_L4 m n ((mk (fun b => freeA A b) i : Nat) : Int) (i : Int) s = some (((mk (fun b => freeA A b) (A 0).toNat : Nat) : Int), s) := by
  intro k
  induction k with
  | zero =>
    intro n i hi hkn
    obtain ⟨n, rfl⟩ : ∃ n', n = n' + 1 := ⟨n - 1, by omega⟩
    rw [l_St_freeBoxes_L4_eq, VR4_boxes hr, if_neg (by omega), show i = (A 0).toNat from by omega]
  | succ k ih =>
    intro n i hi hkn
    obtain ⟨n, rfl⟩ : ∃ n', n = n' + 1 := ⟨n - 1, by omega⟩
    have hd : (i : Int) < A 0 := by omega
    have hp1 : (fun b => freeA A b) i = true → bor ((mk (fun b => freeA A b) i : Nat) : Int) (bshl 1 (i : Int)) = ((mk (fun b => freeA A b) (i + 1) : Nat) : Int) := fun h => mk_step (by omega) h
    have hp0 : (fun b => freeA A b) i = false → mk (fun b => freeA A b) i = mk (fun b => freeA A b) (i + 1) := fun h => mk_skip h
    have ih1 := ih n (i + 1) (by omega) (by omega)
    have e1 : w32 ((i : Int) + 1) = ((i + 1 : Nat) : Int) := by rw [w32_in (by omega) (by omega)]; rfl
    rw [l_St_freeBoxes_L4_eq, VR4_boxes hr, if_pos hd, e1]
    rw [C_boxFree_17 hs h.1 hd, Option.bind_some]
    by_cases c : freeA A i = true
    · have n1 : ¬ (1 : Int) = 0 := by decide
      rw [if_pos c]; simp only [n1, if_false]; rw [hp1 c]; exact ih1
    · have hp : (fun b => freeA A b) i = false := by simpa using c
      rw [if_neg c]; simp only [if_true]; rw [hp0 hp]; exact ih1

theorem C_fboxes {s : mS} {A : Row} (hs : SR s 17 A) (hr : VR s 4 A) (h : WF A) {m : Nat} (hm : 1000 ≤ m) : f_St_freeBoxes m s = some (((mk (fun b => freeA A b) (A 0).toNat : Nat) : Int), s) := by
  have w2 := WFv_boxes h.1
  rw [f_St_freeBoxes_eq]
  exact C_fboxesL hs hr h m w2.2 (A 0).toNat m 0 (by omega) (by omega)
theorem R_fboxesL {s : mS} {A : Row} (hA : s.1 251 = A) (m : Nat) (hn : A 0 ≤ 9) : ∀ (k n i : Nat), i + k = (A 0).toNat → k < n →
    l_R_now_L74 m n ((mk (fun b => freeA A b) i : Nat) : Int) (i : Int) s = some (((mk (fun b => freeA A b) (A 0).toNat : Nat) : Int), s) := by
  intro k
  induction k with
  | zero =>
    intro n i hi hkn
    obtain ⟨n, rfl⟩ : ∃ n', n = n' + 1 := ⟨n - 1, by omega⟩
    rw [l_R_now_L74_eq, hA, if_neg (by omega), show i = (A 0).toNat from by omega]
  | succ k ih =>
    intro n i hi hkn
    obtain ⟨n, rfl⟩ : ∃ n', n = n' + 1 := ⟨n - 1, by omega⟩
    have hd : (i : Int) < A 0 := by omega
    have hp1 : (fun b => freeA A b) i = true → bor ((mk (fun b => freeA A b) i : Nat) : Int) (bshl 1 (i : Int)) = ((mk (fun b => freeA A b) (i + 1) : Nat) : Int) := fun h => mk_step (by omega) h
    have hp0 : (fun b => freeA A b) i = false → mk (fun b => freeA A b) i = mk (fun b => freeA A b) (i + 1) := fun h => mk_skip h
    have ih1 := ih n (i + 1) (by omega) (by omega)
    have e1 : w32 ((i : Int) + 1) = ((i + 1 : Nat) : Int) := by rw [w32_in (by omega) (by omega)]; rfl
    rw [l_R_now_L74_eq, hA, if_pos hd, e1]
    rw [R_free hA m (by omega), Option.bind_some]
    by_cases c : freeA A i = true
    · have n1 : ¬ (1 : Int) = 0 := by decide
      rw [if_pos c]; simp only [n1, if_false]; rw [hp1 c]; exact ih1
    · have hp : (fun b => freeA A b) i = false := by simpa using c
      rw [if_neg c]; simp only [if_true]; rw [hp0 hp]; exact ih1

theorem R_fplotsL {s : mS} {A : Row} (hA : s.1 251 = A) (m : Nat) (hn : A 1 ≤ 5) : ∀ (k n i : Nat), i + k = (A 1).toNat → k < n →
    l_R_now_L108 m n ((mk (fun p => decide (A (149 + p) = 0)) i : Nat) : Int) (i : Int) s = some (((mk (fun p => decide (A (149 + p) = 0)) (A 1).toNat : Nat) : Int), s) := by
  intro k
  induction k with
  | zero =>
    intro n i hi hkn
    obtain ⟨n, rfl⟩ : ∃ n', n = n' + 1 := ⟨n - 1, by omega⟩
    rw [l_R_now_L108_eq, hA, if_neg (by omega), show i = (A 1).toNat from by omega]
  | succ k ih =>
    intro n i hi hkn
    obtain ⟨n, rfl⟩ : ∃ n', n = n' + 1 := ⟨n - 1, by omega⟩
    have hd : (i : Int) < A 1 := by omega
    have hp1 : (fun p => decide (A (149 + p) = 0)) i = true → bor ((mk (fun p => decide (A (149 + p) = 0)) i : Nat) : Int) (bshl 1 (i : Int)) = ((mk (fun p => decide (A (149 + p) = 0)) (i + 1) : Nat) : Int) := fun h => mk_step (by omega) h
    have hp0 : (fun p => decide (A (149 + p) = 0)) i = false → mk (fun p => decide (A (149 + p) = 0)) i = mk (fun p => decide (A (149 + p) = 0)) (i + 1) := fun h => mk_skip h
    have ih1 := ih n (i + 1) (by omega) (by omega)
    have e1 : w32 ((i : Int) + 1) = ((i + 1 : Nat) : Int) := by rw [w32_in (by omega) (by omega)]; rfl
    rw [l_R_now_L108_eq, hA, if_pos hd, e1]
    rw [ix149 (by omega), ix149n (by omega)]
    by_cases c : A (149 + i) = 0
    · have hp : (fun p => decide (A (149 + p) = 0)) i = true := by simp [c]
      rw [if_pos c, hp1 hp]; exact ih1
    · have hp : (fun p => decide (A (149 + p) = 0)) i = false := by simp [c]
      rw [if_neg c, hp0 hp]; exact ih1

theorem S_now {m : Nat} (hm : 1000 ≤ m) (w : Int) : Sim (f_X_now m w) (f_R_now m w) := by
  refine Sim_e (fun s hs => ?_)
  obtain ⟨⟨hW, hr, hS, -, -⟩, -⟩ := hs
  have hA : (wI s 249 0 0).1 251 = s.1 251 := th_ne s 0 (by decide)
  have w0 := WFv_boxes hW.1
  have w1 := WFv_plots hW.1
  have hd := WFs_day hW.2.1
  have b1 := R_fboxesL hA m w0.2 (s.1 251 0).toNat m 0 (by omega) (by omega)
  have b2 := R_fplotsL hA m w1.2 (s.1 251 1).toNat m 0 (by omega) (by omega)
  rw [show ((mk (fun b => freeA (s.1 251) b) 0 : Nat) : Int) = 0 from rfl, show ((0 : Nat) : Int) = 0 from rfl] at b1
  rw [show ((mk (fun p => decide (s.1 251 (149 + p) = 0)) 0 : Nat) : Int) = 0 from rfl, show ((0 : Nat) : Int) = 0 from rfl] at b2
  rw [f_X_now_eq, f_R_now_eq, SR17_day hS, hA]
  by_cases c0 : w = 0
  · simp only [c0, if_true]; exact ⟨_, rfl, rfl⟩
  rw [if_neg c0, if_neg c0]
  by_cases c1 : w = 1
  · subst c1; simp only [if_true]; rw [C_bits_17 hS hr hW.1 hm, R_those hA hW.1 hm, show w32 (1 - 1) = 0 from by decide]; exact ⟨_, rfl, rfl⟩
  rw [if_neg c1, if_neg c1]
  by_cases c2 : w = 2
  · subst c2; simp only [if_true]; rw [C_bits_17 hS hr hW.1 hm, R_those hA hW.1 hm, show w32 (2 - 1) = 1 from by decide]; exact ⟨_, rfl, rfl⟩
  rw [if_neg c2, if_neg c2]
  by_cases c3 : w = 3
  · subst c3; simp only [if_true]; rw [C_bits_17 hS hr hW.1 hm, R_those hA hW.1 hm, show w32 (3 - 1) = 2 from by decide]; exact ⟨_, rfl, rfl⟩
  rw [if_neg c3, if_neg c3]
  by_cases c4 : w = 4
  · subst c4; simp only [if_true]; rw [C_bits_17 hS hr hW.1 hm, R_those hA hW.1 hm, show w32 (4 - 1) = 3 from by decide]; exact ⟨_, rfl, rfl⟩
  rw [if_neg c4, if_neg c4]
  by_cases c5 : w = 5
  · rw [if_pos c5, if_pos c5, C_fboxes hS hr hW hm, b1]; exact ⟨_, rfl, rfl⟩
  rw [if_neg c5, if_neg c5]
  by_cases c6 : w = 6
  · rw [if_pos c6, if_pos c6, C_fplots hS hr hW hm, b2]; exact ⟨_, rfl, rfl⟩
  rw [if_neg c6, if_neg c6]
  by_cases c7 : w = 7
  · rw [if_pos c7, if_pos c7, C_frost hr hW.1 (by omega) (by omega) hm, R_frost hA hW.1 (by omega) (by omega) hm]
    by_cases cf : frostA (s.1 251) (s.1 251 85) = -1
    · rw [if_pos cf]; exact ⟨0, rfl, rfl⟩
    · rw [if_neg cf]; exact ⟨1, rfl, rfl⟩
  · rw [if_neg c7, if_neg c7]; exact ⟨_, rfl, rfl⟩
