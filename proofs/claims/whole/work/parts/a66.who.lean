/-! ===== layer 3: who, what to ask ===== -/
def pa (A : Row) (w : Int) (d : Nat) : Int := if w = 0 then A (29 + d) else if w = 1 then A (200 + d) else if w = 2 then (if A (176 + d) = -1 then 255 else A (176 + d)) else (if A (188 + d) = -1 then 255 else A (188 + d))
theorem C_pa {s : mS} {A : Row} (hs : SR s 17 A) (hr : VR s 4 A) (h : WF A) (m : Nat) (w : Int) {d : Nat} (hd : (d : Int) < A 2) : f_X_numberOf m w (d : Int) s = some (pa A w d, s) := by
  have w2 := WFv_dead h.1
  rw [f_X_numberOf_eq]
  simp (disch := omega) only [inR_pos, Int.toNat_natCast, VR4_dlong hr hd, SR17_wait hs hd, SR17_inb hs hd, SR17_inp hs hd]
  unfold pa
  by_cases c0 : w = 0
  · rw [if_pos c0, if_pos c0]
  · rw [if_neg c0, if_neg c0]
    by_cases c1 : w = 1
    · rw [if_pos c1, if_pos c1]
    · rw [if_neg c1, if_neg c1]
      by_cases c2 : w = 2
      · rw [if_pos c2, if_pos c2]; split <;> rfl
      · rw [if_neg c2, if_neg c2]; split <;> rfl
theorem R_pa {s : mS} {A : Row} (hA : s.1 251 = A) (h : WF A) (m : Nat) (w : Int) {d : Nat} (hd : (d : Int) < A 2) : f_R_partOf m (d : Int) w s = some (pa A w d, s) := by
  have w2 := WFv_dead h.1
  rw [f_R_partOf_eq, hA]
  simp (disch := omega) only [ix29, ix29n, ix200, ix200n, ix176, ix176n, ix188, ix188n]
  unfold pa
  by_cases c0 : w = 0
  · rw [if_pos c0, if_pos c0]
  · rw [if_neg c0, if_neg c0]
    by_cases c1 : w = 1
    · rw [if_pos c1, if_pos c1]
    · rw [if_neg c1, if_neg c1]
      by_cases c2 : w = 2
      · rw [if_pos c2, if_pos c2]; split <;> rfl
      · rw [if_neg c2, if_neg c2]; split <;> rfl
theorem C_withL {s : mS} {A : Row} (hs : SR s 17 A) (hr : VR s 4 A) (h : WF A) (m : Nat) (w v : Int) : ∀ (k n i : Nat), i + k = (A 2).toNat → k < n →
    l_X_thoseWith_L5 m n w v ((mk (fun d => decide (pa A w d = v)) i : Nat) : Int) (i : Int) s = some (((mk (fun d => decide (pa A w d = v)) (A 2).toNat : Nat) : Int), s) := by
  have w2 := WFv_dead h.1
  intro k
  induction k with
  | zero =>
    intro n i hi hkn
    obtain ⟨n, rfl⟩ : ∃ n', n = n' + 1 := ⟨n - 1, by omega⟩
    rw [l_X_thoseWith_L5_eq, VR4_dead hr, if_neg (by omega), show i = (A 2).toNat from by omega]
  | succ k ih =>
    intro n i hi hkn
    obtain ⟨n, rfl⟩ : ∃ n', n = n' + 1 := ⟨n - 1, by omega⟩
    have hd : (i : Int) < A 2 := by omega
    have ih1 := ih n (i + 1) (by omega) (by omega)
    rw [l_X_thoseWith_L5_eq, VR4_dead hr, if_pos hd, C_pa hs hr h m w hd, Option.bind_some, s1w i (by omega)]
    by_cases c : pa A w i = v
    · have hp : (fun d => decide (pa A w d = v)) i = true := by simp [c]
      rw [if_pos c, mk_step (p := fun d => decide (pa A w d = v)) (by omega) hp]; exact ih1
    · have hp : (fun d => decide (pa A w d = v)) i = false := by simp [c]
      rw [if_neg c, mk_skip (p := fun d => decide (pa A w d = v)) hp]; exact ih1
theorem C_with {s : mS} {A : Row} (hs : SR s 17 A) (hr : VR s 4 A) (h : WF A) {m : Nat} (hm : 1000 ≤ m) (w v : Int) : f_X_thoseWith m w v s = some (((mk (fun d => decide (pa A w d = v)) (A 2).toNat : Nat) : Int), s) := by
  have w2 := WFv_dead h.1
  have q := C_withL hs hr h m w v (A 2).toNat m 0 (by omega) (by omega)
  rw [show ((mk (fun d => decide (pa A w d = v)) 0 : Nat) : Int) = 0 from rfl, show ((0 : Nat) : Int) = 0 from rfl] at q
  rw [f_X_thoseWith_eq]; exact q
theorem mk_and (p q : Nat → Bool) (n : Nat) : mk p n &&& mk q n = mk (fun i => p i && q i) n := by
  apply Nat.eq_of_testBit_eq
  intro i
  rw [Nat.testBit_and, mk_bit, mk_bit, mk_bit]
  cases decide (i < n) <;> simp
theorem ct_congr {p q : Nat → Bool} : ∀ n, (∀ i, i < n → p i = q i) → ct p n = ct q n
  | 0, _ => rfl
  | n + 1, h => by rw [ct_s, ct_s, ct_congr n (fun i hi => h i (by omega)), h n (by omega)]
/-- how many bits a small set has -/
def bcount (a : Int) : Int := band (w32 (w32 (band (w32 (w32 (band (w32 (a - band (bushr a 1) 1431655765)) 858993459 + band (bushr (w32 (a - band (bushr a 1) 1431655765)) 2) 858993459) + bushr (w32 (band (w32 (a - band (bushr a 1) 1431655765)) 858993459 + band (bushr (w32 (a - band (bushr a 1) 1431655765)) 2) 858993459)) 4)) 252645135 + bushr (band (w32 (w32 (band (w32 (a - band (bushr a 1) 1431655765)) 858993459 + band (bushr (w32 (a - band (bushr a 1) 1431655765)) 2) 858993459) + bushr (w32 (band (w32 (a - band (bushr a 1) 1431655765)) 858993459 + band (bushr (w32 (a - band (bushr a 1) 1431655765)) 2) 858993459)) 4)) 252645135) 8) + bushr (w32 (band (w32 (w32 (band (w32 (a - band (bushr a 1) 1431655765)) 858993459 + band (bushr (w32 (a - band (bushr a 1) 1431655765)) 2) 858993459) + bushr (w32 (band (w32 (a - band (bushr a 1) 1431655765)) 858993459 + band (bushr (w32 (a - band (bushr a 1) 1431655765)) 2) 858993459)) 4)) 252645135 + bushr (band (w32 (w32 (band (w32 (a - band (bushr a 1) 1431655765)) 858993459 + band (bushr (w32 (a - band (bushr a 1) 1431655765)) 2) 858993459) + bushr (w32 (band (w32 (a - band (bushr a 1) 1431655765)) 858993459 + band (bushr (w32 (a - band (bushr a 1) 1431655765)) 2) 858993459)) 4)) 252645135) 8)) 16)) 63
