/-! ===== written by gen_a52.py: states copied, kept, brought back ===== -/
theorem cpyI_ne {s : mS} {a sp c dp n x : Nat} (h : x ≠ c) : (cpyI s a sp c dp n).1 x = s.1 x := by funext j; rw [cpyI_1, if_neg (by omega)]
theorem cpyI_c {s : mS} {a c n j : Nat} (h : j < n) : (cpyI s a 0 c 0 n).1 c j = s.1 a j := by
  rw [cpyI_1, if_pos ⟨rfl, by omega, by omega⟩, Nat.zero_add, Nat.sub_zero]
theorem wI_ne {s : mS} {c k : Nat} {v : Int} {x : Nat} (h : x ≠ c) : (wI s c k v).1 x = s.1 x := by funext j; rw [wI_1, if_neg (by omega)]
theorem wI_f {s : mS} {c k : Nat} {v : Int} {j : Nat} (h : j ≠ k) : (wI s c k v).1 c j = s.1 c j := by rw [wI_1, if_neg (by omega)]
theorem wI_at {s : mS} {c k : Nat} {v : Int} : (wI s c k v).1 c k = v := by rw [wI_1, if_pos ⟨rfl, rfl⟩]
/-- a state copied: x out of y -/
def cpS (s : mS) (x y : Nat) : mS := cpyI (cpyI (cpyI (cpyI (cpyI (cpyI (cpyI (cpyI (cpyI (cpyI (cpyI (cpyI (wI s x 0 (s.1 y 0)) (y + 1) 0 (x + 1) 0 9) (y + 2) 0 (x + 2) 0 9) (y + 3) 0 (x + 3) 0 9) (y + 4) 0 (x + 4) 0 36) (y + 5) 0 (x + 5) 0 5) (y + 6) 0 (x + 6) 0 5) (y + 7) 0 (x + 7) 0 5) (y + 8) 0 (x + 8) 0 12) (y + 9) 0 (x + 9) 0 12) (y + 10) 0 (x + 10) 0 12) (y + 11) 0 (x + 11) 0 12) (y + 12) 0 (x + 12) 0 12
theorem cpS_only (s : mS) (x y : Nat) : only s (cpS s x y) x (x + 13) := by
  refine ⟨fun c hc => ?_, rfl⟩
  unfold cpS
  rw [cpyI_ne (by omega), cpyI_ne (by omega), cpyI_ne (by omega), cpyI_ne (by omega), cpyI_ne (by omega), cpyI_ne (by omega), cpyI_ne (by omega), cpyI_ne (by omega), cpyI_ne (by omega), cpyI_ne (by omega), cpyI_ne (by omega), cpyI_ne (by omega), wI_ne (by omega)]
theorem cpS_1 (s : mS) {x y : Nat} (hd : x + 13 ≤ y ∨ y + 13 ≤ x) {j : Nat} (hj : j < 9) : (cpS s x y).1 (x + 1) j = s.1 (y + 1) j := by
  unfold cpS
  rw [cpyI_ne (by omega), cpyI_ne (by omega), cpyI_ne (by omega), cpyI_ne (by omega), cpyI_ne (by omega), cpyI_ne (by omega), cpyI_ne (by omega), cpyI_ne (by omega), cpyI_ne (by omega), cpyI_ne (by omega), cpyI_ne (by omega), cpyI_c hj, wI_ne (by omega)]
theorem cpS_2 (s : mS) {x y : Nat} (hd : x + 13 ≤ y ∨ y + 13 ≤ x) {j : Nat} (hj : j < 9) : (cpS s x y).1 (x + 2) j = s.1 (y + 2) j := by
  unfold cpS
  rw [cpyI_ne (by omega), cpyI_ne (by omega), cpyI_ne (by omega), cpyI_ne (by omega), cpyI_ne (by omega), cpyI_ne (by omega), cpyI_ne (by omega), cpyI_ne (by omega), cpyI_ne (by omega), cpyI_ne (by omega), cpyI_c hj, cpyI_ne (by omega), wI_ne (by omega)]
theorem cpS_3 (s : mS) {x y : Nat} (hd : x + 13 ≤ y ∨ y + 13 ≤ x) {j : Nat} (hj : j < 9) : (cpS s x y).1 (x + 3) j = s.1 (y + 3) j := by
  unfold cpS
  rw [cpyI_ne (by omega), cpyI_ne (by omega), cpyI_ne (by omega), cpyI_ne (by omega), cpyI_ne (by omega), cpyI_ne (by omega), cpyI_ne (by omega), cpyI_ne (by omega), cpyI_ne (by omega), cpyI_c hj, cpyI_ne (by omega), cpyI_ne (by omega), wI_ne (by omega)]
theorem cpS_4 (s : mS) {x y : Nat} (hd : x + 13 ≤ y ∨ y + 13 ≤ x) {j : Nat} (hj : j < 36) : (cpS s x y).1 (x + 4) j = s.1 (y + 4) j := by
  unfold cpS
  rw [cpyI_ne (by omega), cpyI_ne (by omega), cpyI_ne (by omega), cpyI_ne (by omega), cpyI_ne (by omega), cpyI_ne (by omega), cpyI_ne (by omega), cpyI_ne (by omega), cpyI_c hj, cpyI_ne (by omega), cpyI_ne (by omega), cpyI_ne (by omega), wI_ne (by omega)]
theorem cpS_5 (s : mS) {x y : Nat} (hd : x + 13 ≤ y ∨ y + 13 ≤ x) {j : Nat} (hj : j < 5) : (cpS s x y).1 (x + 5) j = s.1 (y + 5) j := by
  unfold cpS
  rw [cpyI_ne (by omega), cpyI_ne (by omega), cpyI_ne (by omega), cpyI_ne (by omega), cpyI_ne (by omega), cpyI_ne (by omega), cpyI_ne (by omega), cpyI_c hj, cpyI_ne (by omega), cpyI_ne (by omega), cpyI_ne (by omega), cpyI_ne (by omega), wI_ne (by omega)]
theorem cpS_6 (s : mS) {x y : Nat} (hd : x + 13 ≤ y ∨ y + 13 ≤ x) {j : Nat} (hj : j < 5) : (cpS s x y).1 (x + 6) j = s.1 (y + 6) j := by
  unfold cpS
  rw [cpyI_ne (by omega), cpyI_ne (by omega), cpyI_ne (by omega), cpyI_ne (by omega), cpyI_ne (by omega), cpyI_ne (by omega), cpyI_c hj, cpyI_ne (by omega), cpyI_ne (by omega), cpyI_ne (by omega), cpyI_ne (by omega), cpyI_ne (by omega), wI_ne (by omega)]
theorem cpS_7 (s : mS) {x y : Nat} (hd : x + 13 ≤ y ∨ y + 13 ≤ x) {j : Nat} (hj : j < 5) : (cpS s x y).1 (x + 7) j = s.1 (y + 7) j := by
  unfold cpS
  rw [cpyI_ne (by omega), cpyI_ne (by omega), cpyI_ne (by omega), cpyI_ne (by omega), cpyI_ne (by omega), cpyI_c hj, cpyI_ne (by omega), cpyI_ne (by omega), cpyI_ne (by omega), cpyI_ne (by omega), cpyI_ne (by omega), cpyI_ne (by omega), wI_ne (by omega)]
theorem cpS_8 (s : mS) {x y : Nat} (hd : x + 13 ≤ y ∨ y + 13 ≤ x) {j : Nat} (hj : j < 12) : (cpS s x y).1 (x + 8) j = s.1 (y + 8) j := by
  unfold cpS
  rw [cpyI_ne (by omega), cpyI_ne (by omega), cpyI_ne (by omega), cpyI_ne (by omega), cpyI_c hj, cpyI_ne (by omega), cpyI_ne (by omega), cpyI_ne (by omega), cpyI_ne (by omega), cpyI_ne (by omega), cpyI_ne (by omega), cpyI_ne (by omega), wI_ne (by omega)]
theorem cpS_9 (s : mS) {x y : Nat} (hd : x + 13 ≤ y ∨ y + 13 ≤ x) {j : Nat} (hj : j < 12) : (cpS s x y).1 (x + 9) j = s.1 (y + 9) j := by
  unfold cpS
  rw [cpyI_ne (by omega), cpyI_ne (by omega), cpyI_ne (by omega), cpyI_c hj, cpyI_ne (by omega), cpyI_ne (by omega), cpyI_ne (by omega), cpyI_ne (by omega), cpyI_ne (by omega), cpyI_ne (by omega), cpyI_ne (by omega), cpyI_ne (by omega), wI_ne (by omega)]
theorem cpS_10 (s : mS) {x y : Nat} (hd : x + 13 ≤ y ∨ y + 13 ≤ x) {j : Nat} (hj : j < 12) : (cpS s x y).1 (x + 10) j = s.1 (y + 10) j := by
  unfold cpS
  rw [cpyI_ne (by omega), cpyI_ne (by omega), cpyI_c hj, cpyI_ne (by omega), cpyI_ne (by omega), cpyI_ne (by omega), cpyI_ne (by omega), cpyI_ne (by omega), cpyI_ne (by omega), cpyI_ne (by omega), cpyI_ne (by omega), cpyI_ne (by omega), wI_ne (by omega)]
theorem cpS_11 (s : mS) {x y : Nat} (hd : x + 13 ≤ y ∨ y + 13 ≤ x) {j : Nat} (hj : j < 12) : (cpS s x y).1 (x + 11) j = s.1 (y + 11) j := by
  unfold cpS
  rw [cpyI_ne (by omega), cpyI_c hj, cpyI_ne (by omega), cpyI_ne (by omega), cpyI_ne (by omega), cpyI_ne (by omega), cpyI_ne (by omega), cpyI_ne (by omega), cpyI_ne (by omega), cpyI_ne (by omega), cpyI_ne (by omega), cpyI_ne (by omega), wI_ne (by omega)]
theorem cpS_12 (s : mS) {x y : Nat} (hd : x + 13 ≤ y ∨ y + 13 ≤ x) {j : Nat} (hj : j < 12) : (cpS s x y).1 (x + 12) j = s.1 (y + 12) j := by
  unfold cpS
  rw [cpyI_c hj, cpyI_ne (by omega), cpyI_ne (by omega), cpyI_ne (by omega), cpyI_ne (by omega), cpyI_ne (by omega), cpyI_ne (by omega), cpyI_ne (by omega), cpyI_ne (by omega), cpyI_ne (by omega), cpyI_ne (by omega), cpyI_ne (by omega), wI_ne (by omega)]
theorem cpS_0 (s : mS) {x y : Nat} : (cpS s x y).1 x 0 = s.1 y 0 := by
  unfold cpS
  rw [cpyI_ne (by omega), cpyI_ne (by omega), cpyI_ne (by omega), cpyI_ne (by omega), cpyI_ne (by omega), cpyI_ne (by omega), cpyI_ne (by omega), cpyI_ne (by omega), cpyI_ne (by omega), cpyI_ne (by omega), cpyI_ne (by omega), cpyI_ne (by omega), wI_at]
theorem cpS_SR {s : mS} {x y : Nat} {A : Row} (h : SR s y A) (hv : WFv A) (hd : x + 13 ≤ y ∨ y + 13 ≤ x) : SR (cpS s x y) x A := by
  have w0 := WFv_boxes hv
  have w1 := WFv_plots hv
  have w2 := WFv_dead hv
  obtain ⟨h0, h1, h2, h3, h4⟩ := h
  refine ⟨by rw [cpS_0]; exact h0, ?_, ?_, ?_, ?_⟩
  · intro b hb; rw [cpS_1 s hd (by omega), cpS_2 s hd (by omega), cpS_3 s hd (by omega)]; exact h1 b hb
  · intro b hb; rw [cpS_4 s hd (by omega)]; exact h2 b hb
  · intro b hb; rw [cpS_5 s hd (by omega), cpS_6 s hd (by omega), cpS_7 s hd (by omega)]; exact h3 b hb
  · intro b hb; rw [cpS_8 s hd (by omega), cpS_9 s hd (by omega), cpS_10 s hd (by omega), cpS_11 s hd (by omega), cpS_12 s hd (by omega)]; exact h4 b hb
theorem cpS_206_17 (m : Nat) (s : mS) : f_St_copyOf_206_17 m s = some (0, cpS s 206 17) := f_St_copyOf_206_17_eq m s
theorem cpS_17_206 (m : Nat) (s : mS) : f_St_copyOf_17_206 m s = some (0, cpS s 17 206) := f_St_copyOf_17_206_eq m s
theorem cpS_50_17 (m : Nat) (s : mS) : f_St_copyOf_50_17 m s = some (0, cpS s 50 17) := f_St_copyOf_50_17_eq m s
theorem cpS_82_17 (m : Nat) (s : mS) : f_St_copyOf_82_17 m s = some (0, cpS s 82 17) := f_St_copyOf_82_17_eq m s
theorem cpS_17_50 (m : Nat) (s : mS) : f_St_copyOf_17_50 m s = some (0, cpS s 17 50) := f_St_copyOf_17_50_eq m s
theorem cpS_17_82 (m : Nat) (s : mS) : f_St_copyOf_17_82 m s = some (0, cpS s 17 82) := f_St_copyOf_17_82_eq m s
theorem cpS_102_206 (m : Nat) (s : mS) : f_St_copyOf_102_206 m s = some (0, cpS s 102 206) := f_St_copyOf_102_206_eq m s
theorem cpS_115_206 (m : Nat) (s : mS) : f_St_copyOf_115_206 m s = some (0, cpS s 115 206) := f_St_copyOf_115_206_eq m s
theorem cpS_128_206 (m : Nat) (s : mS) : f_St_copyOf_128_206 m s = some (0, cpS s 128 206) := f_St_copyOf_128_206_eq m s
theorem cpS_141_206 (m : Nat) (s : mS) : f_St_copyOf_141_206 m s = some (0, cpS s 141 206) := f_St_copyOf_141_206_eq m s
theorem cpS_154_206 (m : Nat) (s : mS) : f_St_copyOf_154_206 m s = some (0, cpS s 154 206) := f_St_copyOf_154_206_eq m s
theorem cpS_167_206 (m : Nat) (s : mS) : f_St_copyOf_167_206 m s = some (0, cpS s 167 206) := f_St_copyOf_167_206_eq m s
theorem cpS_180_206 (m : Nat) (s : mS) : f_St_copyOf_180_206 m s = some (0, cpS s 180 206) := f_St_copyOf_180_206_eq m s
theorem cpS_193_206 (m : Nat) (s : mS) : f_St_copyOf_193_206 m s = some (0, cpS s 193 206) := f_St_copyOf_193_206_eq m s
theorem cpS_102_17 (m : Nat) (s : mS) : f_St_copyOf_102_17 m s = some (0, cpS s 102 17) := f_St_copyOf_102_17_eq m s
theorem cpS_115_17 (m : Nat) (s : mS) : f_St_copyOf_115_17 m s = some (0, cpS s 115 17) := f_St_copyOf_115_17_eq m s
theorem cpS_128_17 (m : Nat) (s : mS) : f_St_copyOf_128_17 m s = some (0, cpS s 128 17) := f_St_copyOf_128_17_eq m s
theorem cpS_141_17 (m : Nat) (s : mS) : f_St_copyOf_141_17 m s = some (0, cpS s 141 17) := f_St_copyOf_141_17_eq m s
theorem cpS_154_17 (m : Nat) (s : mS) : f_St_copyOf_154_17 m s = some (0, cpS s 154 17) := f_St_copyOf_154_17_eq m s
theorem cpS_167_17 (m : Nat) (s : mS) : f_St_copyOf_167_17 m s = some (0, cpS s 167 17) := f_St_copyOf_167_17_eq m s
theorem cpS_180_17 (m : Nat) (s : mS) : f_St_copyOf_180_17 m s = some (0, cpS s 180 17) := f_St_copyOf_180_17_eq m s
theorem cpS_193_17 (m : Nat) (s : mS) : f_St_copyOf_193_17 m s = some (0, cpS s 193 17) := f_St_copyOf_193_17_eq m s
theorem cpS_17_102 (m : Nat) (s : mS) : f_St_copyOf_17_102 m s = some (0, cpS s 17 102) := f_St_copyOf_17_102_eq m s
theorem cpS_17_115 (m : Nat) (s : mS) : f_St_copyOf_17_115 m s = some (0, cpS s 17 115) := f_St_copyOf_17_115_eq m s
theorem cpS_17_128 (m : Nat) (s : mS) : f_St_copyOf_17_128 m s = some (0, cpS s 17 128) := f_St_copyOf_17_128_eq m s
theorem cpS_17_141 (m : Nat) (s : mS) : f_St_copyOf_17_141 m s = some (0, cpS s 17 141) := f_St_copyOf_17_141_eq m s
theorem cpS_17_154 (m : Nat) (s : mS) : f_St_copyOf_17_154 m s = some (0, cpS s 17 154) := f_St_copyOf_17_154_eq m s
theorem cpS_17_167 (m : Nat) (s : mS) : f_St_copyOf_17_167 m s = some (0, cpS s 17 167) := f_St_copyOf_17_167_eq m s
theorem cpS_17_180 (m : Nat) (s : mS) : f_St_copyOf_17_180 m s = some (0, cpS s 17 180) := f_St_copyOf_17_180_eq m s
theorem cpS_17_193 (m : Nat) (s : mS) : f_St_copyOf_17_193 m s = some (0, cpS s 17 193) := f_St_copyOf_17_193_eq m s
theorem R0_101 : ∀ i : Nat, i < 8 → R0f 101 i = some (102 + 13 * i) := by decide +kernel
theorem C_keepL_206 (m n : Nat) (s : mS) : ∀ i : Nat, i < 8 → l_Ps_keep_100_206_L17 m (n + 1) (some (102 + 13 * i)) s = if (cpS s (102 + 13 * i) 206).1 100 2 < 8 then some (0, wI (cpS s (102 + 13 * i) 206) 100 2 (w32 (((cpS s (102 + 13 * i) 206).1 100 2) + 1))) else some (0, wI (cpS s (102 + 13 * i) 206) 100 1 (Int.tmod (w32 (((cpS s (102 + 13 * i) 206).1 100 1) + 1)) 8)) := by
  intro i hi
  match i, hi with
  | 0, _ => exact (l_Ps_keep_100_206_L17_eq0 m n s).trans (by rw [cpS_102_206]; rfl)
  | 1, _ => exact (l_Ps_keep_100_206_L17_eq1 m n s).trans (by rw [cpS_115_206]; rfl)
  | 2, _ => exact (l_Ps_keep_100_206_L17_eq2 m n s).trans (by rw [cpS_128_206]; rfl)
  | 3, _ => exact (l_Ps_keep_100_206_L17_eq3 m n s).trans (by rw [cpS_141_206]; rfl)
  | 4, _ => exact (l_Ps_keep_100_206_L17_eq4 m n s).trans (by rw [cpS_154_206]; rfl)
  | 5, _ => exact (l_Ps_keep_100_206_L17_eq5 m n s).trans (by rw [cpS_167_206]; rfl)
  | 6, _ => exact (l_Ps_keep_100_206_L17_eq6 m n s).trans (by rw [cpS_180_206]; rfl)
  | 7, _ => exact (l_Ps_keep_100_206_L17_eq7 m n s).trans (by rw [cpS_193_206]; rfl)
  | n + 8, h => exact absurd h (by omega)
theorem C_keep_206 {s : mS} {m : Nat} (hm : 1000 ≤ m) {f k : Nat} (hf : s.1 100 1 = (f : Int)) (hk : s.1 100 2 = (k : Int)) (hf8 : f < 8) (hk8 : k ≤ 8) : f_Ps_keep_100_206 m s = some (0, if k < 8 then wI (cpS s (102 + 13 * ((f + k) % 8)) 206) 100 2 ((k : Int) + 1) else wI (cpS s (102 + 13 * ((f + k) % 8)) 206) 100 1 (((f + 1) % 8 : Nat) : Int)) := by
  obtain ⟨n, rfl⟩ : ∃ n, m = n + 1 := ⟨m - 1, by omega⟩
  have e : Int.tmod ((f : Int) + (k : Int)) 8 = (((f + k) % 8 : Nat) : Int) := by
    rw [Int.tmod_eq_emod_of_nonneg (by omega)]; omega
  have hl : (f + k) % 8 < 8 := Nat.mod_lt _ (by decide)
  rw [f_Ps_keep_100_206_eq, hf, hk, w32_in (by omega) (by omega), e, inR_pos (by omega) (by omega), Int.toNat_natCast, R0_101 _ hl, C_keepL_206 _ _ _ _ hl]
  have o := cpS_only s (102 + 13 * ((f + k) % 8)) 206
  rw [o.1 100 (by omega), hk, hf]
  by_cases c : k < 8
  · rw [if_pos (by omega), if_pos c, w32_in (by omega) (by omega)]
  · rw [if_neg (by omega), if_neg c, w32_in (by omega) (by omega)]
    have e2 : Int.tmod ((f : Int) + 1) 8 = (((f + 1) % 8 : Nat) : Int) := by rw [Int.tmod_eq_emod_of_nonneg (by omega)]; omega
    rw [e2]
theorem C_keepL_17 (m n : Nat) (s : mS) : ∀ i : Nat, i < 8 → l_Ps_keep_100_17_L17 m (n + 1) (some (102 + 13 * i)) s = if (cpS s (102 + 13 * i) 17).1 100 2 < 8 then some (0, wI (cpS s (102 + 13 * i) 17) 100 2 (w32 (((cpS s (102 + 13 * i) 17).1 100 2) + 1))) else some (0, wI (cpS s (102 + 13 * i) 17) 100 1 (Int.tmod (w32 (((cpS s (102 + 13 * i) 17).1 100 1) + 1)) 8)) := by
  intro i hi
  match i, hi with
  | 0, _ => exact (l_Ps_keep_100_17_L17_eq0 m n s).trans (by rw [cpS_102_17]; rfl)
  | 1, _ => exact (l_Ps_keep_100_17_L17_eq1 m n s).trans (by rw [cpS_115_17]; rfl)
  | 2, _ => exact (l_Ps_keep_100_17_L17_eq2 m n s).trans (by rw [cpS_128_17]; rfl)
  | 3, _ => exact (l_Ps_keep_100_17_L17_eq3 m n s).trans (by rw [cpS_141_17]; rfl)
  | 4, _ => exact (l_Ps_keep_100_17_L17_eq4 m n s).trans (by rw [cpS_154_17]; rfl)
  | 5, _ => exact (l_Ps_keep_100_17_L17_eq5 m n s).trans (by rw [cpS_167_17]; rfl)
  | 6, _ => exact (l_Ps_keep_100_17_L17_eq6 m n s).trans (by rw [cpS_180_17]; rfl)
  | 7, _ => exact (l_Ps_keep_100_17_L17_eq7 m n s).trans (by rw [cpS_193_17]; rfl)
  | n + 8, h => exact absurd h (by omega)
theorem C_keep_17 {s : mS} {m : Nat} (hm : 1000 ≤ m) {f k : Nat} (hf : s.1 100 1 = (f : Int)) (hk : s.1 100 2 = (k : Int)) (hf8 : f < 8) (hk8 : k ≤ 8) : f_Ps_keep_100_17 m s = some (0, if k < 8 then wI (cpS s (102 + 13 * ((f + k) % 8)) 17) 100 2 ((k : Int) + 1) else wI (cpS s (102 + 13 * ((f + k) % 8)) 17) 100 1 (((f + 1) % 8 : Nat) : Int)) := by
  obtain ⟨n, rfl⟩ : ∃ n, m = n + 1 := ⟨m - 1, by omega⟩
  have e : Int.tmod ((f : Int) + (k : Int)) 8 = (((f + k) % 8 : Nat) : Int) := by
    rw [Int.tmod_eq_emod_of_nonneg (by omega)]; omega
  have hl : (f + k) % 8 < 8 := Nat.mod_lt _ (by decide)
  rw [f_Ps_keep_100_17_eq, hf, hk, w32_in (by omega) (by omega), e, inR_pos (by omega) (by omega), Int.toNat_natCast, R0_101 _ hl, C_keepL_17 _ _ _ _ hl]
  have o := cpS_only s (102 + 13 * ((f + k) % 8)) 17
  rw [o.1 100 (by omega), hk, hf]
  by_cases c : k < 8
  · rw [if_pos (by omega), if_pos c, w32_in (by omega) (by omega)]
  · rw [if_neg (by omega), if_neg c, w32_in (by omega) (by omega)]
    have e2 : Int.tmod ((f : Int) + 1) 8 = (((f + 1) % 8 : Nat) : Int) := by rw [Int.tmod_eq_emod_of_nonneg (by omega)]; omega
    rw [e2]
theorem C_backL (m n : Nat) (s : mS) : ∀ i : Nat, i < 8 → l_Ps_backTo_L37 m (n + 1) (some (102 + 13 * i)) s = some ((cpS s 17 (102 + 13 * i)).1 100 2, cpS s 17 (102 + 13 * i)) := by
  intro i hi
  match i, hi with
  | 0, _ => exact (l_Ps_backTo_L37_eq0 m n s).trans (by rw [cpS_17_102]; rfl)
  | 1, _ => exact (l_Ps_backTo_L37_eq1 m n s).trans (by rw [cpS_17_115]; rfl)
  | 2, _ => exact (l_Ps_backTo_L37_eq2 m n s).trans (by rw [cpS_17_128]; rfl)
  | 3, _ => exact (l_Ps_backTo_L37_eq3 m n s).trans (by rw [cpS_17_141]; rfl)
  | 4, _ => exact (l_Ps_backTo_L37_eq4 m n s).trans (by rw [cpS_17_154]; rfl)
  | 5, _ => exact (l_Ps_backTo_L37_eq5 m n s).trans (by rw [cpS_17_167]; rfl)
  | 6, _ => exact (l_Ps_backTo_L37_eq6 m n s).trans (by rw [cpS_17_180]; rfl)
  | 7, _ => exact (l_Ps_backTo_L37_eq7 m n s).trans (by rw [cpS_17_193]; rfl)
  | n + 8, h => exact absurd h (by omega)
theorem C_back {s : mS} {m : Nat} (hm : 1000 ≤ m) {f k : Nat} (hf : s.1 100 1 = (f : Int)) (hk : s.1 100 2 = (k : Int)) (hf8 : f < 8) (hk8 : k ≤ 8) (hk0 : 0 < k) : f_Ps_backTo m s = some ((k : Int) - 1, cpS (wI s 100 2 ((k : Int) - 1)) 17 (102 + 13 * ((f + (k - 1)) % 8))) := by
  obtain ⟨n, rfl⟩ : ∃ n, m = n + 1 := ⟨m - 1, by omega⟩
  have e : Int.tmod ((f : Int) + ((k : Int) - 1)) 8 = (((f + (k - 1)) % 8 : Nat) : Int) := by
    rw [Int.tmod_eq_emod_of_nonneg (by omega)]; omega
  have hl : (f + (k - 1)) % 8 < 8 := Nat.mod_lt _ (by decide)
  have z1 : (wI s 100 2 ((k : Int) - 1)).1 100 1 = (f : Int) := by rw [wI_f (by decide)]; exact hf
  have z2 : (wI s 100 2 ((k : Int) - 1)).1 100 2 = (k : Int) - 1 := wI_at
  have zz : w32 ((k : Int) - 1) = (k : Int) - 1 := w32_in (by omega) (by omega)
  rw [f_Ps_backTo_eq, hk, if_neg (by omega), zz, z1, z2, w32_in (by omega) (by omega), e, inR_pos (by omega) (by omega), Int.toNat_natCast, R0_101 _ hl, C_backL _ _ _ _ hl]
  have o := cpS_only (wI s 100 2 ((k : Int) - 1)) 17 (102 + 13 * ((f + (k - 1)) % 8))
  rw [o.1 100 (by omega), z2]
