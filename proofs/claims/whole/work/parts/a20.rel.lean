/-! ===== layer 3: rows, what is so of them, and the class's cells beside them ===== -/
abbrev Row : Type := Nat → Int
def up (A : Row) (k : Nat) (v : Int) : Row := fun j => if j = k then v else A j
theorem up_at (A : Row) (k : Nat) (v : Int) (j : Nat) : up A k v j = if j = k then v else A j := rfl
/-- a whole row is written -/
def sr (s : mS) (c : Nat) (f : Row) : mS := (fun a j => if a = c then f j else s.1 a j, s.2)
theorem wI_sr (s : mS) (c k : Nat) (v : Int) : wI s c k v = sr s c (up (s.1 c) k v) := by
  unfold wI sr u2 up
  congr 1
  funext a j
  by_cases h : a = c
  · subst h; by_cases h2 : j = k
    · simp [h2]
    · simp [h2]
  · simp [h]
theorem sr_eq (s : mS) (c : Nat) (f : Row) : (sr s c f).1 c = f := by
  unfold sr; funext j; simp
theorem sr_ne (s : mS) (c : Nat) (f : Row) {a : Nat} (h : a ≠ c) : (sr s c f).1 a = s.1 a := by
  unfold sr; funext j; simp [h]
theorem sr_at (s : mS) (c : Nat) (f : Row) (a : Nat) : (sr s c f).1 a = if a = c then f else s.1 a := by
  by_cases h : a = c
  · subst h; rw [sr_eq, if_pos rfl]
  · rw [sr_ne s c f h, if_neg h]
theorem sr_2 (s : mS) (c : Nat) (f : Row) : (sr s c f).2 = s.2 := rfl
theorem sr_sr (s : mS) (c : Nat) (f g : Row) : sr (sr s c f) c g = sr s c g := by
  unfold sr; congr 1; funext a j; by_cases h : a = c <;> simp [h]
theorem sr_self (s : mS) (c : Nat) : sr s c (s.1 c) = s := by
  unfold sr
  have : (fun a j => if a = c then s.1 c j else s.1 a j) = s.1 := by
    funext a j; by_cases h : a = c
    · subst h; simp
    · simp [h]
  rw [this]
theorem sr_cm (s : mS) (c d : Nat) (f g : Row) (h : c ≠ d) : sr (sr s c f) d g = sr (sr s d g) c f := by
  unfold sr; congr 1; funext a j
  by_cases h1 : a = c
  · subst h1; simp [h]
  · by_cases h2 : a = d
    · subst h2; simp [h1]
    · simp [h1, h2]
theorem w_sr (s : mS) (c : Nat) (f : Row) (k : Nat) (v : Int) : wI (sr s c f) c k v = sr s c (up f k v) := by
  rw [wI_sr, sr_eq, sr_sr]
/-- what a vestry tells is as told -/
def WFv (A : Row) : Prop :=
  (0 ≤ A 0 ∧ A 0 ≤ 9) ∧ (0 ≤ A 1 ∧ A 1 ≤ 5) ∧ (0 ≤ A 2 ∧ A 2 ≤ 12) ∧ (0 ≤ A 3 ∧ A 3 ≤ 12) ∧ (0 ≤ A 4 ∧ A 4 ≤ 4) ∧ (0 ≤ A 5 ∧ A 5 ≤ 9) ∧
  (∀ b : Nat, (b : Int) < A 0 → 10 ≤ A (6 + b) ∧ A (6 + b) ≤ 99 ∧ 1 ≤ A (15 + b) ∧ A (15 + b) ≤ 99) ∧
  (∀ p : Nat, (p : Int) < A 1 → 0 ≤ A (24 + p) ∧ A (24 + p) ≤ 60) ∧
  (∀ d : Nat, (d : Int) < A 2 → 10 ≤ A (29 + d) ∧ A (29 + d) ≤ 99 ∧ 0 ≤ A (41 + d) ∧ A (41 + d) ≤ 99 ∧ 0 ≤ A (53 + d) ∧ A (53 + d) < 4096 ∧ 0 ≤ A (65 + d) ∧ A (65 + d) ≤ A 0) ∧
  (∀ d : Nat, (d : Int) < A 2 → ∀ e : Nat, (A (53 + d)).toNat.testBit e = true → (e : Int) < A 2) ∧
  (∀ f : Nat, (f : Int) < A 4 → 0 ≤ A (77 + f) ∧ A (77 + f) ≤ 199 ∧ 1 ≤ A (81 + f) ∧ A (81 + f) ≤ 60)
/-- what is so on a day can be so -/
def WFs (A : Row) : Prop :=
  (0 ≤ A 85 ∧ A 85 ≤ 400) ∧
  (∀ b : Nat, (b : Int) < A 0 → 0 ≤ A (86 + b) ∧ A (86 + b) ≤ A (15 + b) ∧ 0 ≤ A (104 + b) ∧ A (104 + b) ≤ 9) ∧
  (∀ b : Nat, (b : Int) < A 0 → A (95 + b) = -1 ∨ (0 ≤ A (95 + b) ∧ A (95 + b) < A 2 ∧ A (164 + (A (95 + b)).toNat) = 2 ∧ A (176 + (A (95 + b)).toNat) = (b : Int))) ∧
  (∀ p : Nat, (p : Int) < A 1 → -1 ≤ A (154 + p) ∧ A (154 + p) < A 2 ∧ 0 ≤ A (149 + p) ∧ A (149 + p) ≤ 60) ∧
  (∀ d : Nat, (d : Int) < A 2 → 0 ≤ A (164 + d) ∧ A (164 + d) ≤ 3 ∧ 0 ≤ A (200 + d) ∧ A (200 + d) ≤ A 85 ∧ 0 ≤ A (212 + d) ∧ A (212 + d) ≤ A 85 ∧ (A (164 + d) = 0 → A 85 < A (41 + d))) ∧
  (∀ d : Nat, (d : Int) < A 2 → A (164 + d) = 2 → 0 ≤ A (176 + d) ∧ A (176 + d) < A 0 ∧ A (95 + (A (176 + d)).toNat) = (d : Int)) ∧
  (∀ d : Nat, (d : Int) < A 2 → A (164 + d) ≠ 2 → A (176 + d) = -1) ∧
  (∀ d : Nat, (d : Int) < A 2 → A (164 + d) = 3 → 0 ≤ A (188 + d) ∧ A (188 + d) < A 1) ∧
  (∀ d : Nat, (d : Int) < A 2 → A (164 + d) ≠ 3 → A (188 + d) = -1)
/-- the class's vestry at t, beside a row -/
def VR (s : mS) (t : Nat) (A : Row) : Prop :=
  s.1 t 0 = A 0 ∧ s.1 t 1 = A 1 ∧ s.1 t 2 = A 2 ∧ s.1 t 3 = A 3 ∧ s.1 t 4 = A 4 ∧ s.1 t 5 = A 5 ∧
  (∀ b : Nat, (b : Int) < A 0 → s.1 (t + 2) b = A (6 + b) ∧ s.1 (t + 3) b = A (15 + b)) ∧
  (∀ p : Nat, (p : Int) < A 1 → s.1 (t + 5) p = A (24 + p)) ∧
  (∀ d : Nat, (d : Int) < A 2 → s.1 (t + 7) d = A (29 + d) ∧ s.1 (t + 8) d = A (41 + d) ∧ s.1 (t + 9) d = A (53 + d) ∧ s.1 (t + 10) d = A (65 + d) - 1) ∧
  (∀ f : Nat, (f : Int) < A 4 → s.1 (t + 11) f = A (77 + f) ∧ s.1 (t + 12) f = A (81 + f)) ∧ (s.1 t 6 = 0 ∨ s.1 t 6 = 1)
/-- the class's state at t, beside a row: days till then, days that are left -/
def SR (s : mS) (t : Nat) (A : Row) : Prop :=
  s.1 t 0 = A 85 ∧
  (∀ b : Nat, (b : Int) < A 0 → s.1 (t + 1) b = A (86 + b) ∧ s.1 (t + 2) b = A (95 + b) ∧ A (104 + b) = max 0 (s.1 (t + 3) b - A 85) ∧ 0 ≤ s.1 (t + 3) b ∧ s.1 (t + 3) b ≤ 500) ∧
  (∀ k : Nat, (k : Int) < 4 * A 0 → s.1 (t + 4) k = A (113 + k)) ∧
  (∀ p : Nat, (p : Int) < A 1 → s.1 (t + 5) p = A (154 + p) ∧ A (149 + p) = max 0 (s.1 (t + 6) p - A 85) ∧ 0 ≤ s.1 (t + 6) p ∧ s.1 (t + 6) p ≤ 500 ∧ s.1 (t + 7) p = A (159 + p)) ∧
  (∀ d : Nat, (d : Int) < A 2 → s.1 (t + 8) d = A (164 + d) ∧ s.1 (t + 9) d = A (176 + d) ∧ s.1 (t + 10) d = A (188 + d) ∧ s.1 (t + 11) d = A (200 + d) ∧ s.1 (t + 12) d = A (212 + d))
/-- cells lo .. hi - 1 alone may have changed (numbers), no long has -/
def only (s s' : mS) (lo hi : Nat) : Prop := (∀ c, c < lo ∨ hi ≤ c → s'.1 c = s.1 c) ∧ s'.2 = s.2
theorem only_rf (s : mS) (lo hi : Nat) : only s s lo hi := ⟨fun _ _ => rfl, rfl⟩
theorem only_tr {s t u : mS} {lo hi : Nat} (h1 : only s t lo hi) (h2 : only t u lo hi) : only s u lo hi := ⟨fun c hc => (h2.1 c hc).trans (h1.1 c hc), h2.2.trans h1.2⟩
theorem only_wI {s : mS} {c k : Nat} {v : Int} {lo hi : Nat} (h : lo ≤ c) (h2 : c < hi) : only s (wI s c k v) lo hi := by
  refine ⟨fun a ha => ?_, rfl⟩
  funext j
  rw [wI_1, if_neg (by omega)]
theorem only_wd {s t : mS} {lo hi lo' hi' : Nat} (h : only s t lo hi) (h1 : lo' ≤ lo) (h2 : hi ≤ hi') : only s t lo' hi' := ⟨fun c hc => h.1 c (by omega), h.2⟩
theorem VR_keep {s s' : mS} {t : Nat} {A : Row} (h : VR s t A) (hk : ∀ c, t ≤ c → c ≤ t + 12 → s'.1 c = s.1 c) : VR s' t A := by
  obtain ⟨h0, h1, h2, h3, h4, h5, h6, h7, h8, h9, h10⟩ := h
  have e0 := hk t (by omega) (by omega)
  refine ⟨by rw [e0]; exact h0, by rw [e0]; exact h1, by rw [e0]; exact h2, by rw [e0]; exact h3, by rw [e0]; exact h4, by rw [e0]; exact h5, ?_, ?_, ?_, ?_, by rw [e0]; exact h10⟩
  · intro b hb; rw [hk (t + 2) (by omega) (by omega), hk (t + 3) (by omega) (by omega)]; exact h6 b hb
  · intro b hb; rw [hk (t + 5) (by omega) (by omega)]; exact h7 b hb
  · intro b hb; rw [hk (t + 7) (by omega) (by omega), hk (t + 8) (by omega) (by omega), hk (t + 9) (by omega) (by omega), hk (t + 10) (by omega) (by omega)]; exact h8 b hb
  · intro b hb; rw [hk (t + 11) (by omega) (by omega), hk (t + 12) (by omega) (by omega)]; exact h9 b hb
theorem SR_keep {s s' : mS} {t : Nat} {A : Row} (h : SR s t A) (hk : ∀ c, t ≤ c → c ≤ t + 12 → s'.1 c = s.1 c) : SR s' t A := by
  obtain ⟨h0, h1, h2, h3, h4⟩ := h
  refine ⟨by rw [hk t (by omega) (by omega)]; exact h0, ?_, ?_, ?_, ?_⟩
  · intro b hb; rw [hk (t + 1) (by omega) (by omega), hk (t + 2) (by omega) (by omega), hk (t + 3) (by omega) (by omega)]; exact h1 b hb
  · intro b hb; rw [hk (t + 4) (by omega) (by omega)]; exact h2 b hb
  · intro b hb; rw [hk (t + 5) (by omega) (by omega), hk (t + 6) (by omega) (by omega), hk (t + 7) (by omega) (by omega)]; exact h3 b hb
  · intro b hb; rw [hk (t + 8) (by omega) (by omega), hk (t + 9) (by omega) (by omega), hk (t + 10) (by omega) (by omega), hk (t + 11) (by omega) (by omega), hk (t + 12) (by omega) (by omega)]; exact h4 b hb
