/-! ===== written by gen_a42.py: the reference: days, what is put aside ===== -/
theorem R_comeL {s : mS} {m : Nat} : ∀ (k n i : Nat) (A : Row), A 2 ≤ 12 → i + k = (A 2).toNat → k < n →
    l_R_comeb_L2 m n (i : Int) (sr s 251 A) = some (0, sr s 251 (fun q => if 164 + i ≤ q ∧ q < 164 + (A 2).toNat ∧ A q = 0 ∧ A (q - 123) = A 85 then 1 else A q)) := by
  intro k
  induction k with
  | zero =>
    intro n i A hn hi hkn
    obtain ⟨n, rfl⟩ : ∃ n', n = n' + 1 := ⟨n - 1, by omega⟩
    rw [l_R_comeb_L2_eq, sr_eq, if_neg (by omega)]
    refine congrArg (fun z => some ((0 : Int), z)) (sr_ext (fun q => ?_))
    rw [if_neg (by omega)]
  | succ k ih =>
    intro n i A hn hi hkn
    obtain ⟨n, rfl⟩ : ∃ n', n = n' + 1 := ⟨n - 1, by omega⟩
    have hd : (i : Int) < A 2 := by omega
    have e1 : w32 ((i : Int) + 1) = ((i + 1 : Nat) : Int) := by rw [w32_in (by omega) (by omega)]; rfl
    rw [l_R_comeb_L2_eq, sr_eq, if_pos hd, e1]
    simp (disch := omega) only [w32_in, inR_pos, Int.toNat_add_nat, Int.reduceToNat, w_sr]
    by_cases c1 : A (164 + i) = 0
    · by_cases c2 : A (41 + i) = A 85
      · rw [if_pos c1, if_pos c2]
        have u2 : up A (164 + i) 1 2 = A 2 := up_ne (by omega)
        have u85 : up A (164 + i) 1 85 = A 85 := up_ne (by omega)
        rw [ih n (i + 1) (up A (164 + i) 1) (by rw [u2]; exact hn) (by rw [u2]; omega) (by omega)]
        refine congrArg (fun z => some ((0 : Int), z)) (sr_ext (fun q => ?_))
        rw [u2, u85]
        clear ih u2 u85 e1
        simp only [up_at]; grind
      · rw [if_pos c1, if_neg c2]
        rw [ih n (i + 1) A hn (by omega) (by omega)]
        refine congrArg (fun z => some ((0 : Int), z)) (sr_ext (fun q => ?_))
        clear ih e1; grind
    · rw [if_neg c1]
      rw [ih n (i + 1) A hn (by omega) (by omega)]
      refine congrArg (fun z => some ((0 : Int), z)) (sr_ext (fun q => ?_))
      clear ih e1; grind
theorem R_come {s : mS} {A : Row} (hA : s.1 251 = A) (hn : A 2 ≤ 12) {m : Nat} (hm : 1000 ≤ m) : f_R_comeb m s = some (0, sr s 251 (comes A)) := by
  rw [f_R_comeb_eq]
  have h := R_comeL (s := s) (m := m) (A 2).toNat m 0 A hn (by omega) (by omega)
  have e : sr s 251 A = s := by rw [← hA]; exact sr_self s 251
  rw [e] at h
  exact h
/-- from i on: those who wait or lie count a day -/
def tickW (A : Row) (i : Nat) : Row := fun k => if 200 + i ≤ k ∧ k < 200 + (A 2).toNat ∧ A (k - 36) = 1 then A k + 1 else if 212 + i ≤ k ∧ k < 212 + (A 2).toNat ∧ A (k - 48) = 2 then A k + 1 else A k
def tickB (A : Row) (i : Nat) : Row := fun k => if 104 + i ≤ k ∧ k < 113 ∧ 0 < A k then A k - 1 else A k
def tickP (A : Row) (i : Nat) : Row := fun k => if 149 + i ≤ k ∧ k < 154 ∧ 0 < A k then A k - 1 else A k
theorem R_tickL {s : mS} {m : Nat} : ∀ (k n i : Nat) (A : Row), A 2 ≤ 12 → (∀ d : Nat, (d : Int) < A 2 → i ≤ d → 0 ≤ A (200 + d) ∧ A (200 + d) ≤ 1000 ∧ 0 ≤ A (212 + d) ∧ A (212 + d) ≤ 1000) → i + k = (A 2).toNat → k < n →
    l_R_oneDay_L2 m n (i : Int) (sr s 251 A) = l_R_oneDay_L76 m (n - (k + 1)) 0 (sr s 251 (tickW A i)) := by
  intro k
  induction k with
  | zero =>
    intro n i A hn hw hi hkn
    obtain ⟨n, rfl⟩ : ∃ n', n = n' + 1 := ⟨n - 1, by omega⟩
    rw [l_R_oneDay_L2_eq, sr_eq, if_neg (by omega)]
    refine congrArg (fun z => l_R_oneDay_L76 m n 0 z) (sr_ext (fun q => ?_))
    unfold tickW
    rw [if_neg (by omega), if_neg (by omega)]
  | succ k ih =>
    intro n i A hn hw hi hkn
    obtain ⟨n, rfl⟩ : ∃ n', n = n' + 1 := ⟨n - 1, by omega⟩
    have hd : (i : Int) < A 2 := by omega
    have e1 : w32 ((i : Int) + 1) = ((i + 1 : Nat) : Int) := by rw [w32_in (by omega) (by omega)]; rfl
    have g := hw i hd (by omega)
    have en : n + 1 - (k + 1 + 1) = n - (k + 1) := by omega
    rw [l_R_oneDay_L2_eq, sr_eq, if_pos hd, e1, en]
    simp (disch := omega) only [w32_in, inR_pos, Int.toNat_add_nat, Int.reduceToNat, w_sr, sr_eq, up_ne]
    have key : ∀ B : Row, B 2 = A 2 → (∀ d : Nat, (d : Int) < A 2 → i + 1 ≤ d → B (200 + d) = A (200 + d) ∧ B (212 + d) = A (212 + d)) → (∀ q, tickW B (i + 1) q = tickW A i q) → l_R_oneDay_L2 m n ((i + 1 : Nat) : Int) (sr s 251 B) = l_R_oneDay_L76 m (n - (k + 1)) 0 (sr s 251 (tickW A i)) := by
      intro B b2 bw bt
      rw [ih n (i + 1) B (by omega) (by intro d hd' hid; rw [(bw d (by omega) hid).1, (bw d (by omega) hid).2]; exact hw d (by omega) (by omega)) (by omega) (by omega)]
      rw [sr_ext bt]
    clear ih
    by_cases c1 : A (164 + i) = 1
    · rw [if_pos c1, if_neg (by omega)]
      refine key _ (up_ne (by omega)) (fun d h1 h2 => ⟨up_ne (by omega), up_ne (by omega)⟩) (fun q => ?_)
      clear key hw e1
      unfold tickW
      rw [up_ne (by omega : 2 ≠ 200 + i)]
      by_cases hq : q = 200 + i
      · subst hq
        have z1 : 200 + i - 36 = 164 + i := by omega
        rw [up_eq, if_neg (by omega), if_neg (by omega), z1, if_pos ⟨by omega, by omega, c1⟩]
      · rw [up_ne hq]
        by_cases hr : 200 + (i + 1) ≤ q ∧ q < 224
        · rw [up_ne (by omega : q - 36 ≠ 200 + i), up_ne (by omega : q - 48 ≠ 200 + i)]
          by_cases hz : q = 212 + i
          · subst hz
            have z1 : 212 + i - 48 = 164 + i := by omega
            rw [z1]; grind
          · grind
        · rw [if_neg (by omega), if_neg (by omega), if_neg (by omega), if_neg (by omega)]
    · rw [if_neg c1]
      by_cases c2 : A (164 + i) = 2
      · rw [if_pos c2]
        refine key _ (up_ne (by omega)) (fun d h1 h2 => ⟨up_ne (by omega), up_ne (by omega)⟩) (fun q => ?_)
        clear key hw e1
        unfold tickW
        rw [up_ne (by omega : 2 ≠ 212 + i)]
        by_cases hq : q = 212 + i
        · subst hq
          have z1 : 212 + i - 48 = 164 + i := by omega
          rw [up_eq, if_neg (by omega), if_neg (by omega), if_neg (by omega), z1, if_pos ⟨by omega, by omega, c2⟩]
        · rw [up_ne hq]
          by_cases hr : 200 + i ≤ q ∧ q < 224
          · rw [up_ne (by omega : q - 36 ≠ 212 + i), up_ne (by omega : q - 48 ≠ 212 + i)]
            by_cases hz : q = 200 + i
            · subst hz
              have z1 : 200 + i - 36 = 164 + i := by omega
              rw [z1]; grind
            · grind
          · rw [if_neg (by omega), if_neg (by omega), if_neg (by omega), if_neg (by omega)]
      · rw [if_neg c2]
        refine key _ rfl (fun d h1 h2 => ⟨rfl, rfl⟩) (fun q => ?_)
        clear key hw e1
        unfold tickW
        have z1 : q = 200 + i → q - 36 = 164 + i := by omega
        have z2 : q = 212 + i → q - 48 = 164 + i := by omega
        grind
theorem R_tickBL {s : mS} {m : Nat} : ∀ (k n i : Nat) (A : Row), (∀ b : Nat, b < 9 → i ≤ b → A (104 + b) ≤ 1000) → i + k = 9 → k < n →
    l_R_oneDay_L76 m n (i : Int) (sr s 251 A) = l_R_oneDay_L115 m (n - (k + 1)) 0 (sr s 251 (tickB A i)) := by
  intro k
  induction k with
  | zero =>
    intro n i A hw hi hkn
    obtain ⟨n, rfl⟩ : ∃ n', n = n' + 1 := ⟨n - 1, by omega⟩
    rw [l_R_oneDay_L76_eq, if_neg (by omega)]
    refine congrArg (fun z => l_R_oneDay_L115 m n 0 z) (sr_ext (fun q => ?_))
    unfold tickB
    rw [if_neg (by omega)]
  | succ k ih =>
    intro n i A hw hi hkn
    obtain ⟨n, rfl⟩ : ∃ n', n = n' + 1 := ⟨n - 1, by omega⟩
    have e1 : w32 ((i : Int) + 1) = ((i + 1 : Nat) : Int) := by rw [w32_in (by omega) (by omega)]; rfl
    have g := hw i (by omega) (by omega)
    have en : n + 1 - (k + 1 + 1) = n - (k + 1) := by omega
    rw [l_R_oneDay_L76_eq, sr_eq, if_pos (by omega), e1, en]
    simp (disch := omega) only [w32_in, inR_pos, Int.toNat_add_nat, Int.reduceToNat, w_sr, sr_eq]
    by_cases c1 : 0 < A (104 + i)
    · rw [if_pos c1, ih n (i + 1) (up A (104 + i) (A (104 + i) - 1)) (by intro b hb hib; rw [up_ne (by omega)]; exact hw b hb (by omega)) (by omega) (by omega)]
      refine congrArg (fun z => l_R_oneDay_L115 m (n - (k + 1)) 0 z) (sr_ext (fun q => ?_))
      clear ih hw e1
      unfold tickB; simp only [up_at]; grind
    · rw [if_neg c1, ih n (i + 1) A (by intro b hb hib; exact hw b hb (by omega)) (by omega) (by omega)]
      refine congrArg (fun z => l_R_oneDay_L115 m (n - (k + 1)) 0 z) (sr_ext (fun q => ?_))
      clear ih hw e1
      unfold tickB; grind
theorem R_tickPL {s : mS} {m : Nat} : ∀ (k n i : Nat) (A : Row), (∀ b : Nat, b < 5 → i ≤ b → A (149 + b) ≤ 1000) → i + k = 5 → k < n →
    l_R_oneDay_L115 m n (i : Int) (sr s 251 A) = ((f_R_comeb m (wI (sr s 251 (tickP A i)) 251 85 (w32 ((tickP A i 85) + 1)))).bind fun p0 => (some (0, p0.2))) := by
  intro k
  induction k with
  | zero =>
    intro n i A hw hi hkn
    obtain ⟨n, rfl⟩ : ∃ n', n = n' + 1 := ⟨n - 1, by omega⟩
    have e : sr s 251 (tickP A i) = sr s 251 A := sr_ext (fun q => by unfold tickP; rw [if_neg (by omega)])
    have e2 : tickP A i 85 = A 85 := by unfold tickP; rw [if_neg (by omega)]
    rw [l_R_oneDay_L115_eq, if_neg (by omega), e, e2, sr_eq]
  | succ k ih =>
    intro n i A hw hi hkn
    obtain ⟨n, rfl⟩ : ∃ n', n = n' + 1 := ⟨n - 1, by omega⟩
    have e1 : w32 ((i : Int) + 1) = ((i + 1 : Nat) : Int) := by rw [w32_in (by omega) (by omega)]; rfl
    have g := hw i (by omega) (by omega)
    rw [l_R_oneDay_L115_eq, sr_eq, if_pos (by omega), e1]
    simp (disch := omega) only [w32_in, inR_pos, Int.toNat_add_nat, Int.reduceToNat, w_sr, sr_eq]
    have key : ∀ B : Row, (∀ b : Nat, b < 5 → i + 1 ≤ b → B (149 + b) = A (149 + b)) → (∀ q, tickP B (i + 1) q = tickP A i q) → l_R_oneDay_L115 m n ((i + 1 : Nat) : Int) (sr s 251 B) = ((f_R_comeb m (sr s 251 (up (tickP A i) 85 (w32 ((tickP A i 85) + 1))))).bind fun p0 => (some (0, p0.2))) := by
      intro B bw bt
      rw [ih n (i + 1) B (by intro b hb hib; rw [bw b hb hib]; exact hw b hb (by omega)) (by omega) (by omega), sr_ext bt, bt 85, w_sr]
    clear ih
    by_cases c1 : 0 < A (149 + i)
    · rw [if_pos c1]
      refine key _ (fun b h1 h2 => up_ne (by omega)) (fun q => ?_)
      clear key hw e1
      unfold tickP; simp only [up_at]; grind
    · rw [if_neg c1]
      refine key _ (fun b h1 h2 => rfl) (fun q => ?_)
      clear key hw e1
      unfold tickP; grind
theorem R_day {s : mS} {A : Row} (hA : s.1 251 = A) (hv : WFv A) (hw : WFs A) (ha : ∀ b : Nat, b < 9 → A (104 + b) ≤ 1000) (hp : ∀ b : Nat, b < 5 → A (149 + b) ≤ 1000) {m : Nat} (hm : 1000 ≤ m) : f_R_oneDay m s = some (0, sr s 251 (dayA A)) := by
  have w2 := WFv_dead hv
  have hdy := WFs_day hw
  have e : sr s 251 A = s := by rw [← hA]; exact sr_self s 251
  have h1 := R_tickL (s := s) (m := m) (A 2).toNat m 0 A w2.2 (fun d hd _ => by have := WFs_dead hw hd; omega) (by omega) (by omega)
  have t1 : ∀ b : Nat, b < 9 → tickW A 0 (104 + b) = A (104 + b) := by intro b hb; unfold tickW; rw [if_neg (by omega), if_neg (by omega)]
  have t2 : ∀ b : Nat, b < 5 → tickB (tickW A 0) 0 (149 + b) = A (149 + b) := by intro b hb; unfold tickB; rw [if_neg (by omega)]; unfold tickW; rw [if_neg (by omega), if_neg (by omega)]
  have h2 := R_tickBL (s := s) (m := m) 9 (m - ((A 2).toNat + 1)) 0 (tickW A 0) (fun b hb _ => by rw [t1 b hb]; exact ha b hb) (by omega) (by omega)
  have h3 := R_tickPL (s := s) (m := m) 5 (m - ((A 2).toNat + 1) - (9 + 1)) 0 (tickB (tickW A 0) 0) (fun b hb _ => by rw [t2 b hb]; exact hp b hb) (by omega) (by omega)
  rw [e] at h1
  rw [f_R_oneDay_eq]
  rw [show ((0 : Nat) : Int) = 0 from rfl] at h1 h2 h3
  rw [h1, h2, h3, w_sr]
  have q85 : tickP (tickB (tickW A 0) 0) 0 85 = A 85 := by unfold tickP tickB tickW; rw [if_neg (by omega), if_neg (by omega), if_neg (by omega), if_neg (by omega)]
  rw [q85, w32_in (by omega) (by omega)]
  have qq : ∀ k, up (tickP (tickB (tickW A 0) 0) 0) 85 (A 85 + 1) k = tickA A k := by
    intro k
    clear h1 h2 h3 t1 t2 ha hp
    unfold tickP tickB tickW tickA
    simp only [up_at]
    by_cases c0 : k = 85
    · rw [if_pos c0, if_pos c0]
    · rw [if_neg c0, if_neg c0]
      by_cases c1 : 200 ≤ k
      · rw [if_neg (by omega), if_neg (by omega)]
        grind
      · grind
  rw [sr_ext qq]
  rw [R_come (A := tickA A) (sr_eq _ _ _) (by rw [tickA_lo w2.2 (by omega)]; exact w2.2) hm]
  rw [Option.bind_some, sr_sr]
  rfl

