/-! ===== layer 3: match (1): how many at most, purely ===== -/
/-- bst: the best by boxes below k; mxM: most of r from j on, boxes S gone -/
def bst (C : Nat → Nat) (T : Nat → Nat) (j S : Nat) : Nat → Nat
  | 0 => T S
  | k + 1 => if (C j).testBit k = true ∧ S.testBit k = false then max (bst C T j S k) (1 + T (S ||| 2 ^ k)) else bst C T j S k
def mxM (C : Nat → Nat) : Nat → Nat → Nat → Nat
  | 0, _, _ => 0
  | r + 1, j, S => bst C (fun S' => mxM C r (j + 1) S') j S 9
theorem bst_ge (C : Nat → Nat) (T : Nat → Nat) (j S : Nat) : ∀ k, T S ≤ bst C T j S k
  | 0 => Nat.le_refl _
  | k + 1 => by have := bst_ge C T j S k; rw [bst]; split <;> omega
theorem bst_box (C : Nat → Nat) (T : Nat → Nat) (j S b : Nat) (h1 : (C j).testBit b = true) (h2 : S.testBit b = false) : ∀ k, b < k → 1 + T (S ||| 2 ^ b) ≤ bst C T j S k
  | 0, h => by omega
  | k + 1, h => by
    rw [bst]
    by_cases e : b = k
    · subst e; rw [if_pos ⟨h1, h2⟩]; omega
    · have := bst_box C T j S b h1 h2 k (by omega)
      split <;> omega
theorem bst_or (C : Nat → Nat) (T : Nat → Nat) (j S : Nat) : ∀ k, bst C T j S k = T S ∨ ∃ b, b < k ∧ (C j).testBit b = true ∧ S.testBit b = false ∧ bst C T j S k = 1 + T (S ||| 2 ^ b)
  | 0 => Or.inl rfl
  | k + 1 => by
    have ih := bst_or C T j S k
    rw [bst]
    by_cases c : (C j).testBit k = true ∧ S.testBit k = false
    · rw [if_pos c]
      by_cases q : bst C T j S k ≤ 1 + T (S ||| 2 ^ k)
      · right; exact ⟨k, by omega, c.1, c.2, by omega⟩
      · rcases ih with e | ⟨b, b1, b2, b3, b4⟩
        · left; omega
        · right; exact ⟨b, by omega, b2, b3, by omega⟩
    · rw [if_neg c]
      rcases ih with e | ⟨b, b1, b2, b3, b4⟩
      · exact Or.inl e
      · right; exact ⟨b, by omega, b2, b3, b4⟩
/-- who is given which box, from j on: r of them, none of the boxes S -/
def isM (C : Nat → Nat) (j r S : Nat) (μ : Nat → Option Nat) : Prop :=
  (∀ i b, j ≤ i → i < j + r → μ i = some b → b < 9 ∧ (C i).testBit b = true ∧ S.testBit b = false) ∧ (∀ i i' b, j ≤ i → i < j + r → j ≤ i' → i' < j + r → μ i = some b → μ i' = some b → i = i')
/-- how many of r from j on are given one -/
def szM (μ : Nat → Option Nat) (j : Nat) : Nat → Nat
  | 0 => 0
  | r + 1 => szM μ j r + if (μ (j + r)).isSome then 1 else 0
theorem szM_head (μ : Nat → Option Nat) (j : Nat) : ∀ r, szM μ j (r + 1) = (if (μ j).isSome then 1 else 0) + szM μ (j + 1) r
  | 0 => by rw [szM, szM, szM, Nat.add_zero]; omega
  | r + 1 => by
    rw [szM, szM_head μ j r, szM, show j + (r + 1) = j + 1 + r from by omega]; omega
theorem testBit_set (S b k : Nat) : (S ||| 2 ^ b).testBit k = (S.testBit k || decide (b = k)) := by rw [Nat.testBit_or, Nat.testBit_two_pow]
theorem mx_ub (C : Nat → Nat) : ∀ (r j S : Nat) (μ : Nat → Option Nat), isM C j r S μ → szM μ j r ≤ mxM C r j S
  | 0, j, S, μ, _ => by rw [szM, mxM]; omega
  | r + 1, j, S, μ, h => by
    rw [szM_head, mxM]
    cases e : μ j with
    | none =>
      have ih := mx_ub C r (j + 1) S μ ⟨fun i b h1 h2 h3 => h.1 i b (by omega) (by omega) h3, fun i i' b a1 a2 a3 a4 a5 a6 => h.2 i i' b (by omega) (by omega) (by omega) (by omega) a5 a6⟩
      have g := bst_ge C (fun S' => mxM C r (j + 1) S') j S 9
      rw [if_neg (by decide)]
      omega
    | some b =>
      obtain ⟨b9, b1, b2⟩ := h.1 j b (by omega) (by omega) e
      have ih := mx_ub C r (j + 1) (S ||| 2 ^ b) μ ⟨fun i b' h1 h2 h3 => by
        obtain ⟨c1, c2, c3⟩ := h.1 i b' (by omega) (by omega) h3
        refine ⟨c1, c2, ?_⟩
        rw [testBit_set, c3, Bool.false_or]
        refine decide_eq_false (fun q => ?_)
        rw [← q] at h3
        have := h.2 j i b (by omega) (by omega) (by omega) (by omega) e h3
        omega, fun i i' b a1 a2 a3 a4 a5 a6 => h.2 i i' b (by omega) (by omega) (by omega) (by omega) a5 a6⟩
      have g := bst_box C (fun S' => mxM C r (j + 1) S') j S b b1 b2 9 b9
      rw [if_pos (show (some b).isSome = true from rfl)]
      omega
theorem szM_cg {μ ν : Nat → Option Nat} {j : Nat} : ∀ r, (∀ i, j ≤ i → i < j + r → ν i = μ i) → szM ν j r = szM μ j r
  | 0, _ => rfl
  | r + 1, h => by rw [szM, szM, szM_cg r (fun i h1 h2 => h i h1 (by omega)), h (j + r) (by omega) (by omega)]
theorem upO (μ : Nat → Option Nat) (j : Nat) (v : Option Nat) : ∃ ν : Nat → Option Nat, ν j = v ∧ ∀ i, i ≠ j → ν i = μ i := ⟨fun i => if i = j then v else μ i, if_pos rfl, fun i hi => if_neg hi⟩
theorem mx_at (C : Nat → Nat) : ∀ (r j S : Nat), ∃ μ, isM C j r S μ ∧ szM μ j r = mxM C r j S
  | 0, j, S => ⟨fun _ => none, ⟨fun i b h1 h2 => by omega, fun i i' b h1 h2 => by omega⟩, by rw [szM, mxM]⟩
  | r + 1, j, S => by
    rcases bst_or C (fun S' => mxM C r (j + 1) S') j S 9 with e | ⟨b, b9, b1, b2, e⟩
    · obtain ⟨μ, h1, h2⟩ := mx_at C r (j + 1) S
      obtain ⟨ν, n1, n2⟩ := upO μ j none
      refine ⟨ν, ⟨fun i b a1 a2 a3 => ?_, fun i i' b a1 a2 a3 a4 a5 a6 => ?_⟩, ?_⟩
      · by_cases q : i = j
        · rw [q, n1] at a3; cases a3
        · rw [n2 i q] at a3; exact h1.1 i b (by omega) (by omega) a3
      · by_cases q : i = j
        · rw [q, n1] at a5; cases a5
        · by_cases q' : i' = j
          · rw [q', n1] at a6; cases a6
          · rw [n2 i q] at a5; rw [n2 i' q'] at a6; exact h1.2 i i' b (by omega) (by omega) (by omega) (by omega) a5 a6
      · rw [szM_head, mxM, e, n1, szM_cg (μ := μ) r (fun i a1 a2 => n2 i (by omega)), if_neg (by decide)]
        show 0 + _ = mxM C r (j + 1) S
        omega
    · obtain ⟨μ, h1, h2⟩ := mx_at C r (j + 1) (S ||| 2 ^ b)
      have av : ∀ i b', j + 1 ≤ i → i < j + 1 + r → μ i = some b' → b' < 9 ∧ (C i).testBit b' = true ∧ S.testBit b' = false ∧ b' ≠ b := by
        intro i b' a1 a2 a3
        obtain ⟨c1, c2, c3⟩ := h1.1 i b' a1 a2 a3
        rw [testBit_set, Bool.or_eq_false_iff] at c3
        exact ⟨c1, c2, c3.1, fun q => of_decide_eq_false c3.2 q.symm⟩
      obtain ⟨ν, n1, n2⟩ := upO μ j (some b)
      refine ⟨ν, ⟨fun i b' a1 a2 a3 => ?_, fun i i' b' a1 a2 a3 a4 a5 a6 => ?_⟩, ?_⟩
      · by_cases q : i = j
        · rw [q, n1] at a3
          have e2 : b = b' := Option.some.inj a3
          rw [← e2, q]
          exact ⟨b9, b1, b2⟩
        · rw [n2 i q] at a3
          have := av i b' (by omega) (by omega) a3
          exact ⟨this.1, this.2.1, this.2.2.1⟩
      · by_cases q : i = j
        · by_cases q' : i' = j
          · omega
          · rw [q, n1] at a5; rw [n2 i' q'] at a6
            have e2 : b = b' := Option.some.inj a5
            exact absurd e2.symm (av i' b' (by omega) (by omega) a6).2.2.2
        · by_cases q' : i' = j
          · rw [n2 i q] at a5; rw [q', n1] at a6
            have e2 : b = b' := Option.some.inj a6
            exact absurd e2.symm (av i b' (by omega) (by omega) a5).2.2.2
          · rw [n2 i q] at a5; rw [n2 i' q'] at a6; exact h1.2 i i' b' (by omega) (by omega) (by omega) (by omega) a5 a6
      · rw [szM_head, mxM, e, n1, szM_cg (μ := μ) r (fun i a1 a2 => n2 i (by omega)), if_pos (show (some b).isSome = true from rfl)]
        show 1 + _ = 1 + mxM C r (j + 1) (S ||| 2 ^ b)
        omega
/-- those without any box add nothing -/
theorem mx_none (C : Nat → Nat) : ∀ (r j S t : Nat), (∀ i, j + r ≤ i → C i = 0) → mxM C (r + t) j S = mxM C r j S
  | 0, j, S, t, h => by
    rw [Nat.zero_add]
    induction t generalizing j S with
    | zero => rfl
    | succ t ih =>
      have e := bst_or C (fun S' => mxM C t (j + 1) S') j S 9
      rcases e with e | ⟨b, _, b1, _, _⟩
      · show bst C (fun S' => mxM C t (j + 1) S') j S 9 = _
        rw [e, ih (j + 1) S (fun i hi => h i (by omega))]; rfl
      · rw [h j (by omega), Nat.zero_testBit] at b1; cases b1
  | r + 1, j, S, t, h => by
    rw [show r + 1 + t = r + t + 1 from by omega, mxM, mxM]
    have : (fun S' => mxM C (r + t) (j + 1) S') = fun S' => mxM C r (j + 1) S' := by
      funext S'; exact mx_none C r (j + 1) S' t (fun i hi => h i (by omega))
    rw [this]
/-! counting -/
theorem ct_sub {p q : Nat → Bool} (h : ∀ i, q i = true → p i = true) (b : Nat) (hb : p b = true) (hq : ∀ i, i ≠ b → p i = true → q i = true) (hqb : q b = false) : ∀ n, b < n → ct p n = ct q n + 1
  | 0, h0 => by omega
  | n + 1, h0 => by
    rw [ct_s, ct_s]
    by_cases e : b = n
    · subst e
      have : ct p b = ct q b := ct_congr b (fun i hi => by
        cases hp : p i with
        | false => cases hqq : q i with
          | false => rfl
          | true => rw [h i hqq] at hp; cases hp
        | true => rw [hq i (by omega) hp])
      rw [this, if_pos hb, hqb, if_neg (by decide)]
    · have ih := ct_sub h b hb hq hqb n (by omega)
      have e2 : p n = q n := by
        cases hp : p n with
        | false => cases hqq : q n with
          | false => rfl
          | true => rw [h n hqq] at hp; cases hp
        | true => rw [hq n (fun z => e z.symm) hp]
      rw [ih, e2]; omega
/-- one to one into q: no more than q has -/
theorem ct_inj {p : Nat → Bool} {f : Nat → Nat} {M : Nat} : ∀ (n : Nat) (q : Nat → Bool), (∀ i, i < n → p i = true → f i < M ∧ q (f i) = true) → (∀ i i', i < n → i' < n → p i = true → p i' = true → f i = f i' → i = i') → ct p n ≤ ct q M
  | 0, q, _, _ => by show 0 ≤ _; omega
  | n + 1, q, h, hi => by
    rw [ct_s]
    by_cases b : p n = true
    · obtain ⟨m1, m2⟩ := h n (by omega) b
      have ih := ct_inj n (fun i => q i && !decide (i = f n)) (fun i hi2 hp => by
        obtain ⟨a1, a2⟩ := h i (by omega) hp
        refine ⟨a1, ?_⟩
        have : f i ≠ f n := fun z => by have := hi i n (by omega) (by omega) hp b z; omega
        rw [a2, decide_eq_false this]; rfl) (fun i i' a1 a2 a3 a4 a5 => hi i i' (by omega) (by omega) a3 a4 a5)
      have e := ct_sub (p := q) (q := fun i => q i && !decide (i = f n)) (fun i hh => by rw [Bool.and_eq_true] at hh; exact hh.1) (f n) m2 (fun i hne hp => by rw [hp, decide_eq_false hne]; rfl) (by rw [decide_eq_true rfl]; cases q (f n) <;> rfl) M m1
      rw [if_pos b]; omega
    · rw [if_neg b]
      have ih := ct_inj n q (fun i hi2 hp => h i (by omega) hp) (fun i i' a1 a2 a3 a4 a5 => hi i i' (by omega) (by omega) a3 a4 a5)
      omega
theorem ct_le2 {p q : Nat → Bool} {n : Nat} (h : ∀ i, i < n → p i = true → q i = true) : ct p n ≤ ct q n :=
  ct_inj (f := fun i => i) n q (fun i hi hp => ⟨hi, h i hi hp⟩) (fun i i' _ _ _ _ e => e)
theorem ct_split (p q : Nat → Bool) : ∀ n, ct p n = ct (fun i => p i && q i) n + ct (fun i => p i && !q i) n
  | 0 => rfl
  | n + 1 => by
    rw [ct_s, ct_s, ct_s, ct_split p q n]
    cases p n <;> cases q n <;> simp <;> omega
theorem szM_ct (μ : Nat → Option Nat) (j : Nat) : ∀ r, szM μ j r = ct (fun i => decide (j ≤ i) && (μ i).isSome) (j + r)
  | 0 => by
    rw [szM, Nat.add_zero]
    have : ∀ n, n ≤ j → ct (fun i => decide (j ≤ i) && (μ i).isSome) n = 0 := by
      intro n
      induction n with
      | zero => intro _; rfl
      | succ n ih => intro hn; rw [ct_s, ih (by omega), decide_eq_false (by omega)]; rfl
    rw [this j (Nat.le_refl _)]
  | r + 1 => by
    rw [szM, szM_ct μ j r, show j + (r + 1) = j + r + 1 from by omega, ct_s, decide_eq_true (by omega), Bool.true_and]
