/-! ===== layer 3: tokenizer (1): the two spellings tell words apart ===== -/
theorem E27_zero {ws : List Nat} (h : ∀ l ∈ ws, 1 ≤ l ∧ l ≤ 26) (e : E27 ws = 0) : ws = [] := by
  rcases List.eq_nil_or_concat ws with q | ⟨L, b, q⟩
  · exact q
  · exfalso
    have hb := h b (by rw [q]; simp)
    rw [q] at e
    simp only [List.concat_eq_append, E27_snoc] at e
    omega
theorem E27_inj : ∀ (n : Nat) (a b : List Nat), a.length = n → (∀ l ∈ a, 1 ≤ l ∧ l ≤ 26) → (∀ l ∈ b, 1 ≤ l ∧ l ≤ 26) → E27 a = E27 b → a = b
  | 0, a, b, hn, ha, hb, e => by
    have : a = [] := List.length_eq_zero_iff.mp hn
    subst this
    exact (E27_zero hb (by rw [← e]; rfl)).symm
  | n + 1, a, b, hn, ha, hb, e => by
    have hne : a ≠ [] := by intro e; subst e; simp at hn
    have hbe : b ≠ [] := by
      intro q
      subst q
      exact hne (E27_zero ha (by rw [e]; rfl))
    have ea := List.dropLast_concat_getLast hne
    have eb := List.dropLast_concat_getLast hbe
    have hl : (a.dropLast).length = n := by rw [List.length_dropLast, hn]; rfl
    have la := ha _ (List.getLast_mem hne)
    have lb := hb _ (List.getLast_mem hbe)
    rw [← ea, ← eb, E27_snoc, E27_snoc] at e
    have e2 : a.getLast hne = b.getLast hbe := by omega
    have e1 : E27 a.dropLast = E27 b.dropLast := by omega
    have ih := E27_inj n a.dropLast b.dropLast hl (fun x hx => ha x (List.dropLast_subset _ hx)) (fun x hx => hb x (List.dropLast_subset _ hx)) e1
    rw [← ea, ← eb, ih, e2]
theorem E256_zero {ws : List Nat} (h : ∀ l ∈ ws, 1 ≤ l ∧ l ≤ 26) (e : E256 ws = 0) : ws = [] := by
  rcases List.eq_nil_or_concat ws with q | ⟨L, b, q⟩
  · exact q
  · exfalso
    have hb := h b (by rw [q]; simp)
    rw [q] at e
    simp only [List.concat_eq_append, E256_snoc] at e
    omega
theorem E256_inj : ∀ (n : Nat) (a b : List Nat), a.length = n → (∀ l ∈ a, 1 ≤ l ∧ l ≤ 26) → (∀ l ∈ b, 1 ≤ l ∧ l ≤ 26) → E256 a = E256 b → a = b
  | 0, a, b, hn, ha, hb, e => by
    have : a = [] := List.length_eq_zero_iff.mp hn
    subst this
    exact (E256_zero hb (by rw [← e]; rfl)).symm
  | n + 1, a, b, hn, ha, hb, e => by
    have hne : a ≠ [] := by intro e; subst e; simp at hn
    have hbe : b ≠ [] := by
      intro q
      subst q
      exact hne (E256_zero ha (by rw [e]; rfl))
    have ea := List.dropLast_concat_getLast hne
    have eb := List.dropLast_concat_getLast hbe
    have hl : (a.dropLast).length = n := by rw [List.length_dropLast, hn]; rfl
    have la := ha _ (List.getLast_mem hne)
    have lb := hb _ (List.getLast_mem hbe)
    rw [← ea, ← eb, E256_snoc, E256_snoc] at e
    have e2 : a.getLast hne = b.getLast hbe := by omega
    have e1 : E256 a.dropLast = E256 b.dropLast := by omega
    have ih := E256_inj n a.dropLast b.dropLast hl (fun x hx => ha x (List.dropLast_subset _ hx)) (fun x hx => hb x (List.dropLast_subset _ hx)) e1
    rw [← ea, ← eb, ih, e2]
