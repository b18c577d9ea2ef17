/-! ===== what the start leaves ===== -/
theorem start_some : ∃ (x : Int) (T : mT) (s : mS), startR = some (x, T, s) ∧ T.1 = 270 ∧ (∀ t, t < 270 → T.2.1 t = SHf t) ∧ (∀ t, t < 270 → okRf T t = true) ∧ okS s = true ∧ okTape s = true := by
  have h := startB_ok
  unfold startB at h
  generalize startR = r at h ⊢
  match r, h with
  | some (x, T, s), h =>
    have h : (Nat.beq T.1 270 && ((List.range 270).all (fun t => okSh T t && okRf T t) && (okS s && okTape s))) = true := h
    rw [Bool.and_eq_true, Bool.and_eq_true, Bool.and_eq_true] at h
    obtain ⟨h1, h2, h3, h4⟩ := h
    have h5 : ∀ t, t < 270 → (okSh T t && okRf T t) = true := fun t ht => List.all_eq_true.mp h2 t (List.mem_range.mpr ht)
    refine ⟨x, T, s, rfl, Nat.eq_of_beq_eq_true h1, fun t ht => ?_, fun t ht => ?_, h3, h4⟩
    · have := h5 t ht
      rw [Bool.and_eq_true] at this
      exact of_decide_eq_true this.1
    · have := h5 t ht
      rw [Bool.and_eq_true] at this
      exact this.2
theorem fty_ok : ∀ ci, ci < 11 → ∀ k, k < nF ci → (fty ci k = 1 ∨ fty ci k = 15 ∨ fty ci k = 2 ∨ fty ci k = 4) ∨ (Nat.beq (fty ci k) 3 || Nat.beq (fty ci k) 16) = true := by decide +kernel
theorem arrV_ext {cA : ClassId} {n : Nat} {f g : Nat → Value} (h : ∀ j, j < n → f j = g j) : arrV cA n f = arrV cA n g := by
  unfold arrV
  have e : (fun j : Fin n => f j.val) = (fun j : Fin n => g j.val) := by funext j; exact h j.val j.isLt
  rw [e]
/-- the same shapes, the same references where they show: the same heap -/
theorem at_same {D : va_G} {φ : Nat → Nat} {cT : Nat → ClassId} {T : mT} {s : mS} {H : Heap} {t : Nat} (hsh : T.2.1 t = SHf t) (hrf : okRf T t = true) (ht : t < 270) (h : va_at D clL (φ t, cellE φ cT T s t) H) : va_at D clL (φ t, cellE φ cT TT s t) H := by
  have hok := shB_ok (SHf_ok t ht)
  unfold cellE at h ⊢
  rw [hsh] at h
  show va_at D clL (φ t, match (SHf t).1 with
    | 0 => cellO φ TT s t (SHf t).2.1 (SHf t).2.2
    | _ => cellA φ cT TT s t (SHf t).2.1 (SHf t).2.2) H
  unfold okRf at hrf
  rcases hok with ⟨z0, z1, z2⟩ | ⟨z0, z1, z2⟩
  · rw [z0] at h hrf ⊢
    have h : va_at D clL (φ t, cellO φ T s t (SHf t).2.1 (SHf t).2.2) H := h
    show va_at D clL (φ t, cellO φ TT s t (SHf t).2.1 (SHf t).2.2) H
    have hrf : ((List.range (SHf t).2.2).all fun k => bsel (Nat.beq (fty (SHf t).2.1 k) 3 || Nat.beq (fty (SHf t).2.1 k) 16) (decide (T.2.2 t k = R0f t k)) true) = true := hrf
    have e : cellO φ TT s t (SHf t).2.1 (SHf t).2.2 = cellO φ T s t (SHf t).2.1 (SHf t).2.2 := by
      unfold cellO
      congr 2
      apply List.map_congr_left
      intro k hk
      have hk' := List.mem_range.mp hk
      have hb := List.all_eq_true.mp hrf k hk
      rw [z2] at hk'
      unfold fval fvm
      rcases fty_ok _ z1 k hk' with (e1 | e1 | e1 | e1) | e1
      · rw [e1]; rfl
      · rw [e1]; rfl
      · rw [e1]; rfl
      · rw [e1]; rfl
      · rw [e1, bsel_t] at hb
        rw [of_decide_eq_true hb]
    rw [e]; exact h
  · rw [z0] at h hrf ⊢
    have h : H[φ t]? = some (vp_cell (cT (SHf t).2.1) ((SHf t).2.2, acon φ T s t (SHf t).2.1)) := h
    show H[φ t]? = some (vp_cell (cT (SHf t).2.1) ((SHf t).2.2, acon φ TT s t (SHf t).2.1))
    have hrf : bsel (Nat.beq (SHf t).2.1 6 || Nat.beq (SHf t).2.1 7) ((List.range (SHf t).2.2).all fun k => decide (T.2.2 t k = R0f t k)) true = true := hrf
    rw [h]
    congr 1
    rcases z2 with e | e | e | e | e | e
    · rw [e]; rfl
    · rw [e]; rfl
    · rw [e]; rfl
    · rw [e]; rfl
    · rw [e] at hrf ⊢
      have hrf : ((List.range (SHf t).2.2).all fun k => decide (T.2.2 t k = R0f t k)) = true := hrf
      show arrV (cT 6) (SHf t).2.2 (fun j => va_rf ((T.2.2 t j).map φ)) = arrV (cT 6) (SHf t).2.2 (fun j => va_rf ((R0f t j).map φ))
      exact arrV_ext (fun j hj => by rw [of_decide_eq_true (List.all_eq_true.mp hrf j (List.mem_range.mpr hj))])
    · rw [e] at hrf ⊢
      have hrf : ((List.range (SHf t).2.2).all fun k => decide (T.2.2 t k = R0f t k)) = true := hrf
      show arrV (cT 7) (SHf t).2.2 (fun j => va_rf ((T.2.2 t j).map φ)) = arrV (cT 7) (SHf t).2.2 (fun j => va_rf ((R0f t j).map φ))
      exact arrV_ext (fun j hj => by rw [of_decide_eq_true (List.all_eq_true.mp hrf j (List.mem_range.mpr hj))])
theorem P_same {D : va_G} {φ : Nat → Nat} {cT : Nat → ClassId} {T : mT} {s : mS} {H : Heap} (h0 : T.1 = 270) (h1 : ∀ t, t < 270 → T.2.1 t = SHf t) (h2 : ∀ t, t < 270 → okRf T t = true) (h : va_P D clL (conc φ cT T s) H) : va_P D clL (conc φ cT TT s) H := by
  intro k q hk
  by_cases hlt : k < 270
  · rw [conc_get (T := TT) hlt] at hk
    cases hk
    exact at_same (h1 k hlt) (h2 k hlt) hlt (h k _ (conc_get (by rw [h0]; exact hlt)))
  · rw [conc_none (T := TT) hlt] at hk; cases hk
theorem D_same {A : Nat → Prop} {φ : Nat → Nat} {cT : Nat → ClassId} {T : mT} {s : mS} (h0 : T.1 = 270) (h : va_D A (conc φ cT T s)) : va_D A (conc φ cT TT s) := by
  have key : ∀ (i : Nat) (p : Nat × va_E), (conc φ cT TT s)[i]? = some p → ∃ q, (conc φ cT T s)[i]? = some q ∧ q.1 = p.1 := by
    intro i p hp
    by_cases hlt : i < 270
    · rw [conc_get (T := TT) hlt] at hp
      cases hp
      exact ⟨_, conc_get (by rw [h0]; exact hlt), rfl⟩
    · rw [conc_none (T := TT) hlt] at hp; cases hp
  refine ⟨fun i j p q hp hq he => ?_, fun k q hk => ?_⟩
  · obtain ⟨p', a1, a2⟩ := key i p hp
    obtain ⟨q', b1, b2⟩ := key j q hq
    exact h.1 i j p' q' a1 b1 (by rw [a2, b2]; exact he)
  · obtain ⟨q', b1, b2⟩ := key k q hk
    rw [← b2]; exact h.2 k q' b1
theorem Inv_0 {s : mS} (h : okS s = true) (ht : okTape s = true) : Inv s := by
  unfold okS at h
  rw [Bool.and_eq_true, Bool.and_eq_true, Bool.and_eq_true] at h
  obtain ⟨h1, h2, h3, h4⟩ := h
  unfold okTape at ht
  rw [Bool.and_eq_true] at ht
  have v : ∀ i (r : Nat × Nat × Int), vals0[i]? = some r → s.1 r.1 r.2.1 = r.2.2 := fun i r hr => of_decide_eq_true (List.all_eq_true.mp h1 r (List.mem_of_getElem? hr))
  have m1 : ∀ k, k < 12 → s.1 242 k = -1 := fun k hk => of_decide_eq_true (List.all_eq_true.mp h2 k (List.mem_range.mpr hk))
  have m2 : ∀ k, k < 9 → s.1 251 (104 + k) = 0 := fun k hk => of_decide_eq_true (List.all_eq_true.mp h3 k (List.mem_range.mpr hk))
  have m3 : ∀ k, k < 5 → s.1 251 (149 + k) = 0 := fun k hk => of_decide_eq_true (List.all_eq_true.mp h4 k (List.mem_range.mpr hk))
  have m4 : ∀ k, k < 940 → s.1 2 k = 0 := fun k hk => of_decide_eq_true (List.all_eq_true.mp ht.1 k (List.mem_range.mpr hk))
  have m5 : ∀ k, k < 940 → s.1 250 k = 0 := fun k hk => of_decide_eq_true (List.all_eq_true.mp ht.2 k (List.mem_range.mpr hk))
  have e4_0 : s.1 4 0 = 0 := v 0 (4, 0, 0) rfl
  have e4_1 : s.1 4 1 = 0 := v 1 (4, 1, 0) rfl
  have e4_2 : s.1 4 2 = 0 := v 2 (4, 2, 0) rfl
  have e4_3 : s.1 4 3 = 0 := v 3 (4, 3, 0) rfl
  have e4_4 : s.1 4 4 = 0 := v 4 (4, 4, 0) rfl
  have e4_5 : s.1 4 5 = 1 := v 5 (4, 5, 1) rfl
  have e4_6 : s.1 4 6 = 0 := v 6 (4, 6, 0) rfl
  have e251_0 : s.1 251 0 = 0 := v 7 (251, 0, 0) rfl
  have e251_1 : s.1 251 1 = 0 := v 8 (251, 1, 0) rfl
  have e251_2 : s.1 251 2 = 0 := v 9 (251, 2, 0) rfl
  have e251_3 : s.1 251 3 = 0 := v 10 (251, 3, 0) rfl
  have e251_4 : s.1 251 4 = 0 := v 11 (251, 4, 0) rfl
  have e251_5 : s.1 251 5 = 1 := v 12 (251, 5, 1) rfl
  have e251_85 : s.1 251 85 = 0 := v 13 (251, 85, 0) rfl
  have e251_224 : s.1 251 224 = 0 := v 14 (251, 224, 0) rfl
  have e17_0 : s.1 17 0 = 0 := v 15 (17, 0, 0) rfl
  have e30_0 : s.1 30 0 = 0 := v 16 (30, 0, 0) rfl
  have e1_1 : s.1 1 1 = 0 := v 17 (1, 1, 0) rfl
  have e249_2 : s.1 249 2 = 0 := v 18 (249, 2, 0) rfl
  have e0_13 : s.1 0 13 = 0 := v 19 (0, 13, 0) rfl
  have e249_10 : s.1 249 10 = 0 := v 20 (249, 10, 0) rfl
  have e0_14 : s.1 0 14 = -1 := v 21 (0, 14, -1) rfl
  have e249_29 : s.1 249 29 = -1 := v 22 (249, 29, -1) rfl
  have e0_16 : s.1 0 16 = -1 := v 23 (0, 16, -1) rfl
  have e249_33 : s.1 249 33 = -1 := v 24 (249, 33, -1) rfl
  have e0_15 : s.1 0 15 = 0 := v 25 (0, 15, 0) rfl
  have e249_32 : s.1 249 32 = 0 := v 26 (249, 32, 0) rfl
  have e0_17 : s.1 0 17 = 0 := v 27 (0, 17, 0) rfl
  have e249_35 : s.1 249 35 = 0 := v 28 (249, 35, 0) rfl
  have e0_18 : s.1 0 18 = 0 := v 29 (0, 18, 0) rfl
  have e249_40 : s.1 249 40 = 0 := v 30 (249, 40, 0) rfl
  have e249_28 : s.1 249 28 = 0 := v 31 (249, 28, 0) rfl
  have e36_3 : s.1 36 3 = 0 := v 32 (36, 3, 0) rfl
  have e260_0 : s.1 260 0 = 0 := v 33 (260, 0, 0) rfl
  have e68_3 : s.1 68 3 = 0 := v 34 (68, 3, 0) rfl
  have e260_1 : s.1 260 1 = 0 := v 35 (260, 1, 0) rfl
  have e100_2 : s.1 100 2 = 0 := v 36 (100, 2, 0) rfl
  have e249_25 : s.1 249 25 = 0 := v 37 (249, 25, 0) rfl
  have e100_1 : s.1 100 1 = 0 := v 38 (100, 1, 0) rfl
  clear v h1 h2 h3 h4 ht
  refine ⟨⟨⟨?_, ?_, ?_⟩, ?_, ?_, ?_, Or.inl ⟨e251_224, e30_0⟩⟩, ?_, ⟨by rw [e0_13, e249_10], by rw [e0_14, e249_29], by rw [e0_16, e249_33]⟩, ?_, ?_, ?_, ?_, ⟨by rw [e36_3, e260_0], Or.inl e260_0⟩, ⟨by rw [e68_3, e260_1], Or.inl e260_1⟩, ?_⟩
  · refine ⟨by omega, by omega, by omega, by omega, by omega, by omega, fun b hb => absurd hb (by omega), fun b hb => absurd hb (by omega), fun b hb => absurd hb (by omega), fun b hb => absurd hb (by omega), fun b hb => absurd hb (by omega)⟩
  · refine ⟨by omega, fun b hb => absurd hb (by omega), fun b hb => absurd hb (by omega), fun b hb => absurd hb (by omega), fun b hb => absurd hb (by omega), fun b hb => absurd hb (by omega), fun b hb => absurd hb (by omega), fun b hb => absurd hb (by omega), fun b hb => absurd hb (by omega)⟩
  · exact ⟨fun b hb => by rw [m2 b hb]; decide, fun p hp => by rw [m3 p hp]; decide⟩
  · refine ⟨by omega, by omega, by omega, by omega, by omega, by omega, fun b hb => absurd hb (by omega), fun b hb => absurd hb (by omega), fun b hb => absurd hb (by omega), fun b hb => absurd hb (by omega), Or.inl e4_6⟩
  · refine ⟨by omega, fun b hb => absurd hb (by omega), fun b hb => absurd hb (by omega), fun b hb => absurd hb (by omega), fun b hb => absurd hb (by omega)⟩
  · exact ⟨fun b hb => absurd hb (by omega), fun b hb => absurd hb (by omega), fun b hb => absurd hb (by omega)⟩
  · refine ⟨by omega, by omega, by omega, fun k hk => ?_⟩
    rw [m4 k hk, m5 k hk]
    exact ⟨by decide, by decide, by decide⟩
  · exact ⟨by omega, by omega, by omega, fun k hk => absurd hk (by omega)⟩
  · exact ⟨by omega, by omega, by omega, fun k hk => absurd hk (by omega)⟩
  · exact ⟨by omega, Or.inl e249_40, fun k _ hk => absurd hk (by omega)⟩
  · refine ⟨by omega, by omega, fun k hk => ?_⟩
    rw [m1 k hk, if_neg (by omega)]
  · exact ⟨by omega, by omega, by omega, by omega, by omega, fun k hk => absurd hk (by omega)⟩
