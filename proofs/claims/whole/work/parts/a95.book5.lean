/-! ===== layer 3: book, class and reference side by side ===== -/
def PSim (F G : mS → Option (Int × mS)) : Prop := ∀ s u, Inv s → (∀ c, 249 ≤ c → u.1 c = s.1 c ∧ u.2 c = s.2 c) → ∃ r S U, F s = some (r, S) ∧ G u = some (r, U) ∧ (∀ c, 249 ≤ c → S.1 c = s.1 c ∧ S.2 c = s.2 c) ∧ (∀ c, c < 249 → U.1 c = u.1 c ∧ U.2 c = u.2 c) ∧
  ∀ Z : mS, (∀ c, c < 249 → Z.1 c = S.1 c ∧ Z.2 c = S.2 c) → (∀ c, 249 ≤ c → Z.1 c = U.1 c ∧ Z.2 c = U.2 c) → Inv Z
theorem Sim_of {F G : mS → Option (Int × mS)} (h : PSim F G) : Sim F G := by
  intro s hs
  obtain ⟨r, S, U, a1, a2, a3, a4, a5⟩ := h s s hs (fun _ _ => ⟨rfl, rfl⟩)
  obtain ⟨r', S', U', b1, b2, b3, b4, b5⟩ := h s S hs a3
  rw [a1] at b1
  have q := Option.some.inj b1
  have q1 : r = r' := congrArg Prod.fst q
  have q2 : S = S' := congrArg Prod.snd q
  subst q1
  subst q2
  exact ⟨r, S, U', a1, b2, b5 U' b4 (fun _ _ => ⟨rfl, rfl⟩)⟩
theorem split_eq {Z T : mS} (h1 : ∀ c, c < 249 → Z.1 c = T.1 c ∧ Z.2 c = T.2 c) (h2 : ∀ c, 249 ≤ c → Z.1 c = T.1 c ∧ Z.2 c = T.2 c) : Z = T := by
  refine Prod.ext ?_ ?_
  · funext c
    by_cases q : c < 249
    · exact (h1 c q).1
    · exact (h2 c (by omega)).1
  · funext c
    by_cases q : c < 249
    · exact (h1 c q).2
    · exact (h2 c (by omega)).2
/-- the reference goes back, or keeps what was lived -/
theorem R_stay {m : Nat} (hm : 10000 ≤ m) {u : mS} {A A' : Row} (hA : u.1 251 = A') (hT : ∀ k, k < 139 → u.1 256 k = A (85 + k)) (hs : ∀ j, j < 85 ∨ 224 ≤ j → A' j = A j) :
    (∃ U, f_R_stay m 0 u = some (0, U) ∧ U.1 251 = A ∧ (∀ c, c ≠ 251 → c ≠ 255 → U.1 c = u.1 c) ∧ U.2 = u.2) ∧
    (0 ≤ u.1 249 25 → u.1 249 25 ≤ 8 → ∃ U, f_R_stay m 1 u = some (0, U) ∧ U.1 251 = A' ∧ U.1 254 = (if u.1 249 25 = 8 then rowPut (shiftR (u.1 254) 0) 973 A 85 139 else rowPut (u.1 254) (139 * (u.1 249 25).toNat) A 85 139) ∧ U.1 249 25 = min 8 (u.1 249 25 + 1) ∧ (∀ k, k ≠ 25 → U.1 249 k = u.1 249 k) ∧ (∀ c, c ≠ 249 → c ≠ 251 → c ≠ 254 → c ≠ 255 → U.1 c = u.1 c) ∧ U.2 = u.2) := by
  have e1 := R_save_255 u (m := m) (by omega) (o := 0) (by omega)
  rw [show ((0 : Nat) : Int) = 0 from rfl] at e1
  obtain ⟨u1, hu1⟩ : ∃ u1, u1 = sr u 255 (rowPut (u.1 255) 0 (u.1 251) 85 139) := ⟨_, rfl⟩
  rw [← hu1] at e1
  have e2 := R_back_256 u1 (m := m) (by omega) (o := 0) (by omega)
  rw [show ((0 : Nat) : Int) = 0 from rfl] at e2
  have r1 : rowPut (u1.1 251) 85 (u1.1 256) 0 139 = A := by
    funext q
    unfold rowPut
    rw [hu1, sr_ne _ _ _ (by decide), sr_ne _ _ _ (by decide), hA]
    by_cases c : 85 ≤ q ∧ q < 85 + 139
    · rw [if_pos c, hT _ (by omega), show 85 + (0 + (q - 85)) = q from by omega]
    · rw [if_neg c, hs q (by omega)]
  rw [r1] at e2
  obtain ⟨u2, hu2⟩ : ∃ u2, u2 = sr u1 251 A := ⟨_, rfl⟩
  rw [← hu2] at e2
  have c2 : ∀ c, c ≠ 251 → c ≠ 255 → u2.1 c = u.1 c := fun c x y => by rw [hu2, sr_ne _ _ _ x, hu1, sr_ne _ _ _ y]
  have A2 : u2.1 251 = A := by rw [hu2, sr_eq]
  have j2 : u2.2 = u.2 := by rw [hu2, sr_2, hu1, sr_2]
  refine ⟨⟨u2, by rw [f_R_stay_eq, e1, Option.bind_some, e2, Option.bind_some, if_pos rfl], A2, c2, j2⟩, fun h0 h8 => ?_⟩
  have q25 : u2.1 249 25 = u.1 249 25 := by rw [c2 249 (by decide) (by decide)]
  have e3 := R_snap (s := u2) hm (by rw [q25]; exact h0) (by rw [q25]; exact h8)
  rw [q25, A2, c2 254 (by decide) (by decide)] at e3
  obtain ⟨u3, hu3⟩ : ∃ u3, u3 = sr (sr u2 254 (if u.1 249 25 = 8 then rowPut (shiftR (u.1 254) 0) 973 A 85 139 else rowPut (u.1 254) (139 * (u.1 249 25).toNat) A 85 139)) 249 (up (u2.1 249) 25 (min 8 (u.1 249 25 + 1))) := ⟨_, rfl⟩
  rw [← hu3] at e3
  have e4 := R_back_255 u3 (m := m) (by omega) (o := 0) (by omega)
  rw [show ((0 : Nat) : Int) = 0 from rfl] at e4
  have c3 : ∀ c, c ≠ 249 → c ≠ 254 → u3.1 c = u2.1 c := fun c x y => by rw [hu3, sr_ne _ _ _ x, sr_ne _ _ _ y]
  have r255 : ∀ k, k < 139 → u3.1 255 k = A' (85 + k) := by
    intro k hk
    rw [c3 255 (by decide) (by decide), hu2, sr_ne _ _ _ (by decide), hu1, sr_eq]
    unfold rowPut
    rw [if_pos (by omega), hA, show 85 + (k - 0) = 85 + k from by omega]
  have r4 : rowPut (u3.1 251) 85 (u3.1 255) 0 139 = A' := by
    funext q
    unfold rowPut
    by_cases c : 85 ≤ q ∧ q < 85 + 139
    · rw [if_pos c, r255 _ (by omega), show 85 + (0 + (q - 85)) = q from by omega]
    · rw [if_neg c, c3 251 (by decide) (by decide), A2, hs q (by omega)]
  rw [r4] at e4
  refine ⟨sr u3 251 A', by rw [f_R_stay_eq, e1, Option.bind_some, e2, Option.bind_some, if_neg (by decide), e3, Option.bind_some, e4, Option.bind_some], sr_eq _ _ _, ?_, ?_, fun k hk => ?_, fun c x y z w => ?_, ?_⟩
  · rw [sr_ne _ _ _ (by decide), hu3, sr_ne _ _ _ (by decide), sr_eq]
  · rw [sr_ne _ _ _ (by decide), hu3, sr_eq, up_eq]
  · rw [sr_ne _ _ _ (by decide), hu3, sr_eq, up_ne hk, c2 249 (by decide) (by decide)]
  · rw [sr_ne _ _ _ y, c3 c x z, c2 c y w]
  · rw [sr_2, hu3, sr_2, sr_2, j2]
