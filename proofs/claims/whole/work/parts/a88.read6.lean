/-! ===== layer 3: reading (6): lines of a vestry, all of them ===== -/
theorem V_line {m : Nat} (hm : 10000 ≤ m) {a : Int} {s u : mS} (h : TokG a s u) (hf : FV s u) : Pst FV (a + 1) s u (f_Vs_readLine m s) (f_R_readLine m u) := by
  have hw : s.1 1 3 = -1 ∨ (0 ≤ s.1 1 3 ∧ s.1 1 3 < 24 ∧ s.1 1 2 = 2) := by
    rcases h.1.2.1 with q | q | ⟨_, ⟨ws, _, _, _, w4⟩, q⟩ | q | q
    · exact Or.inl q.2.2
    · exact Or.inl q.2.2
    · have rg := wix_rng ((E256 ws : Nat) : Int)
      rw [← w4] at rg
      rcases rg with r | r
      · exact Or.inl r
      · right; rw [if_neg (by omega)] at q; exact ⟨r.1, r.2, q⟩
    · exact Or.inl q.2.2.1
    · exact Or.inl q.2.1
  have iw0 := R_isWord (m := m) (by omega) h.1 (k := 0) (by decide)
  have iw1 := R_isWord (m := m) (by omega) h.1 (k := 1) (by decide)
  have iw2 := R_isWord (m := m) (by omega) h.1 (k := 2) (by decide)
  have iw19 := R_isWord (m := m) (by omega) h.1 (k := 19) (by decide)
  have iw3 := R_isWord (m := m) (by omega) h.1 (k := 3) (by decide)
  have iw4 := R_isWord (m := m) (by omega) h.1 (k := 4) (by decide)
  have iw5 := R_isWord (m := m) (by omega) h.1 (k := 5) (by decide)
  rw [show ((0 : Nat) : Int) = 0 from rfl, show ((cpw 0 : Nat) : Int) = 0 from rfl] at iw0
  rw [show ((1 : Nat) : Int) = 1 from rfl, show ((cpw 1 : Nat) : Int) = 1 from rfl] at iw1
  rw [show ((2 : Nat) : Int) = 2 from rfl, show ((cpw 2 : Nat) : Int) = 2 from rfl] at iw2
  rw [show ((19 : Nat) : Int) = 19 from rfl, show ((cpw 19 : Nat) : Int) = 3 from rfl] at iw19
  rw [show ((3 : Nat) : Int) = 3 from rfl, show ((cpw 3 : Nat) : Int) = 4 from rfl] at iw3
  rw [show ((4 : Nat) : Int) = 4 from rfl, show ((cpw 4 : Nat) : Int) = 5 from rfl] at iw4
  rw [show ((5 : Nat) : Int) = 5 from rfl, show ((cpw 5 : Nat) : Int) = 6 from rfl] at iw5
  rw [f_Vs_readLine_eq, f_R_readLine_eq, iw0, Option.bind_some]
  dsimp only
  rcases hw with hw | ⟨w0, w24, k2⟩
  · obtain ⟨s', u', r1, r2, r3, r4, r5⟩ := T_fail m h.1 (kc := 1) (kr := 1) (by split <;> rfl) (by decide)
    rw [hw] at iw1 iw2 iw19 iw3 iw4 iw5 ⊢
    rw [if_pos (show encW (-1) = none from rfl), if_neg (show ¬ (-1 : Int) = 0 by decide), if_pos rfl, iw1, Option.bind_some]
    dsimp only
    rw [if_neg (show ¬ (-1 : Int) = 1 by decide), if_pos rfl, iw2, Option.bind_some]
    dsimp only
    rw [if_neg (show ¬ (-1 : Int) = 2 by decide), if_pos rfl, iw19, Option.bind_some]
    dsimp only
    rw [if_neg (show ¬ (-1 : Int) = 3 by decide), if_pos rfl, iw3, Option.bind_some]
    dsimp only
    rw [if_neg (show ¬ (-1 : Int) = 4 by decide), if_pos rfl, iw4, Option.bind_some]
    dsimp only
    rw [if_neg (show ¬ (-1 : Int) = 5 by decide), if_pos rfl, iw5, Option.bind_some]
    dsimp only
    rw [if_neg (show ¬ (-1 : Int) = 6 by decide), if_pos rfl, r1, r2]
    exact ⟨0, s', u', rfl, rfl, KC_of r4, KR_of r5, Or.inr ⟨rfl, r3⟩⟩
  · obtain ⟨w, hwn⟩ : ∃ w : Nat, s.1 1 3 = (w : Int) := ⟨(s.1 1 3).toNat, by omega⟩
    have w24' : w < 24 := by omega
    have e : encW (w : Int) = some (1000 + w) := by unfold encW; rw [if_neg (by omega)]; rfl
    have g : gIn 1 (1000 + w) = true := by
      have : ∀ k, k < 24 → gIn 1 (1000 + k) = true := by decide
      exact this w w24'
    have eo : f_Je_ordinal m (1000 + w) s = some ((w : Int), s) := by
      rw [f_Je_ordinal_eq, if_pos g]
      exact congrArg (fun z : Int => some (z, s)) (by omega)
    have eC : (onS (some (1000 + w)) fun t0 => (if gIn 1 t0 = true then ((f_Je_ordinal m t0 s).bind fun p1 => (inR p1.1 24 (if swM p1.1.toNat = 1 then (if p1.2.1 219 0 < 9 then ((f_Vs_readBox m p1.2).bind fun p2 => (if p2.1 = 0 ∨ p2.1 = 1 then some (p2.1, p2.2) else none)) else ((f_Tp_fail m 4 p1.2).bind fun p2 => (if p2.1 = 0 ∨ p2.1 = 1 then some (p2.1, p2.2) else none))) else (if swM p1.1.toNat = 2 then (if p1.2.1 219 1 < 5 then ((f_Vs_readPlot m p1.2).bind fun p2 => (if p2.1 = 0 ∨ p2.1 = 1 then some (p2.1, p2.2) else none)) else ((f_Tp_fail m 4 p1.2).bind fun p2 => (if p2.1 = 0 ∨ p2.1 = 1 then some (p2.1, p2.2) else none))) else (if swM p1.1.toNat = 3 then (if p1.2.1 219 2 < 12 then ((f_Vs_readOne m p1.2).bind fun p2 => (if p2.1 = 0 ∨ p2.1 = 1 then some (p2.1, p2.2) else none)) else ((f_Tp_fail m 4 p1.2).bind fun p2 => (if p2.1 = 0 ∨ p2.1 = 1 then some (p2.1, p2.2) else none))) else (if swM p1.1.toNat = 4 then (if p1.2.1 219 3 < 12 then ((f_Vs_readKin m p1.2).bind fun p2 => (if p2.1 = 0 ∨ p2.1 = 1 then some (p2.1, p2.2) else none)) else ((f_Tp_fail m 4 p1.2).bind fun p2 => (if p2.1 = 0 ∨ p2.1 = 1 then some (p2.1, p2.2) else none))) else (if swM p1.1.toNat = 5 then ((f_Vs_readAsks m p1.2).bind fun p2 => (if p2.1 = 0 ∨ p2.1 = 1 then some (p2.1, p2.2) else none)) else (if swM p1.1.toNat = 6 then (if p1.2.1 219 4 < 4 then ((f_Vs_readFrost m p1.2).bind fun p2 => (if p2.1 = 0 ∨ p2.1 = 1 then some (p2.1, p2.2) else none)) else ((f_Tp_fail m 4 p1.2).bind fun p2 => (if p2.1 = 0 ∨ p2.1 = 1 then some (p2.1, p2.2) else none))) else (if swM p1.1.toNat = 7 then (if p1.2.1 219 6 = 0 then ((f_Vs_readAir m p1.2).bind fun p2 => (if p2.1 = 0 ∨ p2.1 = 1 then some (p2.1, p2.2) else none)) else ((f_Tp_fail m 3 p1.2).bind fun p2 => (if p2.1 = 0 ∨ p2.1 = 1 then some (p2.1, p2.2) else none))) else ((f_Tp_fail m 1 p1.2).bind fun p2 => (if p2.1 = 0 ∨ p2.1 = 1 then some (p2.1, p2.2) else none))))))))))) else none)) =
      (if swM w = 1 then (if s.1 219 0 < 9 then f_Vs_readBox m s else f_Tp_fail m 4 s) else (if swM w = 2 then (if s.1 219 1 < 5 then f_Vs_readPlot m s else f_Tp_fail m 4 s) else (if swM w = 3 then (if s.1 219 2 < 12 then f_Vs_readOne m s else f_Tp_fail m 4 s) else (if swM w = 4 then (if s.1 219 3 < 12 then f_Vs_readKin m s else f_Tp_fail m 4 s) else (if swM w = 5 then f_Vs_readAsks m s else (if swM w = 6 then (if s.1 219 4 < 4 then f_Vs_readFrost m s else f_Tp_fail m 4 s) else (if swM w = 7 then (if s.1 219 6 = 0 then f_Vs_readAir m s else f_Tp_fail m 3 s) else f_Tp_fail m 1 s))))))).bind fun p2 => (if p2.1 = 0 ∨ p2.1 = 1 then some (p2.1, p2.2) else none) := by
      show (if gIn 1 (1000 + w) = true then ((f_Je_ordinal m (1000 + w) s).bind _) else none) = _
      rw [if_pos g, eo, Option.bind_some]
      dsimp only
      rw [inR_pos (by omega) (by omega), Int.toNat_natCast, itb, itb, itb, itb, itb, itb, itb, itb, itb, itb, itb, itb, itb]
    have cc : w = 0 ∨ w = 1 ∨ w = 2 ∨ w = 3 ∨ w = 4 ∨ w = 5 ∨ w = 6 ∨ (7 ≤ w ∧ w < 24) := by omega
    rw [hwn, e, if_neg (show ¬ some (1000 + w) = none from fun q => by cases q), eC]
    rw [hwn] at iw1 iw2 iw19 iw3 iw4 iw5
    apply Pst_01
    rcases cc with c | c | c | c | c | c | c | c
    · subst c
      rw [if_pos (show swM 0 = 1 from rfl), if_pos (show ((0 : Nat) : Int) = 0 from rfl), if_neg (show ¬ (1 : Int) = 0 by decide)]
      exact Pst_10 (V_box hm h hf k2)
    · subst c
      rw [if_neg (show ¬ swM 1 = 1 by decide), if_pos (show swM 1 = 2 from rfl), if_neg (show ¬ ((1 : Nat) : Int) = 0 by decide), if_pos rfl, iw1, Option.bind_some]
      dsimp only
      rw [if_pos (show ((1 : Nat) : Int) = 1 from rfl), if_neg (show ¬ (1 : Int) = 0 by decide)]
      exact Pst_10 (V_plot hm h hf k2)
    · subst c
      rw [if_neg (show ¬ swM 2 = 1 by decide), if_neg (show ¬ swM 2 = 2 by decide), if_pos (show swM 2 = 3 from rfl), if_neg (show ¬ ((2 : Nat) : Int) = 0 by decide), if_pos rfl, iw1, Option.bind_some]
      dsimp only
      rw [if_neg (show ¬ ((2 : Nat) : Int) = 1 by decide), if_pos rfl, iw2, Option.bind_some]
      dsimp only
      rw [if_pos (show ((2 : Nat) : Int) = 2 from rfl), if_neg (show ¬ (1 : Int) = 0 by decide)]
      exact Pst_10 (V_dead hm h hf k2)
    · subst c
      rw [if_neg (show ¬ swM 3 = 1 by decide), if_neg (show ¬ swM 3 = 2 by decide), if_neg (show ¬ swM 3 = 3 by decide), if_pos (show swM 3 = 4 from rfl), if_neg (show ¬ ((3 : Nat) : Int) = 0 by decide), if_pos rfl, iw1, Option.bind_some]
      dsimp only
      rw [if_neg (show ¬ ((3 : Nat) : Int) = 1 by decide), if_pos rfl, iw2, Option.bind_some]
      dsimp only
      rw [if_neg (show ¬ ((3 : Nat) : Int) = 2 by decide), if_pos rfl, iw19, Option.bind_some]
      dsimp only
      rw [if_pos (show ((3 : Nat) : Int) = 3 from rfl), if_neg (show ¬ (1 : Int) = 0 by decide)]
      exact Pst_10 (V_kin hm h hf k2)
    · subst c
      rw [if_neg (show ¬ swM 4 = 1 by decide), if_neg (show ¬ swM 4 = 2 by decide), if_neg (show ¬ swM 4 = 3 by decide), if_neg (show ¬ swM 4 = 4 by decide), if_pos (show swM 4 = 5 from rfl), if_neg (show ¬ ((4 : Nat) : Int) = 0 by decide), if_pos rfl, iw1, Option.bind_some]
      dsimp only
      rw [if_neg (show ¬ ((4 : Nat) : Int) = 1 by decide), if_pos rfl, iw2, Option.bind_some]
      dsimp only
      rw [if_neg (show ¬ ((4 : Nat) : Int) = 2 by decide), if_pos rfl, iw19, Option.bind_some]
      dsimp only
      rw [if_neg (show ¬ ((4 : Nat) : Int) = 3 by decide), if_pos rfl, iw3, Option.bind_some]
      dsimp only
      rw [if_pos (show ((4 : Nat) : Int) = 4 from rfl), if_neg (show ¬ (1 : Int) = 0 by decide)]
      exact Pst_10 (V_asks hm h hf k2)
    · subst c
      rw [if_neg (show ¬ swM 5 = 1 by decide), if_neg (show ¬ swM 5 = 2 by decide), if_neg (show ¬ swM 5 = 3 by decide), if_neg (show ¬ swM 5 = 4 by decide), if_neg (show ¬ swM 5 = 5 by decide), if_pos (show swM 5 = 6 from rfl), if_neg (show ¬ ((5 : Nat) : Int) = 0 by decide), if_pos rfl, iw1, Option.bind_some]
      dsimp only
      rw [if_neg (show ¬ ((5 : Nat) : Int) = 1 by decide), if_pos rfl, iw2, Option.bind_some]
      dsimp only
      rw [if_neg (show ¬ ((5 : Nat) : Int) = 2 by decide), if_pos rfl, iw19, Option.bind_some]
      dsimp only
      rw [if_neg (show ¬ ((5 : Nat) : Int) = 3 by decide), if_pos rfl, iw3, Option.bind_some]
      dsimp only
      rw [if_neg (show ¬ ((5 : Nat) : Int) = 4 by decide), if_pos rfl, iw4, Option.bind_some]
      dsimp only
      rw [if_pos (show ((5 : Nat) : Int) = 5 from rfl), if_neg (show ¬ (1 : Int) = 0 by decide)]
      exact Pst_10 (V_frost hm h hf k2)
    · subst c
      rw [if_neg (show ¬ swM 6 = 1 by decide), if_neg (show ¬ swM 6 = 2 by decide), if_neg (show ¬ swM 6 = 3 by decide), if_neg (show ¬ swM 6 = 4 by decide), if_neg (show ¬ swM 6 = 5 by decide), if_neg (show ¬ swM 6 = 6 by decide), if_pos (show swM 6 = 7 from rfl), if_neg (show ¬ ((6 : Nat) : Int) = 0 by decide), if_pos rfl, iw1, Option.bind_some]
      dsimp only
      rw [if_neg (show ¬ ((6 : Nat) : Int) = 1 by decide), if_pos rfl, iw2, Option.bind_some]
      dsimp only
      rw [if_neg (show ¬ ((6 : Nat) : Int) = 2 by decide), if_pos rfl, iw19, Option.bind_some]
      dsimp only
      rw [if_neg (show ¬ ((6 : Nat) : Int) = 3 by decide), if_pos rfl, iw3, Option.bind_some]
      dsimp only
      rw [if_neg (show ¬ ((6 : Nat) : Int) = 4 by decide), if_pos rfl, iw4, Option.bind_some]
      dsimp only
      rw [if_neg (show ¬ ((6 : Nat) : Int) = 5 by decide), if_pos rfl, iw5, Option.bind_some]
      dsimp only
      rw [if_pos (show ((6 : Nat) : Int) = 6 from rfl), if_neg (show ¬ (1 : Int) = 0 by decide)]
      apply Pst_10
      have h24 : s.1 219 6 = u.1 249 24 := hf.2.2.2.1
      by_cases c6 : s.1 219 6 = 0
      · rw [if_pos c6]
        exact V_air hm h hf k2 c6
      · rw [if_neg c6, f_R_readAir_eq, if_neg (by omega)]
        exact Pst_10 (Pst_fail m h.1 (by rw [if_neg (by omega)]) (by decide))
    · have sw : ∀ k, k < 24 → 7 ≤ k → swM k ≠ 1 ∧ swM k ≠ 2 ∧ swM k ≠ 3 ∧ swM k ≠ 4 ∧ swM k ≠ 5 ∧ swM k ≠ 6 ∧ swM k ≠ 7 := by decide
      obtain ⟨z1, z2, z3, z4, z5, z6, z7⟩ := sw w c.2 c.1
      rw [if_neg z1, if_neg z2, if_neg z3, if_neg z4, if_neg z5, if_neg z6, if_neg z7, if_neg (show ¬ (w : Int) = 0 from by omega), if_pos rfl, iw1, Option.bind_some]
      dsimp only
      rw [if_neg (show ¬ (w : Int) = 1 from by omega), if_pos rfl, iw2, Option.bind_some]
      dsimp only
      rw [if_neg (show ¬ (w : Int) = 2 from by omega), if_pos rfl, iw19, Option.bind_some]
      dsimp only
      rw [if_neg (show ¬ (w : Int) = 3 from by omega), if_pos rfl, iw3, Option.bind_some]
      dsimp only
      rw [if_neg (show ¬ (w : Int) = 4 from by omega), if_pos rfl, iw4, Option.bind_some]
      dsimp only
      rw [if_neg (show ¬ (w : Int) = 5 from by omega), if_pos rfl, iw5, Option.bind_some]
      dsimp only
      rw [if_neg (show ¬ (w : Int) = 6 from by omega), if_pos rfl]
      exact Pst_10 (Pst_fail m h.1 (by split <;> rfl) (by decide))
/-- all lines: the class has x of them, the reference as many -/
theorem V_loop {m : Nat} (hm : 10000 ≤ m) : ∀ (d nc nr x : Nat) (a : Int) (s u : mS), TokG a s u → FV s u → 2 * (x : Int) ≤ a → s.1 1 8 + 1 ≤ a + d → d + 1 ≤ nc → d + 1 ≤ nr →
    (∃ y : Nat, ∃ s' u' nr', l_Vs_readFrom_L53 m nc (x : Int) s = some ((y : Int), s') ∧ l_R_vestry_L42 m nr (x : Int) u = l_R_vestry_L78 m nr' (y : Int) 0 u' ∧ nr ≤ nr' + d + 1 ∧ y ≤ 940 ∧ s'.1 1 6 = 0 ∧ u'.1 249 10 = 0 ∧ FV s' u' ∧ KC s s' ∧ KR u u') ∨
    (∃ s' u', l_Vs_readFrom_L53 m nc (x : Int) s = some (-1, s') ∧ l_R_vestry_L42 m nr (x : Int) u = some (-1 - s'.1 1 7, u') ∧ Flt s' u' ∧ KC s s' ∧ KR u u') := by
  intro d
  induction d with
  | zero =>
    intro nc nr x a s u h hf hx hd hnc hnr
    have := h.2.2.1
    omega
  | succ d ih =>
    intro nc nr x a s u h hf hx hd hnc hnr
    obtain ⟨nc, rfl⟩ : ∃ n, nc = n + 1 := ⟨nc - 1, by omega⟩
    obtain ⟨nr, rfl⟩ : ∃ n, nr = n + 1 := ⟨nr - 1, by omega⟩
    have e8 := h.1.1.2.2.1
    have hal := h.2.2.1
    have h0 := h.2.1
    have kk : u.1 249 7 = 0 ↔ s.1 1 2 = 0 := by
      rcases h.1.2.1 with q | q | ⟨q1, _, q3⟩ | q | q
      · omega
      · omega
      · rw [q1, q3]; split <;> omega
      · omega
      · omega
    rw [l_Vs_readFrom_L53_eq, l_R_vestry_L42_eq, if_pos (show (x : Int) < 940 from by omega)]
    by_cases ce : s.1 1 2 = 0
    · left
      rw [if_pos ce, if_pos (kk.mpr ce)]
      exact ⟨x, s, u, nr, rfl, rfl, by omega, by omega, h.2.2.2.2.1, h.2.2.2.2.2, hf, KC_refl s, KR_refl u⟩
    · rw [if_neg ce, if_neg (fun q => ce (kk.mp q))]
      obtain ⟨r, s1, u1, r1, r2, r3, r4, r5⟩ := V_line hm h hf
      rw [r1, Option.bind_some, r2, Option.bind_some]
      dsimp only
      rcases r5 with ⟨rr, g1, f1⟩ | ⟨rr, fl⟩
      · subst rr
        rw [if_neg (show ¬ (1 : Int) = 0 by decide), if_neg (show ¬ (1 : Int) = 0 by decide)]
        rcases T_end hm g1 with ⟨s2, u2, q1, q2, q3, q4, q5⟩ | ⟨s2, u2, q1, q2, q3, q4, q5⟩
        · rw [q1, Option.bind_some, q2, Option.bind_some]
          dsimp only
          rw [if_neg (show ¬ (1 : Int) = 0 by decide), if_neg (show ¬ (1 : Int) = 0 by decide), w32_in (by omega) (by omega), show (x : Int) + 1 = ((x + 1 : Nat) : Int) from by omega]
          have a8 := q3.2.2.1
          have q88 : s2.1 1 8 = s.1 1 8 := by
            have t1 := q3.1.1.1
            have t0 := h.1.1.1
            rw [t1, q5.2.2 3 (by omega), r4.2.2 3 (by omega), ← t0]
          have fr := FV_keep f1 q4 q5
          rcases ih nc nr (x + 1) (a + 1 + 1) s2 u2 q3 fr (by omega) (by rw [q88]; omega) (by omega) (by omega) with ⟨y, s3, u3, nr', z1, z2, z3, z4, z5, z6, z7, z8, z9⟩ | ⟨s3, u3, z1, z2, z3, z4, z5⟩
          · left
            exact ⟨y, s3, u3, nr', z1, z2, by omega, z4, z5, z6, z7, KC_trans r3 (KC_trans (KC_of q4) z8), KR_trans r4 (KR_trans (KR_of q5) z9)⟩
          · right
            exact ⟨s3, u3, z1, z2, z3, KC_trans r3 (KC_trans (KC_of q4) z4), KR_trans r4 (KR_trans (KR_of q5) z5)⟩
        · right
          have f7 := q3.2.2
          rw [q1, Option.bind_some, q2, Option.bind_some]
          dsimp only
          rw [if_pos rfl, if_pos rfl, ← f7.1, w32_in (by omega) (by omega)]
          exact ⟨s2, u2, rfl, rfl, q3, KC_trans r3 (KC_of q4), KR_trans r4 (KR_of q5)⟩
      · right
        subst rr
        have f7 := fl.2.2
        rw [if_pos rfl, if_pos rfl, ← f7.1, w32_in (by omega) (by omega)]
        exact ⟨s1, u1, rfl, rfl, fl, r3, r4⟩
