/-! ===== written by gen_a98.py: sentence (2): ones, and, or ===== -/
theorem Flt_f {s u : mS} (h : Flt s u) {k : Nat} {v : Int} (hk : 12 ≤ k) : Flt s (wI u 249 k v) := by unfold Flt at h ⊢; rw [wI_f (by omega), wI_f (by omega)]; exact h
theorem SQ_f {st : Nat → Nat} {p q : Nat} {s u : mS} (h : SQ st p q s u) {k : Nat} {v : Int} (hk : 44 ≤ k) : SQ st p q s (wI u 249 k v) :=
  SQ_cg h rfl (fun _ _ _ => rfl) rfl rfl rfl rfl (wI_ne (by decide)) rfl (wI_f (by omega)) (wI_f (by omega)) (wI_ne (by decide))
theorem TokG_f {a : Int} {s u : mS} (h : TokG a s u) {k : Nat} {v : Int} (hk : 13 ≤ k) : TokG a s (wI u 249 k v) := TokG_cg h rfl rfl rfl (fun j hj => wI_f (by omega)) (wI_ne (by decide)) rfl
/-- what a reader of a piece of a sentence leaves -/
def ER (st : Nat → Nat) (p q : Nat) (wi : Int) (a : Int) (s u : mS) (F G : Option (Int × mS)) : Prop :=
  ∃ r s' u', F = some (r, s') ∧ G = some (r, u') ∧ KC s s' ∧ KR u u' ∧ ((r = 1 ∧ TokG a s' u' ∧ u'.1 249 44 = wi ∧ ∃ (st' : Nat → Nat) (p' q' : Nat), SQ st' p' q' s' u' ∧ p + 1 ≤ p' ∧ q + 1 ≤ q' ∧ q' ≤ 20 ∧ p' + 1 + 2 * q ≤ p + 2 * q' ∧ u'.1 249 45 = (p' : Int) - 1 ∧ st' (p' - 1) = p ∧ ∀ i, i < p → st' i = st i) ∨ (r = 0 ∧ Flt s' u'))
def EOne (m h : Nat) : Prop := ∀ (dc dr w p q : Nat) (st : Nat → Nat) (a : Int) (s u : mS), w + h = 8 → 3 * h + 1 ≤ dc → 4 * h + 1 ≤ dr → TokG a s u → SQ st p q s u → p ≤ 2 * q → q ≤ 20 → u.1 249 44 = (w : Int) → ER st p q (w : Int) (a + 1) s u (f_Sn_readOne m dc ((w : Int) + 1) s) (f_R_readSaid m dr u)
def EEach (m h : Nat) : Prop := ∀ (dc dr w p q : Nat) (st : Nat → Nat) (a : Int) (s u : mS), w + h = 8 → 3 * h + 2 ≤ dc → 4 * h + 2 ≤ dr → TokG a s u → SQ st p q s u → p ≤ 2 * q → q ≤ 20 → u.1 249 44 = (w : Int) → ER st p q (w : Int) (a + 1) s u (f_Sn_readEach m dc ((w : Int) + 1) s) (f_R_readAnd m dr u)
def ECond (m h : Nat) : Prop := ∀ (dc dr w p q : Nat) (st : Nat → Nat) (a : Int) (s u : mS), w + h = 8 → 3 * h + 3 ≤ dc → 4 * h + 3 ≤ dr → TokG a s u → SQ st p q s u → p ≤ 2 * q → q ≤ 20 → u.1 249 44 = (w : Int) → ER st p q (w : Int) (a + 1) s u (f_Sn_readCond m dc ((w : Int) + 1) s) (f_R_readOr m dr u)
theorem and_loop {m h : Nat} (hm : 10000 ≤ m) (H : EOne m h) : ∀ (e dc dr nc nr x4 w p q pS : Nat) (st : Nat → Nat) (a : Int) (s u : mS), w + h = 8 → 3 * h + 1 ≤ dc → 4 * h + 1 ≤ dr → 21 ≤ e + q → e + 1 ≤ nc → e + 1 ≤ nr → x4 + 1 ≤ q → q ≤ 20 → 1 ≤ p → p + 1 ≤ 2 * q → TokG a s u → SQ st p q s u → st (p - 1) = pS → pS + 1 ≤ p → u.1 249 44 = (w : Int) →
    ∃ r s' u', l_Sn_readEach_L15 m dc nc ((w : Int) + 1) (x4 : Int) s = some (r, s') ∧ l_R_readAnd_L14 m dr nr ((p : Int) - 1) u = some (r, u') ∧ KC s s' ∧ KR u u' ∧ ((r = 1 ∧ TokG a s' u' ∧ u'.1 249 44 = (w : Int) ∧ ∃ (st' : Nat → Nat) (p' q' : Nat), SQ st' p' q' s' u' ∧ p ≤ p' ∧ q ≤ q' ∧ q' ≤ 20 ∧ p' + 2 * q ≤ p + 2 * q' ∧ u'.1 249 45 = (p' : Int) - 1 ∧ st' (p' - 1) = pS ∧ ∀ i, i < pS → st' i = st i) ∨ (r = 0 ∧ Flt s' u')) := by
  intro e
  induction e with
  | zero => intro dc dr nc nr x4 w p q pS st a s u h1 h2 h3 h4 h5 h6 h7 h8; omega
  | succ e ih =>
    intro dc dr nc nr x4 w p q pS st a s u hw hdc hdr he hnc hnr hx hq h1 hpq g hs hst hpS h44
    obtain ⟨nc, rfl⟩ : ∃ n, nc = n + 1 := ⟨nc - 1, by omega⟩
    obtain ⟨nr, rfl⟩ : ∃ n, nr = n + 1 := ⟨nr - 1, by omega⟩
    have ga := g.2.1
    have iw := R_isWord (m := m) (by omega) g.1 (k := 12) (by decide)
    rw [show ((12 : Nat) : Int) = 12 from rfl, show ((cpw 12 : Nat) : Int) = 13 from rfl] at iw
    rw [l_Sn_readEach_L15_eq, if_pos (by omega), C_isAnd m g.1, Option.bind_some, l_R_readAnd_L14_eq, iw, Option.bind_some]
    dsimp only
    by_cases c : s.1 1 3 = 13
    rotate_left
    · rw [if_neg c, if_pos rfl, if_pos rfl]
      exact ⟨1, s, _, rfl, rfl, KC_refl s, KR_f (by omega), Or.inl ⟨rfl, TokG_f g (by omega), by rw [wI_f (by decide)]; exact h44, st, p, q, SQ_f hs (by omega), by omega, by omega, hq, by omega, wI_at, hst, fun _ _ => rfl⟩⟩
    have k2 : s.1 1 2 = 2 := by
      rcases T_word g.1 with r | ⟨_, _, _, r⟩
      · omega
      · exact r
    obtain ⟨s1, u1, r1, r2, r3, r4, r5, _⟩ := T_adv hm g (by omega) (by omega)
    have hs1 := SQ_keep hs r4 r5
    have w1 : u1.1 249 44 = (w : Int) := by rw [r5.2.2 44 (by omega)]; exact h44
    rw [if_pos c, if_neg (show ¬ (1 : Int) = 0 by decide), if_neg (show ¬ (1 : Int) = 0 by decide), r1, Option.bind_some, r2, Option.bind_some]
    dsimp only
    obtain ⟨r, s2, u2, t1, t2, t3, t4, t5⟩ := H dc dr w p q st (a + 1) s1 u1 hw (by omega) (by omega) r3 hs1 (by omega) hq w1
    rw [t1, Option.bind_some, t2, Option.bind_some]
    dsimp only
    have kc2 : KC s s2 := KC_trans (KC_of r4) t3
    have kr2 : KR u u2 := KR_trans (KR_of r5) t4
    rcases t5 with ⟨rr, g2, w2, st2, p2, q2, hs2, b1, b2, b3, b4, b5, b6, b7⟩ | ⟨rr, fl⟩
    rotate_left
    · subst rr
      rw [if_pos rfl, if_pos rfl]
      exact ⟨0, s2, u2, rfl, rfl, kc2, kr2, Or.inr ⟨rfl, fl⟩⟩
    subst rr
    rw [if_neg (show ¬ (1 : Int) = 0 by decide), if_neg (show ¬ (1 : Int) = 0 by decide), b5]
    obtain ⟨s3, u3, y1, y2, y3, y4, y5, y6, y7, y8, y9, y10, y11⟩ := Q_put (m := m) hs2 (by omega) 1 0 0 2 ((p : Int) - 1) ((p2 : Int) - 1) 0 pS (by
      intro P S V A st' e1 e2 e3 e4 e5 e6 e7 e8 e9 e10 e11
      right; left
      have z1 : st' (p2 - 1) = p := by rw [e10 _ (by omega), b6]
      have z2 : st' (p - 1) = pS := by rw [e10 _ (by omega), b7 _ (by omega), hst]
      refine ⟨Or.inl ⟨e1, e6⟩, by omega, by rw [z1]; exact h1, by rw [z1]; omega, by rw [e8], by rw [e7, z1], by rw [e11, z1, z2]⟩)
    rw [y1, Option.bind_some, y2, Option.bind_some]
    dsimp only
    rw [if_neg (show ¬ (1 : Int) = 0 by decide), w32_in (by omega) (by omega), show (x4 : Int) + 1 = ((x4 + 1 : Nat) : Int) from by omega, show (p2 : Int) = ((p2 + 1 : Nat) : Int) - 1 from by omega]
    have g3 : TokG a s3 u3 := TokG_mono (TokG_cg g2 y6 y7 (by rw [y8]) (fun k hk => y9 k (by omega)) y10 (by rw [y11])) (by omega) (by omega)
    obtain ⟨r', s4, u4, v1, v2, v3, v4, v5⟩ := ih dc dr nc nr (x4 + 1) w (p2 + 1) q2 pS _ a s3 u3 hw hdc hdr (by omega) (by omega) (by omega) (by omega) b3 (by omega) (by omega) g3 y3 (by rw [show p2 + 1 - 1 = p2 from by omega, if_pos rfl]) (by omega) (by rw [y9 44 (by decide)]; exact w2)
    refine ⟨r', s4, u4, v1, v2, KC_trans kc2 (KC_trans y4 v3), KR_trans kr2 (KR_trans y5 v4), ?_⟩
    rcases v5 with ⟨rr, v6, v7, st4, p4, q4, v8, v9, v10, v11, v12, v13, v14, v15⟩ | v5
    · refine Or.inl ⟨rr, v6, v7, st4, p4, q4, v8, by omega, by omega, v11, by omega, v13, v14, fun i hi => ?_⟩
      rw [v15 i hi, if_neg (by omega), b7 i (by omega)]
    · exact Or.inr v5
theorem and_of {m h : Nat} (hm : 10000 ≤ m) (H : EOne m h) : EEach m h := by
  intro dc dr w p q st a s u hw hdc hdr g hs hp hq h44
  obtain ⟨dc, rfl⟩ : ∃ n, dc = n + 1 := ⟨dc - 1, by omega⟩
  obtain ⟨dr, rfl⟩ : ∃ n, dr = n + 1 := ⟨dr - 1, by omega⟩
  rw [f_Sn_readEach_eq, f_R_readAnd_eq]
  obtain ⟨r, s2, u2, t1, t2, t3, t4, t5⟩ := H dc dr w p q st a s u hw (by omega) (by omega) g hs hp hq h44
  rw [t1, Option.bind_some, t2, Option.bind_some]
  dsimp only
  rcases t5 with ⟨rr, g2, w2, st2, p2, q2, hs2, b1, b2, b3, b4, b5, b6, b7⟩ | ⟨rr, fl⟩
  rotate_left
  · subst rr
    rw [if_pos rfl, if_pos rfl]
    exact ⟨0, s2, u2, rfl, rfl, t3, t4, Or.inr ⟨rfl, fl⟩⟩
  subst rr
  rw [if_neg (show ¬ (1 : Int) = 0 by decide), if_neg (show ¬ (1 : Int) = 0 by decide), b5]
  obtain ⟨r', s4, u4, v1, v2, v3, v4, v5⟩ := and_loop hm H 21 dc dr m m 0 w p2 q2 p st2 (a + 1) s2 u2 hw (by omega) (by omega) (by omega) (by omega) (by omega) (by omega) b3 (by omega) (by omega) g2 hs2 b6 (by omega) w2
  rw [show ((0 : Nat) : Int) = 0 from rfl] at v1
  refine ⟨r', s4, u4, v1, v2, KC_trans t3 v3, KR_trans t4 v4, ?_⟩
  rcases v5 with ⟨rr, v6, v7, st4, p4, q4, v8, v9, v10, v11, v12, v13, v14, v15⟩ | v5
  · exact Or.inl ⟨rr, v6, v7, st4, p4, q4, v8, by omega, by omega, v11, by omega, v13, v14, fun i hi => by rw [v15 i hi, b7 i hi]⟩
  · exact Or.inr v5
theorem or_loop {m h : Nat} (hm : 10000 ≤ m) (H : EEach m h) : ∀ (e dc dr nc nr x4 w p q pS : Nat) (st : Nat → Nat) (a : Int) (s u : mS), w + h = 8 → 3 * h + 2 ≤ dc → 4 * h + 2 ≤ dr → 21 ≤ e + q → e + 1 ≤ nc → e + 1 ≤ nr → x4 + 1 ≤ q → q ≤ 20 → 1 ≤ p → p + 1 ≤ 2 * q → TokG a s u → SQ st p q s u → st (p - 1) = pS → pS + 1 ≤ p → u.1 249 44 = (w : Int) →
    ∃ r s' u', l_Sn_readCond_L15 m dc nc ((w : Int) + 1) (x4 : Int) s = some (r, s') ∧ l_R_readOr_L14 m dr nr ((p : Int) - 1) u = some (r, u') ∧ KC s s' ∧ KR u u' ∧ ((r = 1 ∧ TokG a s' u' ∧ u'.1 249 44 = (w : Int) ∧ ∃ (st' : Nat → Nat) (p' q' : Nat), SQ st' p' q' s' u' ∧ p ≤ p' ∧ q ≤ q' ∧ q' ≤ 20 ∧ p' + 2 * q ≤ p + 2 * q' ∧ u'.1 249 45 = (p' : Int) - 1 ∧ st' (p' - 1) = pS ∧ ∀ i, i < pS → st' i = st i) ∨ (r = 0 ∧ Flt s' u')) := by
  intro e
  induction e with
  | zero => intro dc dr nc nr x4 w p q pS st a s u h1 h2 h3 h4 h5 h6 h7 h8; omega
  | succ e ih =>
    intro dc dr nc nr x4 w p q pS st a s u hw hdc hdr he hnc hnr hx hq h1 hpq g hs hst hpS h44
    obtain ⟨nc, rfl⟩ : ∃ n, nc = n + 1 := ⟨nc - 1, by omega⟩
    obtain ⟨nr, rfl⟩ : ∃ n, nr = n + 1 := ⟨nr - 1, by omega⟩
    have ga := g.2.1
    have iw := R_isWord (m := m) (by omega) g.1 (k := 11) (by decide)
    rw [show ((11 : Nat) : Int) = 11 from rfl, show ((cpw 11 : Nat) : Int) = 12 from rfl] at iw
    rw [l_Sn_readCond_L15_eq, if_pos (by omega), C_isOr m g.1, Option.bind_some, l_R_readOr_L14_eq, iw, Option.bind_some]
    dsimp only
    by_cases c : s.1 1 3 = 12
    rotate_left
    · rw [if_neg c, if_pos rfl, if_pos rfl]
      exact ⟨1, s, _, rfl, rfl, KC_refl s, KR_f (by omega), Or.inl ⟨rfl, TokG_f g (by omega), by rw [wI_f (by decide)]; exact h44, st, p, q, SQ_f hs (by omega), by omega, by omega, hq, by omega, wI_at, hst, fun _ _ => rfl⟩⟩
    have k2 : s.1 1 2 = 2 := by
      rcases T_word g.1 with r | ⟨_, _, _, r⟩
      · omega
      · exact r
    obtain ⟨s1, u1, r1, r2, r3, r4, r5, _⟩ := T_adv hm g (by omega) (by omega)
    have hs1 := SQ_keep hs r4 r5
    have w1 : u1.1 249 44 = (w : Int) := by rw [r5.2.2 44 (by omega)]; exact h44
    rw [if_pos c, if_neg (show ¬ (1 : Int) = 0 by decide), if_neg (show ¬ (1 : Int) = 0 by decide), r1, Option.bind_some, r2, Option.bind_some]
    dsimp only
    obtain ⟨r, s2, u2, t1, t2, t3, t4, t5⟩ := H dc dr w p q st (a + 1) s1 u1 hw (by omega) (by omega) r3 hs1 (by omega) hq w1
    rw [t1, Option.bind_some, t2, Option.bind_some]
    dsimp only
    have kc2 : KC s s2 := KC_trans (KC_of r4) t3
    have kr2 : KR u u2 := KR_trans (KR_of r5) t4
    rcases t5 with ⟨rr, g2, w2, st2, p2, q2, hs2, b1, b2, b3, b4, b5, b6, b7⟩ | ⟨rr, fl⟩
    rotate_left
    · subst rr
      rw [if_pos rfl, if_pos rfl]
      exact ⟨0, s2, u2, rfl, rfl, kc2, kr2, Or.inr ⟨rfl, fl⟩⟩
    subst rr
    rw [if_neg (show ¬ (1 : Int) = 0 by decide), if_neg (show ¬ (1 : Int) = 0 by decide), b5]
    obtain ⟨s3, u3, y1, y2, y3, y4, y5, y6, y7, y8, y9, y10, y11⟩ := Q_put (m := m) hs2 (by omega) 2 0 0 3 ((p : Int) - 1) ((p2 : Int) - 1) 0 pS (by
      intro P S V A st' e1 e2 e3 e4 e5 e6 e7 e8 e9 e10 e11
      right; left
      have z1 : st' (p2 - 1) = p := by rw [e10 _ (by omega), b6]
      have z2 : st' (p - 1) = pS := by rw [e10 _ (by omega), b7 _ (by omega), hst]
      refine ⟨Or.inr ⟨e1, e6⟩, by omega, by rw [z1]; exact h1, by rw [z1]; omega, by rw [e8], by rw [e7, z1], by rw [e11, z1, z2]⟩)
    rw [y1, Option.bind_some, y2, Option.bind_some]
    dsimp only
    rw [if_neg (show ¬ (1 : Int) = 0 by decide), w32_in (by omega) (by omega), show (x4 : Int) + 1 = ((x4 + 1 : Nat) : Int) from by omega, show (p2 : Int) = ((p2 + 1 : Nat) : Int) - 1 from by omega]
    have g3 : TokG a s3 u3 := TokG_mono (TokG_cg g2 y6 y7 (by rw [y8]) (fun k hk => y9 k (by omega)) y10 (by rw [y11])) (by omega) (by omega)
    obtain ⟨r', s4, u4, v1, v2, v3, v4, v5⟩ := ih dc dr nc nr (x4 + 1) w (p2 + 1) q2 pS _ a s3 u3 hw hdc hdr (by omega) (by omega) (by omega) (by omega) b3 (by omega) (by omega) g3 y3 (by rw [show p2 + 1 - 1 = p2 from by omega, if_pos rfl]) (by omega) (by rw [y9 44 (by decide)]; exact w2)
    refine ⟨r', s4, u4, v1, v2, KC_trans kc2 (KC_trans y4 v3), KR_trans kr2 (KR_trans y5 v4), ?_⟩
    rcases v5 with ⟨rr, v6, v7, st4, p4, q4, v8, v9, v10, v11, v12, v13, v14, v15⟩ | v5
    · refine Or.inl ⟨rr, v6, v7, st4, p4, q4, v8, by omega, by omega, v11, by omega, v13, v14, fun i hi => ?_⟩
      rw [v15 i hi, if_neg (by omega), b7 i (by omega)]
    · exact Or.inr v5
theorem or_of {m h : Nat} (hm : 10000 ≤ m) (H : EEach m h) : ECond m h := by
  intro dc dr w p q st a s u hw hdc hdr g hs hp hq h44
  obtain ⟨dc, rfl⟩ : ∃ n, dc = n + 1 := ⟨dc - 1, by omega⟩
  obtain ⟨dr, rfl⟩ : ∃ n, dr = n + 1 := ⟨dr - 1, by omega⟩
  rw [f_Sn_readCond_eq, f_R_readOr_eq]
  obtain ⟨r, s2, u2, t1, t2, t3, t4, t5⟩ := H dc dr w p q st a s u hw (by omega) (by omega) g hs hp hq h44
  rw [t1, Option.bind_some, t2, Option.bind_some]
  dsimp only
  rcases t5 with ⟨rr, g2, w2, st2, p2, q2, hs2, b1, b2, b3, b4, b5, b6, b7⟩ | ⟨rr, fl⟩
  rotate_left
  · subst rr
    rw [if_pos rfl, if_pos rfl]
    exact ⟨0, s2, u2, rfl, rfl, t3, t4, Or.inr ⟨rfl, fl⟩⟩
  subst rr
  rw [if_neg (show ¬ (1 : Int) = 0 by decide), if_neg (show ¬ (1 : Int) = 0 by decide), b5]
  obtain ⟨r', s4, u4, v1, v2, v3, v4, v5⟩ := or_loop hm H 21 dc dr m m 0 w p2 q2 p st2 (a + 1) s2 u2 hw (by omega) (by omega) (by omega) (by omega) (by omega) (by omega) b3 (by omega) (by omega) g2 hs2 b6 (by omega) w2
  rw [show ((0 : Nat) : Int) = 0 from rfl] at v1
  refine ⟨r', s4, u4, v1, v2, KC_trans t3 v3, KR_trans t4 v4, ?_⟩
  rcases v5 with ⟨rr, v6, v7, st4, p4, q4, v8, v9, v10, v11, v12, v13, v14, v15⟩ | v5
  · exact Or.inl ⟨rr, v6, v7, st4, p4, q4, v8, by omega, by omega, v11, by omega, v13, v14, fun i hi => by rw [v15 i hi, b7 i hi]⟩
  · exact Or.inr v5
