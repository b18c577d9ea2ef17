/-! ===== written by gen_a99.py: sentence (3): one ===== -/
/-- the end of one in the reference: how deep it is goes back -/
theorem ER_in {st : Nat → Nat} {p q : Nat} {wi a : Int} {s u s0 u0 : mS} {F G : Option (Int × mS)} {w : Nat} (h : ER st p q ((w : Int) + 1) a s u F G) (hq : wi = (w : Int)) (b : Int) (b0 : 0 ≤ b) (hb : b ≤ a) (w8 : w ≤ 8) (k1 : KC s0 s) (k2 : KR u0 u) : ER st p q wi b s0 u0 F (G.bind fun p1 => (if p1.1 = 0 ∨ p1.1 = 1 then some (p1.1, wI p1.2 249 44 (w32 ((p1.2.1 249 44) - 1))) else none)) ∨ ∃ s' u', F = some (0, s') ∧ (G.bind fun p1 => (if p1.1 = 0 ∨ p1.1 = 1 then some (p1.1, wI p1.2 249 44 (w32 ((p1.2.1 249 44) - 1))) else none)) = some (0, u') ∧ KC s0 s' ∧ KR u0 u' ∧ Flt s' u' := by
  obtain ⟨r, s', u', h1, h2, h3, h4, h5⟩ := h
  rcases h5 with ⟨rr, g, h44, st', p', q', x1, x2, x3, x4, x5, x6, x7, x8⟩ | ⟨rr, fl⟩
  · left
    subst rr
    refine ⟨1, s', wI u' 249 44 (w : Int), h1, ?_, KC_trans k1 h3, KR_trans k2 (KR_trans h4 (KR_f (by omega))), Or.inl ⟨rfl, TokG_mono (TokG_f g (by omega)) b0 hb, by rw [wI_at]; exact hq.symm, st', p', q', SQ_f x1 (by omega), x2, x3, x4, x5, by rw [wI_f (by decide)]; exact x6, x7, x8⟩⟩
    rw [h2, Option.bind_some]
    dsimp only
    rw [if_pos (Or.inr rfl), h44, w32_in (by omega) (by omega), show (w : Int) + 1 - 1 = (w : Int) from by omega]
  · right
    subst rr
    refine ⟨s', _, h1, by rw [h2, Option.bind_some]; dsimp only; rw [if_pos (Or.inl rfl)], KC_trans k1 h3, KR_trans k2 (KR_trans h4 (KR_f (by omega))), Flt_f fl (by omega)⟩
theorem ER_fin {st : Nat → Nat} {p q : Nat} {wi b : Int} {s0 u0 : mS} {F G : Option (Int × mS)} (h : ER st p q wi b s0 u0 F G ∨ ∃ s' u', F = some (0, s') ∧ G = some (0, u') ∧ KC s0 s' ∧ KR u0 u' ∧ Flt s' u') : ER st p q wi b s0 u0 F G := by
  rcases h with h | ⟨s', u', h1, h2, h3, h4, h5⟩
  · exact h
  · exact ⟨0, s', u', h1, h2, h3, h4, Or.inr ⟨rfl, h5⟩⟩
theorem ER_01 {st : Nat → Nat} {p q : Nat} {wi b : Int} {s0 u0 : mS} {F G : Option (Int × mS)} (h : ER st p q wi b s0 u0 F G) : ER st p q wi b s0 u0 (F.bind fun p0 => (if p0.1 = 0 ∨ p0.1 = 1 then some (p0.1, p0.2) else none)) G := by
  obtain ⟨r, s', u', h1, h2, h3, h4, h5⟩ := h
  refine ⟨r, s', u', ?_, h2, h3, h4, h5⟩
  rw [h1, Option.bind_some]
  dsimp only
  rw [if_pos (by rcases h5 with q | q; exact Or.inr q.1; exact Or.inl q.1)]
theorem ER_fail {st : Nat → Nat} {p q : Nat} {wi b : Int} (m : Nat) {s u : mS} (h : TokR s u) {kc kr : Int} (hk : kc = if s.1 1 2 = 1 then 1 else kr) (hr : kr ≠ 0) : ER st p q wi b s u ((f_Tp_fail m kc s).bind fun p0 => (if p0.1 = 0 ∨ p0.1 = 1 then some (p0.1, p0.2) else none)) ((f_R_bad m kr u).bind fun p0 => (if p0.1 = 0 ∨ p0.1 = 1 then some (p0.1, p0.2) else none)) := by
  obtain ⟨s', u', r1, r2, r3, r4, r5⟩ := T_fail m h hk hr
  rw [r1, r2]
  exact ⟨0, s', u', rfl, rfl, KC_of r4, KR_of r5, Or.inr ⟨rfl, r3⟩⟩
/-- a plain one: the part put, the node said -/
theorem E_plain {m : Nat} {st : Nat → Nat} {p q : Nat} {a : Int} {s u : mS} (g : TokG a s u) (h : SQ st p (q + 1) s u) (hp : p < 40) (q20 : q + 1 ≤ 20) {w : Nat} (hw : u.1 249 44 = (w : Int) + 1) (P0 S0 V0 a0 a1 a2 a3 : Int)
    (hn : ∀ (P S V A : Row) (st' : Nat → Nat), P p = P0 → S p = S0 → V p = V0 → A 0 = u.1 251 0 → A 2 = u.1 251 2 → A (226 + 4 * p) = a0 → A (227 + 4 * p) = a1 → A (228 + 4 * p) = a2 → A (229 + 4 * p) = a3 → (∀ j, j < p → st' j = st j) → st' p = p → PN P S V A st' p) :
    ∃ s' u', f_Sn_put m P0 S0 V0 s = some (1, s') ∧ f_R_saysOne m a0 a1 a2 a3 u = some ((p : Int), u') ∧ KC s s' ∧ KR u (wI u' 249 45 (p : Int)) ∧ TokG a s' (wI u' 249 45 (p : Int)) ∧ (wI u' 249 45 (p : Int)).1 249 44 = (w : Int) + 1 ∧
      ∃ (st' : Nat → Nat) (p' q' : Nat), SQ st' p' q' s' (wI u' 249 45 (p : Int)) ∧ p + 1 ≤ p' ∧ q + 1 + 0 ≤ q' ∧ q' ≤ 20 ∧ p' + 1 + 2 * q ≤ p + 2 * q' ∧ (wI u' 249 45 (p : Int)).1 249 45 = (p' : Int) - 1 ∧ st' (p' - 1) = p ∧ ∀ i, i < p → st' i = st i := by
  obtain ⟨s3, u3, y1, y2, y3, y4, y5, y6, y7, y8, y9, y10, y11⟩ := Q_put (m := m) h hp P0 S0 V0 a0 a1 a2 a3 p hn
  have g3 : TokG a s3 u3 := TokG_cg g y6 y7 (by rw [y8]) (fun k hk => y9 k (by omega)) y10 (by rw [y11])
  refine ⟨s3, u3, y1, y2, y4, KR_trans y5 (KR_f (by omega)), TokG_f g3 (by omega), by rw [wI_f (by decide), y9 44 (by decide)]; exact hw, _, p + 1, q + 1, SQ_f y3 (by omega), by omega, by omega, q20, by omega, by rw [wI_at]; omega, ?_, fun i hi => by rw [if_neg (by omega)]⟩
  rw [show p + 1 - 1 = p from by omega, if_pos rfl]
theorem E_one0 {m : Nat} (hm : 10000 ≤ m) : EOne m 0 ∧ ∀ h, EOne m h → ECond m h → EOne m (h + 1) := by
  have core : ∀ (h : Nat), (h = 0 ∨ ∃ h', h = h' + 1 ∧ EOne m h' ∧ ECond m h') → EOne m h := by
    intro h HH dc dr w p q st a s u hw hdc hdr g hs hp hq h44
    obtain ⟨dc, rfl⟩ : ∃ n, dc = n + 1 := ⟨dc - 1, by omega⟩
    obtain ⟨dr, rfl⟩ : ∃ n, dr = n + 1 := ⟨dr - 1, by omega⟩
    have ga := g.2.1
    rw [f_Sn_readOne_eq, f_R_readSaid_eq, R_isSign g.1 (c := 40) (by omega), Option.bind_some]
    dsimp only
    -- what is common to all: one more, one deeper
    have mid : ∀ (x5 : Int) (K nr : Nat), (x5 = 0 ∨ x5 = 1) → 1 ≤ nr → s.1 1 2 ≠ 0 → s.1 1 2 ≠ 1 →
        (∀ s2 u2, TokG (a + 1) s2 u2 → SQ st p (q + 1) s2 u2 → q + 1 ≤ 20 → w < 8 → u2.1 249 44 = (w : Int) + 1 → KC s s2 → KR u u2 → ER st p q (w : Int) (a + 1) s u
          (if x5 = 0 then (bsel (refOk (encW (s.1 1 3)) && refOk (some 1014)) (if (encW (s.1 1 3)) = (some 1014) then ((f_Sn_readOne m dc (w32 ((w : Int) + 1 + 1)) s2).bind fun p1 => (if p1.1 = 0 then (some (0, p1.2)) else ((f_Sn_put m 0 0 0 p1.2).bind fun p2 => (if p2.1 = 0 then (some (0, p2.2)) else (some (1, p2.2)))))) else ((f_Sn_readPlain m (encW (s.1 1 3)) s2).bind fun p1 => (if p1.1 = 0 ∨ p1.1 = 1 then some (p1.1, p1.2) else none))) none) else ((f_Sn_readCond m dc (w32 ((w : Int) + 1 + 1)) s2).bind fun p1 => (if p1.1 = 0 then (some (0, p1.2)) else ((f_Tp_takeSign m 41 p1.2).bind fun p2 => (if p2.1 = 0 then (some (0, p2.2)) else (some (1, p2.2)))))))
          (if x5 = 0 then (if (K : Int) = 13 then ((f_R_readNot m dr u2).bind fun p1 => (if p1.1 = 0 ∨ p1.1 = 1 then some (p1.1, wI p1.2 249 44 (w32 ((p1.2.1 249 44) - 1))) else none)) else (if (K : Int) < 18 then ((f_R_saysOne m (w32 (50 + (K : Int))) 0 0 0 u2).bind fun p1 => (some (1, wI (wI p1.2 249 45 p1.1) 249 44 (w32 (((wI p1.2 249 45 p1.1).1 249 44) - 1))))) else (if (K : Int) < 20 then ((f_R_readOf m (K : Int) u2).bind fun p1 => (if p1.1 = 0 ∨ p1.1 = 1 then some (p1.1, wI p1.2 249 44 (w32 ((p1.2.1 249 44) - 1))) else none)) else ((f_R_readCompare m (K : Int) u2).bind fun p1 => (if p1.1 = 0 ∨ p1.1 = 1 then some (p1.1, wI p1.2 249 44 (w32 ((p1.2.1 249 44) - 1))) else none))))) else ((f_R_readBracket m dr u2).bind fun p1 => (if p1.1 = 0 ∨ p1.1 = 1 then some (p1.1, wI p1.2 249 44 (w32 ((p1.2.1 249 44) - 1))) else none)))) →
        ER st p q (w : Int) (a + 1) s u (l_Sn_readOne_L41 m dc m ((w : Int) + 1) (encW (s.1 1 3)) x5 s) (l_R_readSaid_L46 m dr nr x5 (K : Int) u) := by
      intro x5 K nr hx hnr k0 k1 rest
      obtain ⟨m0, hm0⟩ : ∃ m0, m = m0 + 1 := ⟨m - 1, by omega⟩
      obtain ⟨nr, rfl⟩ : ∃ n, nr = n + 1 := ⟨nr - 1, by omega⟩
      have LL : l_Sn_readOne_L41 m dc m ((w : Int) + 1) (encW (s.1 1 3)) x5 s = l_Sn_readOne_L41 m dc (m0 + 1) ((w : Int) + 1) (encW (s.1 1 3)) x5 s := by rw [← hm0]
      rw [LL, l_Sn_readOne_L41_eq, l_R_readSaid_L46_eq, hs.2.2.2.1, hs.2.2.2.2.1, h44]
      by_cases cq : q = 20
      · subst cq
        rw [if_neg (show ¬ ((20 : Nat) : Int) < 20 by decide), if_pos (show ((20 : Nat) : Int) = 20 from rfl)]
        exact ER_fail m g.1 (by rw [if_neg k1]) (by decide)
      · rw [if_pos (show (q : Int) < 20 by omega), if_neg (show ¬ (q : Int) = 20 by omega)]
        by_cases cw : w = 8
        · subst cw
          rw [if_pos (show 8 < ((8 : Nat) : Int) + 1 by decide), if_pos (show ((8 : Nat) : Int) = 8 from rfl)]
          exact ER_fail m g.1 (by rw [if_neg k1]) (by decide)
        · have e44 : (wI u 249 43 ((q : Int) + 1)).1 249 44 = (w : Int) := by rw [wI_f (by decide)]; exact h44
          rw [if_neg (show ¬ 8 < (w : Int) + 1 by omega), if_neg (show ¬ (w : Int) = 8 by omega), w32_in (x := (q : Int) + 1) (by omega) (by omega), e44, w32_in (x := (w : Int) + 1) (by omega) (by omega)]
          have g1 : TokG a (wI s 232 0 ((q : Int) + 1)) (wI (wI u 249 43 ((q : Int) + 1)) 249 44 ((w : Int) + 1)) := TokG_cg g (wI_ne (by decide)) (wI_ne (by decide)) rfl (fun k hk => by rw [wI_f (by omega), wI_f (by omega)]) (by rw [wI_ne (by decide), wI_ne (by decide)]) rfl
          have hs1 : SQ st p (q + 1) (wI s 232 0 ((q : Int) + 1)) (wI (wI u 249 43 ((q : Int) + 1)) 249 44 ((w : Int) + 1)) := by
            obtain ⟨h1, h2, h3, h4, h5, h6⟩ := hs
            have eN : NA (wI (wI u 249 43 ((q : Int) + 1)) 249 44 ((w : Int) + 1)) = NA u := by unfold NA; rw [wI_ne (by decide), wI_ne (by decide), wI_ne (by decide), wI_ne (by decide)]
            refine ⟨RV_cg h1 (wI_ne (by decide)) (fun _ _ _ => rfl) (by rw [wI_ne (by decide), wI_ne (by decide)]) rfl, by rw [wI_f (by decide)]; exact h2, by rw [wI_f (by decide), wI_f (by decide)]; exact h3, by rw [wI_at]; omega, by rw [wI_f (by decide), wI_at]; omega, fun i hi => ?_⟩
            rw [wI_ne (by decide), wI_ne (by decide), wI_ne (by decide), eN]
            exact h6 i hi
          obtain ⟨s2, u2, r1, r2, r3, r4, r5, _⟩ := T_adv hm g1 (by rw [wI_ne (by decide)]; exact k0) (by rw [wI_ne (by decide)]; exact k1)
          rw [r1, Option.bind_some, r2, Option.bind_some]
          exact rest s2 u2 r3 (SQ_keep hs1 r4 r5) (by omega) (by omega) (by rw [r5.2.2 44 (by omega), wI_at]) (KC_trans (KC_w (by omega) (by omega)) (KC_of r4)) (KR_trans (KR_trans (KR_f (by omega)) (KR_f (by omega))) (KR_of r5))
    by_cases kb : s.1 1 2 = 40
    · -- a bracket
      have w3 : s.1 1 3 = -1 := by
        rcases T_word g.1 with r | ⟨_, _, _, r⟩
        · exact r
        · omega
      rw [if_pos kb, if_pos kb]
      obtain ⟨K, n', f1, f2, f3, f4, f5, f6⟩ := R_findW (m := m) (by omega) g.1 dr 1 11 m 13 (by omega) (by omega)
      rw [show ((13 : Nat) : Int) = 13 from rfl, if_neg (fun q => absurd q.1 (by decide))] at f6
      rw [f6]
      refine mid 1 K n' (Or.inr rfl) (by omega) (by omega) (by omega) (fun s2 u2 g2 hs2 q20 w8 hw2 kc2 kr2 => ?_)
      rw [if_neg (show ¬ (1 : Int) = 0 by decide), if_neg (show ¬ (1 : Int) = 0 by decide), w32_in (by omega) (by omega)]
      rcases HH with h0 | ⟨h', rfl, H1, H2⟩
      · omega
      obtain ⟨dr, rfl⟩ : ∃ n, dr = n + 1 := ⟨dr - 1, by omega⟩
      have E := H2 dc dr (w + 1) p (q + 1) st (a + 1) s2 u2 (by omega) (by omega) (by omega) g2 hs2 (by omega) q20 (by rw [hw2]; rfl)
      rw [show ((w + 1 : Nat) : Int) = (w : Int) + 1 from by omega] at E
      apply ER_fin
      refine ER_in (q := q) (w := w) (a := a + 1 + 1) ?_ rfl (a + 1) (by omega) (by omega) (by omega) kc2 kr2
      obtain ⟨r, s3, u3, t1, t2, t3, t4, t5⟩ := E
      rw [f_R_readBracket_eq, t1, Option.bind_some, t2, Option.bind_some]
      dsimp only
      rcases t5 with ⟨rr, g3, w3, st3, p3, q3, hs3, b1, b2, b3, b4, b5, b6, b7⟩ | ⟨rr, fl⟩
      rotate_left
      · subst rr
        rw [if_pos rfl, if_pos rfl]
        exact ⟨0, s3, u3, rfl, rfl, t3, t4, Or.inr ⟨rfl, fl⟩⟩
      subst rr
      rw [if_neg (show ¬ (1 : Int) = 0 by decide), if_neg (show ¬ (1 : Int) = 0 by decide)]
      rcases T_sg hm g3 (c := 41) (by omega) with ⟨s4, u4, _, y1, y2, y3, y4, y5, y6, _⟩ | ⟨s4, u4, y1, y2, y3, y4, y5, y6⟩
      · rw [y1, Option.bind_some, y2, Option.bind_some]
        dsimp only
        rw [if_neg (show ¬ (1 : Int) = 0 by decide), if_neg (show ¬ (1 : Int) = 0 by decide), y3, Option.bind_some]
        exact ⟨1, s4, u4, rfl, rfl, KC_trans t3 (KC_of y5), KR_trans t4 (KR_of y6), Or.inl ⟨rfl, TokG_mono y4 (by omega) (by omega), by rw [y6.2.2 44 (by omega)]; exact w3, st3, p3, q3, SQ_keep hs3 y5 y6, b1, by omega, b3, by omega, by rw [y6.2.2 45 (by omega)]; exact b5, b6, b7⟩⟩
      · rw [y1, Option.bind_some, y2, Option.bind_some]
        dsimp only
        rw [if_pos rfl, if_pos rfl, y3]
        exact ⟨0, s4, u4, rfl, rfl, KC_trans t3 (KC_of y5), KR_trans t4 (KR_of y6), Or.inr ⟨rfl, y4⟩⟩
    · rw [if_neg kb, if_neg kb]
      obtain ⟨rb, cb, cb2⟩ := C_begins m g.1
      obtain ⟨K, n', f1, f2, f3, f4, f5, f6⟩ := R_findW (m := m) (by omega) g.1 dr 0 11 m 13 (by omega) (by omega)
      rw [show ((13 : Nat) : Int) = 13 from rfl] at f6
      rw [cb, Option.bind_some, f6]
      dsimp only
      rcases cb2 with ⟨rr, nb⟩ | ⟨rr, yb⟩
      · -- no word that begins one
        subst rr
        have K24 : K = 24 := by
          by_cases q2 : K < 24
          · exfalso
            have e3 := f3 q2
            have tb : ∀ k : Nat, k < 24 → 13 ≤ k → ((cpw k : Int) = 14 ∨ (cpw k : Int) = 15 ∨ (cpw k : Int) = 16 ∨ (cpw k : Int) = 17 ∨ (cpw k : Int) = 18 ∨ (cpw k : Int) = 19 ∨ (cpw k : Int) = 3 ∨ (cpw k : Int) = 20 ∨ (cpw k : Int) = 21 ∨ (cpw k : Int) = 22 ∨ (cpw k : Int) = 23) := by decide
            apply nb
            unfold begW
            rw [e3]
            exact tb K q2 f1
          · omega
        rw [if_pos rfl, if_pos ⟨rfl, K24⟩]
        exact ER_fail m g.1 (by split <;> rfl) (by decide)
      · subst rr
        have k2 : s.1 1 2 = 2 := by
          rcases T_word g.1 with r | ⟨_, _, _, r⟩
          · unfold begW at yb; omega
          · exact r
        have K24 : K < 24 := by
          by_cases q2 : K = 24
          · exfalso
            have tb : ∀ c : Nat, c < 24 → (c = 14 ∨ c = 15 ∨ c = 16 ∨ c = 17 ∨ c = 18 ∨ c = 19 ∨ c = 3 ∨ c = 20 ∨ c = 21 ∨ c = 22 ∨ c = 23) → ∃ k, k < 24 ∧ 13 ≤ k ∧ cpw k = c := by decide
            unfold begW at yb
            obtain ⟨c, hc⟩ : ∃ c : Nat, s.1 1 3 = (c : Int) := ⟨(s.1 1 3).toNat, by omega⟩
            obtain ⟨k, k1, k3, k4⟩ := tb c (by omega) (by omega)
            exact f4 q2 k k3 k1 (by rw [hc, k4])
          · omega
        have e3 := f3 K24
        rw [if_neg (show ¬ (1 : Int) = 0 by decide), if_neg (show ¬ ((0 : Int) = 0 ∧ K = 24) by omega)]
        refine mid 0 K n' (Or.inl rfl) (by omega) (by omega) (by omega) (fun s2 u2 g2 hs2 q20 w8 hw2 kc2 kr2 => ?_)
        have W0 := WFv_boxes hs2.1.1
        have W2 := WFv_dead hs2.1.1
        have p40 : p < 40 := by omega
        rw [if_pos rfl, if_pos rfl, e3]
        have cK : K = 13 ∨ K = 14 ∨ K = 15 ∨ K = 16 ∨ K = 17 ∨ K = 18 ∨ K = 19 ∨ K = 20 ∨ K = 21 ∨ K = 22 ∨ K = 23 := by omega
        clear f6 f4 f3 e3
        rcases cK with c | c | c | c | c | c | c | c | c | c | c
        · subst c
          rw [show ((cpw 13 : Nat) : Int) = 14 from rfl, if_pos (show ((13 : Nat) : Int) = 13 from rfl), w32_in (by omega) (by omega)]
          show ER st p q (w : Int) (a + 1) s u ((f_Sn_readOne m dc ((w : Int) + 1 + 1) s2).bind fun p1 => (if p1.1 = 0 then (some (0, p1.2)) else ((f_Sn_put m 0 0 0 p1.2).bind fun p2 => (if p2.1 = 0 then (some (0, p2.2)) else (some (1, p2.2)))))) _
          rcases HH with h0 | ⟨h', rfl, H1, H2⟩
          · omega
          obtain ⟨dr, rfl⟩ : ∃ n, dr = n + 1 := ⟨dr - 1, by omega⟩
          have E := H1 dc dr (w + 1) p (q + 1) st (a + 1) s2 u2 (by omega) (by omega) (by omega) g2 hs2 (by omega) q20 (by rw [hw2]; rfl)
          rw [show ((w + 1 : Nat) : Int) = (w : Int) + 1 from by omega] at E
          apply ER_fin
          refine ER_in (q := q) (w := w) (a := a + 1 + 1) ?_ rfl (a + 1) (by omega) (by omega) (by omega) kc2 kr2
          obtain ⟨r, s3, u3, t1, t2, t3, t4, t5⟩ := E
          rw [f_R_readNot_eq, t1, Option.bind_some, t2, Option.bind_some]
          dsimp only
          rcases t5 with ⟨rr, g3, w3, st3, p3, q3, hs3, b1, b2, b3, b4, b5, b6, b7⟩ | ⟨rr, fl⟩
          rotate_left
          · subst rr
            rw [if_pos rfl, if_pos rfl]
            exact ⟨0, s3, u3, rfl, rfl, t3, t4, Or.inr ⟨rfl, fl⟩⟩
          subst rr
          rw [if_neg (show ¬ (1 : Int) = 0 by decide), if_neg (show ¬ (1 : Int) = 0 by decide), b5]
          obtain ⟨s4, u4, y1, y2, y3, y4, y5, y6, y7, y8, y9, y10, y11⟩ := Q_put (m := m) hs3 (by omega) 0 0 0 1 ((p3 : Int) - 1) 0 0 p (by
            intro P S V A st' e1 e2 e3 e4 e5 e6 e7 e8 e9 e10 e11
            left
            exact ⟨e1, e6, by omega, e7, by rw [e11, e10 _ (by omega), b6]⟩)
          rw [y1, Option.bind_some, y2, Option.bind_some]
          have g4 : TokG (a + 1 + 1) s4 u4 := TokG_cg g3 y6 y7 (by rw [y8]) (fun k hk => y9 k (by omega)) y10 (by rw [y11])
          refine ⟨1, s4, _, rfl, rfl, KC_trans t3 y4, KR_trans t4 (KR_trans y5 (KR_f (by omega))), Or.inl ⟨rfl, TokG_f g4 (by omega), by rw [wI_f (by decide), y9 44 (by decide)]; exact w3, _, p3 + 1, q3, SQ_f y3 (by omega), by omega, by omega, b3, by omega, by rw [wI_at]; omega, ?_, fun i hi => by rw [if_neg (by omega), b7 i hi]⟩⟩
          rw [show p3 + 1 - 1 = p3 from by omega, if_pos rfl]
        · subst c
          rw [show ((cpw 14 : Nat) : Int) = 15 from rfl, if_neg (show ¬ ((14 : Nat) : Int) = 13 by decide), if_pos (show ((14 : Nat) : Int) < 18 by decide)]
          show ER st p q (w : Int) (a + 1) s u ((f_Sn_readPlain m (some 1015) s2).bind fun p1 => (if p1.1 = 0 ∨ p1.1 = 1 then some (p1.1, p1.2) else none)) _
          apply ER_01
          have ep : f_Sn_partOf m (some 1015) s2 = some (3, s2) := by rw [f_Sn_partOf_eq]; rfl
          have eh : f_Sn_howOf m (some 1015) s2 = some (0, s2) := by rw [f_Sn_howOf_eq]; rfl
          rw [f_Sn_readPlain_eq, ep, Option.bind_some, if_pos rfl, eh, Option.bind_some, show w32 (50 + ((14 : Nat) : Int)) = 64 from rfl]
          obtain ⟨s3, u3, y1, y2, y3, y4, y5, y6, st3, p3, q3, y7⟩ := E_plain (m := m) g2 hs2 p40 q20 hw2 3 0 0 64 0 0 0 (by
            intro P S V A st' e1 e2 e3 e4 e5 e6 e7 e8 e9 e10 e11
            right; right; left
            exact ⟨e1, by omega, by omega, by omega, e11⟩)
          rw [y1, Option.bind_some, y2, Option.bind_some]
          dsimp only
          rw [if_pos (Or.inr rfl), y6, w32_in (by omega) (by omega), show (w : Int) + 1 - 1 = (w : Int) from by omega]
          exact ⟨1, s3, _, rfl, rfl, KC_trans kc2 y3, KR_trans kr2 (KR_trans y4 (KR_f (by omega))), Or.inl ⟨rfl, TokG_f y5 (by omega), wI_at, st3, p3, q3, SQ_f y7.1 (by omega), y7.2.1, y7.2.2.1, y7.2.2.2.1, y7.2.2.2.2.1, by rw [wI_f (by decide)]; exact y7.2.2.2.2.2.1, y7.2.2.2.2.2.2.1, y7.2.2.2.2.2.2.2⟩⟩
        · subst c
          rw [show ((cpw 15 : Nat) : Int) = 16 from rfl, if_neg (show ¬ ((15 : Nat) : Int) = 13 by decide), if_pos (show ((15 : Nat) : Int) < 18 by decide)]
          show ER st p q (w : Int) (a + 1) s u ((f_Sn_readPlain m (some 1016) s2).bind fun p1 => (if p1.1 = 0 ∨ p1.1 = 1 then some (p1.1, p1.2) else none)) _
          apply ER_01
          have ep : f_Sn_partOf m (some 1016) s2 = some (3, s2) := by rw [f_Sn_partOf_eq]; rfl
          have eh : f_Sn_howOf m (some 1016) s2 = some (1, s2) := by rw [f_Sn_howOf_eq]; rfl
          rw [f_Sn_readPlain_eq, ep, Option.bind_some, if_pos rfl, eh, Option.bind_some, show w32 (50 + ((15 : Nat) : Int)) = 65 from rfl]
          obtain ⟨s3, u3, y1, y2, y3, y4, y5, y6, st3, p3, q3, y7⟩ := E_plain (m := m) g2 hs2 p40 q20 hw2 3 0 1 65 0 0 0 (by
            intro P S V A st' e1 e2 e3 e4 e5 e6 e7 e8 e9 e10 e11
            right; right; left
            exact ⟨e1, by omega, by omega, by omega, e11⟩)
          rw [y1, Option.bind_some, y2, Option.bind_some]
          dsimp only
          rw [if_pos (Or.inr rfl), y6, w32_in (by omega) (by omega), show (w : Int) + 1 - 1 = (w : Int) from by omega]
          exact ⟨1, s3, _, rfl, rfl, KC_trans kc2 y3, KR_trans kr2 (KR_trans y4 (KR_f (by omega))), Or.inl ⟨rfl, TokG_f y5 (by omega), wI_at, st3, p3, q3, SQ_f y7.1 (by omega), y7.2.1, y7.2.2.1, y7.2.2.2.1, y7.2.2.2.2.1, by rw [wI_f (by decide)]; exact y7.2.2.2.2.2.1, y7.2.2.2.2.2.2.1, y7.2.2.2.2.2.2.2⟩⟩
        · subst c
          rw [show ((cpw 16 : Nat) : Int) = 17 from rfl, if_neg (show ¬ ((16 : Nat) : Int) = 13 by decide), if_pos (show ((16 : Nat) : Int) < 18 by decide)]
          show ER st p q (w : Int) (a + 1) s u ((f_Sn_readPlain m (some 1017) s2).bind fun p1 => (if p1.1 = 0 ∨ p1.1 = 1 then some (p1.1, p1.2) else none)) _
          apply ER_01
          have ep : f_Sn_partOf m (some 1017) s2 = some (3, s2) := by rw [f_Sn_partOf_eq]; rfl
          have eh : f_Sn_howOf m (some 1017) s2 = some (2, s2) := by rw [f_Sn_howOf_eq]; rfl
          rw [f_Sn_readPlain_eq, ep, Option.bind_some, if_pos rfl, eh, Option.bind_some, show w32 (50 + ((16 : Nat) : Int)) = 66 from rfl]
          obtain ⟨s3, u3, y1, y2, y3, y4, y5, y6, st3, p3, q3, y7⟩ := E_plain (m := m) g2 hs2 p40 q20 hw2 3 0 2 66 0 0 0 (by
            intro P S V A st' e1 e2 e3 e4 e5 e6 e7 e8 e9 e10 e11
            right; right; left
            exact ⟨e1, by omega, by omega, by omega, e11⟩)
          rw [y1, Option.bind_some, y2, Option.bind_some]
          dsimp only
          rw [if_pos (Or.inr rfl), y6, w32_in (by omega) (by omega), show (w : Int) + 1 - 1 = (w : Int) from by omega]
          exact ⟨1, s3, _, rfl, rfl, KC_trans kc2 y3, KR_trans kr2 (KR_trans y4 (KR_f (by omega))), Or.inl ⟨rfl, TokG_f y5 (by omega), wI_at, st3, p3, q3, SQ_f y7.1 (by omega), y7.2.1, y7.2.2.1, y7.2.2.2.1, y7.2.2.2.2.1, by rw [wI_f (by decide)]; exact y7.2.2.2.2.2.1, y7.2.2.2.2.2.2.1, y7.2.2.2.2.2.2.2⟩⟩
        · subst c
          rw [show ((cpw 17 : Nat) : Int) = 18 from rfl, if_neg (show ¬ ((17 : Nat) : Int) = 13 by decide), if_pos (show ((17 : Nat) : Int) < 18 by decide)]
          show ER st p q (w : Int) (a + 1) s u ((f_Sn_readPlain m (some 1018) s2).bind fun p1 => (if p1.1 = 0 ∨ p1.1 = 1 then some (p1.1, p1.2) else none)) _
          apply ER_01
          have ep : f_Sn_partOf m (some 1018) s2 = some (3, s2) := by rw [f_Sn_partOf_eq]; rfl
          have eh : f_Sn_howOf m (some 1018) s2 = some (3, s2) := by rw [f_Sn_howOf_eq]; rfl
          rw [f_Sn_readPlain_eq, ep, Option.bind_some, if_pos rfl, eh, Option.bind_some, show w32 (50 + ((17 : Nat) : Int)) = 67 from rfl]
          obtain ⟨s3, u3, y1, y2, y3, y4, y5, y6, st3, p3, q3, y7⟩ := E_plain (m := m) g2 hs2 p40 q20 hw2 3 0 3 67 0 0 0 (by
            intro P S V A st' e1 e2 e3 e4 e5 e6 e7 e8 e9 e10 e11
            right; right; left
            exact ⟨e1, by omega, by omega, by omega, e11⟩)
          rw [y1, Option.bind_some, y2, Option.bind_some]
          dsimp only
          rw [if_pos (Or.inr rfl), y6, w32_in (by omega) (by omega), show (w : Int) + 1 - 1 = (w : Int) from by omega]
          exact ⟨1, s3, _, rfl, rfl, KC_trans kc2 y3, KR_trans kr2 (KR_trans y4 (KR_f (by omega))), Or.inl ⟨rfl, TokG_f y5 (by omega), wI_at, st3, p3, q3, SQ_f y7.1 (by omega), y7.2.1, y7.2.2.1, y7.2.2.2.1, y7.2.2.2.2.1, by rw [wI_f (by decide)]; exact y7.2.2.2.2.2.1, y7.2.2.2.2.2.2.1, y7.2.2.2.2.2.2.2⟩⟩
        · subst c
          rw [show ((cpw 18 : Nat) : Int) = 19 from rfl, if_neg (show ¬ ((18 : Nat) : Int) = 13 by decide), if_neg (show ¬ ((18 : Nat) : Int) < 18 by decide), if_pos (show ((18 : Nat) : Int) < 20 by decide)]
          show ER st p q (w : Int) (a + 1) s u ((f_Sn_readPlain m (some 1019) s2).bind fun p1 => (if p1.1 = 0 ∨ p1.1 = 1 then some (p1.1, p1.2) else none)) _
          apply ER_01
          have ep : f_Sn_partOf m (some 1019) s2 = some (4, s2) := by rw [f_Sn_partOf_eq]; rfl
          obtain ⟨m0, hm0⟩ : ∃ m0, m = m0 + 1 := ⟨m - 1, by omega⟩
          have LL : ∀ (x : Int) (t : mS), l_Sn_readPlain_L35 m m x t = l_Sn_readPlain_L35 m (m0 + 1) x t := fun x t => by rw [← hm0]
          rw [f_Sn_readPlain_eq, ep, Option.bind_some]
          dsimp only
          rw [if_neg (show ¬ (4 : Int) = 3 by decide), if_pos rfl, LL, l_Sn_readPlain_L35_eq, if_pos rfl, f_R_readOf_eq, f_R_readThat_eq, if_pos (show ((18 : Nat) : Int) = 18 from rfl)]
          rcases T_box hm g2 hs2.1 with ⟨j, s3, u3, jl, q7, q8, q9, q10, q11, q12⟩ | ⟨s3, u3, q7, q8, q9, q10, q11⟩
          rotate_left
          · rw [q7, q8]
            exact ⟨0, s3, _, rfl, rfl, KC_trans kc2 (KC_of q10), KR_trans kr2 (KR_trans (KR_of q11) (KR_f (by omega))), Or.inr ⟨rfl, Flt_f q9 (by omega)⟩⟩
          rw [q7, Option.bind_some, q8, Option.bind_some]
          dsimp only
          rw [if_neg (show ¬ ((j : Nat) : Int) = -1 by omega), if_pos (Or.inr rfl), Option.bind_some]
          dsimp only
          rw [if_neg (show ¬ (1 : Int) = 0 by decide), q9, show w32 (50 + ((18 : Nat) : Int)) = 68 from rfl]
          have A3 : u3.1 251 = u2.1 251 := q12.1 251 (by decide)
          obtain ⟨s4, u4, y1, y2, y3, y4, y5, y6, st3, p3, q3, y7⟩ := E_plain (m := m) q10 (SQ_keep hs2 q11 q12) p40 q20 (w := w) (by rw [q12.2.2 44 (by omega)]; exact hw2) 4 0 (j : Int) 68 (j : Int) 0 0 (by
            intro P S V A st' e1 e2 e3 e4 e5 e6 e7 e8 e9 e10 e11
            right; right; right; left
            exact ⟨e1, by omega, by rw [e3, e4, A3]; exact jl, e6, by rw [e7, e3], e11⟩)
          rw [y1, Option.bind_some, y2, Option.bind_some, Option.bind_some]
          dsimp only
          rw [if_neg (show ¬ (1 : Int) = 0 by decide), if_pos (Or.inr rfl), y6, w32_in (by omega) (by omega), show (w : Int) + 1 - 1 = (w : Int) from by omega]
          exact ⟨1, s4, _, rfl, rfl, KC_trans kc2 (KC_trans (KC_of q11) y3), KR_trans kr2 (KR_trans (KR_of q12) (KR_trans y4 (KR_f (by omega)))), Or.inl ⟨rfl, TokG_mono (TokG_f y5 (by omega)) (by omega) (by omega), wI_at, st3, p3, q3, SQ_f y7.1 (by omega), y7.2.1, y7.2.2.1, y7.2.2.2.1, y7.2.2.2.2.1, by rw [wI_f (by decide)]; exact y7.2.2.2.2.2.1, y7.2.2.2.2.2.2.1, y7.2.2.2.2.2.2.2⟩⟩
        · subst c
          rw [show ((cpw 19 : Nat) : Int) = 3 from rfl, if_neg (show ¬ ((19 : Nat) : Int) = 13 by decide), if_neg (show ¬ ((19 : Nat) : Int) < 18 by decide), if_pos (show ((19 : Nat) : Int) < 20 by decide)]
          show ER st p q (w : Int) (a + 1) s u ((f_Sn_readPlain m (some 1003) s2).bind fun p1 => (if p1.1 = 0 ∨ p1.1 = 1 then some (p1.1, p1.2) else none)) _
          apply ER_01
          have ep : f_Sn_partOf m (some 1003) s2 = some (5, s2) := by rw [f_Sn_partOf_eq]; rfl
          obtain ⟨m0, hm0⟩ : ∃ m0, m = m0 + 1 := ⟨m - 1, by omega⟩
          have LL : ∀ (x : Int) (t : mS), l_Sn_readPlain_L35 m m x t = l_Sn_readPlain_L35 m (m0 + 1) x t := fun x t => by rw [← hm0]
          rw [f_Sn_readPlain_eq, ep, Option.bind_some]
          dsimp only
          rw [if_neg (show ¬ (5 : Int) = 3 by decide), if_neg (show ¬ (5 : Int) = 4 by decide), if_pos rfl, LL, l_Sn_readPlain_L35_eq, if_neg (show ¬ (5 : Int) = 4 by decide), f_R_readOf_eq, f_R_readThat_eq, if_neg (show ¬ ((19 : Nat) : Int) = 18 by decide)]
          rcases T_dead hm g2 hs2.1 with ⟨j, s3, u3, jl, q7, q8, q9, q10, q11, q12⟩ | ⟨s3, u3, q7, q8, q9, q10, q11⟩
          rotate_left
          · rw [q7, q8]
            exact ⟨0, s3, _, rfl, rfl, KC_trans kc2 (KC_of q10), KR_trans kr2 (KR_trans (KR_of q11) (KR_f (by omega))), Or.inr ⟨rfl, Flt_f q9 (by omega)⟩⟩
          rw [q7, Option.bind_some, q8, Option.bind_some]
          dsimp only
          rw [if_neg (show ¬ ((j : Nat) : Int) = -1 by omega), if_pos (Or.inr rfl), Option.bind_some]
          dsimp only
          rw [if_neg (show ¬ (1 : Int) = 0 by decide), q9, show w32 (50 + ((19 : Nat) : Int)) = 69 from rfl]
          have A3 : u3.1 251 = u2.1 251 := q12.1 251 (by decide)
          obtain ⟨s4, u4, y1, y2, y3, y4, y5, y6, st3, p3, q3, y7⟩ := E_plain (m := m) q10 (SQ_keep hs2 q11 q12) p40 q20 (w := w) (by rw [q12.2.2 44 (by omega)]; exact hw2) 5 0 (j : Int) 69 (j : Int) 0 0 (by
            intro P S V A st' e1 e2 e3 e4 e5 e6 e7 e8 e9 e10 e11
            right; right; right; right; left
            exact ⟨e1, by omega, by rw [e3, e5, A3]; exact jl, e6, by rw [e7, e3], e11⟩)
          rw [y1, Option.bind_some, y2, Option.bind_some, Option.bind_some]
          dsimp only
          rw [if_neg (show ¬ (1 : Int) = 0 by decide), if_pos (Or.inr rfl), y6, w32_in (by omega) (by omega), show (w : Int) + 1 - 1 = (w : Int) from by omega]
          exact ⟨1, s4, _, rfl, rfl, KC_trans kc2 (KC_trans (KC_of q11) y3), KR_trans kr2 (KR_trans (KR_of q12) (KR_trans y4 (KR_f (by omega)))), Or.inl ⟨rfl, TokG_mono (TokG_f y5 (by omega)) (by omega) (by omega), wI_at, st3, p3, q3, SQ_f y7.1 (by omega), y7.2.1, y7.2.2.1, y7.2.2.2.1, y7.2.2.2.2.1, by rw [wI_f (by decide)]; exact y7.2.2.2.2.2.1, y7.2.2.2.2.2.2.1, y7.2.2.2.2.2.2.2⟩⟩
        · subst c
          rw [show ((cpw 20 : Nat) : Int) = 20 from rfl, if_neg (show ¬ ((20 : Nat) : Int) = 13 by decide), if_neg (show ¬ ((20 : Nat) : Int) < 18 by decide), if_neg (show ¬ ((20 : Nat) : Int) < 20 by decide)]
          show ER st p q (w : Int) (a + 1) s u ((f_Sn_readPlain m (some 1020) s2).bind fun p1 => (if p1.1 = 0 ∨ p1.1 = 1 then some (p1.1, p1.2) else none)) _
          apply ER_01
          have ep : f_Sn_partOf m (some 1020) s2 = some (6, s2) := by rw [f_Sn_partOf_eq]; rfl
          rw [f_Sn_readPlain_eq, ep, Option.bind_some]
          dsimp only
          rw [if_neg (show ¬ (6 : Int) = 3 by decide), if_neg (show ¬ (6 : Int) = 4 by decide), if_neg (show ¬ (6 : Int) = 5 by decide), f_R_readCompare_eq, R_isSign g2.1 (c := 60) (by omega), Option.bind_some]
          dsimp only
          have cmp : ∀ (v : Int), s2.1 1 2 = v → (v = 60 ∨ v = 61 ∨ v = 62) → u2.1 249 9 = v → ER st p q (w : Int) (a + 1) s u ((f_Tp_advance m s2).bind fun p1 => ((f_Tp_takeNumber m 0 999 p1.2).bind fun p2 => (if p2.1 = (-1) then (some (0, p2.2)) else ((f_Sn_put m 6 (s2.1 1 2) p2.1 p2.2).bind fun p3 => (if p3.1 = 0 then (some (0, p3.2)) else (some (1, p3.2))))))) (((f_R_go m u2).bind fun p1 => ((f_R_readNumber m 0 999 p1.2).bind fun p2 => (if p2.1 = 0 then (some (0, p2.2)) else ((f_R_saysOne m (w32 (50 + ((20 : Nat) : Int))) 0 (p2.2.1 249 13) (u2.1 249 9) p2.2).bind fun p3 => (some (1, wI p3.2 249 45 p3.1)))))).bind fun p1 => (if p1.1 = 0 ∨ p1.1 = 1 then some (p1.1, wI p1.2 249 44 (w32 ((p1.2.1 249 44) - 1))) else none)) := by
            intro v hv hv3 hu9
            obtain ⟨s3, u3, r1, r2, r3, r4, r5, _⟩ := T_adv hm g2 (by omega) (by omega)
            rw [r1, Option.bind_some, r2, Option.bind_some]
            dsimp only
            rcases T_num hm r3 0 999 with ⟨x, s4, u4, b1, b1', b1'', _, q7, q8, q9, q10, q11, q12⟩ | ⟨s4, u4, q7, q8, q9, q10, q11⟩
            rotate_left
            · rw [q7, q8]
              exact ⟨0, s4, _, rfl, rfl, KC_trans kc2 (KC_trans (KC_of r4) (KC_of q10)), KR_trans kr2 (KR_trans (KR_of r5) (KR_trans (KR_of q11) (KR_f (by omega)))), Or.inr ⟨rfl, Flt_f q9 (by omega)⟩⟩
            rw [q7, Option.bind_some, q8, Option.bind_some]
            dsimp only
            rw [if_neg (show ¬ x = -1 by omega), if_neg (show ¬ (1 : Int) = 0 by decide), q9, show w32 (50 + ((20 : Nat) : Int)) = 70 from rfl, hv, hu9]
            obtain ⟨s5, u5, y1, y2, y3, y4, y5, y6, st3, p3, q3, y7⟩ := E_plain (m := m) q10 (SQ_keep (SQ_keep hs2 r4 r5) q11 q12) p40 q20 (w := w) (by rw [q12.2.2 44 (by omega), r5.2.2 44 (by omega)]; exact hw2) 6 v x 70 0 x v (by
              intro P S V A st' e1 e2 e3 e4 e5 e6 e7 e8 e9 e10 e11
              right; right; right; right; right
              exact ⟨by omega, by omega, by omega, by rw [e8, e3], by rw [e9, e2], by omega, by omega, by omega, e11⟩)
            rw [y1, Option.bind_some, y2, Option.bind_some, Option.bind_some]
            dsimp only
            rw [if_neg (show ¬ (1 : Int) = 0 by decide), if_pos (Or.inr rfl), y6, w32_in (by omega) (by omega), show (w : Int) + 1 - 1 = (w : Int) from by omega]
            exact ⟨1, s5, _, rfl, rfl, KC_trans kc2 (KC_trans (KC_of r4) (KC_trans (KC_of q11) y3)), KR_trans kr2 (KR_trans (KR_of r5) (KR_trans (KR_of q12) (KR_trans y4 (KR_f (by omega))))), Or.inl ⟨rfl, TokG_mono (TokG_f y5 (by omega)) (by omega) (by omega), wI_at, st3, p3, q3, SQ_f y7.1 (by omega), y7.2.1, y7.2.2.1, y7.2.2.2.1, y7.2.2.2.2.1, by rw [wI_f (by decide)]; exact y7.2.2.2.2.2.1, y7.2.2.2.2.2.2.1, y7.2.2.2.2.2.2.2⟩⟩
          have sg9 : ∀ v : Int, (v = 60 ∨ v = 61 ∨ v = 62) → s2.1 1 2 = v → u2.1 249 9 = v := by
            intro v hv he
            rcases g2.1.2.1 with q | q | ⟨_, _, q⟩ | q | q
            · omega
            · omega
            · rw [q] at he; split at he <;> omega
            · omega
            · omega
          by_cases c60 : s2.1 1 2 = 60
          · rw [if_pos c60, if_pos c60, if_neg (show ¬ (1 : Int) = 0 by decide)]
            exact cmp 60 c60 (by omega) (sg9 60 (by omega) c60)
          · rw [if_neg c60, if_neg c60, if_pos rfl, R_isSign g2.1 (c := 61) (by omega), Option.bind_some]
            dsimp only
            by_cases c61 : s2.1 1 2 = 61
            · rw [if_pos c61, if_pos c61, if_neg (show ¬ (1 : Int) = 0 by decide)]
              exact cmp 61 c61 (by omega) (sg9 61 (by omega) c61)
            · rw [if_neg c61, if_neg c61, if_pos rfl, R_isSign g2.1 (c := 62) (by omega), Option.bind_some]
              dsimp only
              by_cases c62 : s2.1 1 2 = 62
              · rw [if_pos c62, if_pos c62, if_neg (show ¬ (1 : Int) = 0 by decide)]
                exact cmp 62 c62 (by omega) (sg9 62 (by omega) c62)
              · rw [if_neg c62, if_neg c62, if_pos rfl]
                obtain ⟨s3, u3, r1, r2, r3, r4, r5⟩ := T_fail m g2.1 (kc := 1) (kr := 1) (by split <;> rfl) (by decide)
                rw [r1, r2]
                exact ⟨0, s3, _, rfl, rfl, KC_trans kc2 (KC_of r4), KR_trans kr2 (KR_trans (KR_of r5) (KR_f (by omega))), Or.inr ⟨rfl, Flt_f r3 (by omega)⟩⟩
        · subst c
          rw [show ((cpw 21 : Nat) : Int) = 21 from rfl, if_neg (show ¬ ((21 : Nat) : Int) = 13 by decide), if_neg (show ¬ ((21 : Nat) : Int) < 18 by decide), if_neg (show ¬ ((21 : Nat) : Int) < 20 by decide)]
          show ER st p q (w : Int) (a + 1) s u ((f_Sn_readPlain m (some 1021) s2).bind fun p1 => (if p1.1 = 0 ∨ p1.1 = 1 then some (p1.1, p1.2) else none)) _
          apply ER_01
          have ep : f_Sn_partOf m (some 1021) s2 = some (7, s2) := by rw [f_Sn_partOf_eq]; rfl
          rw [f_Sn_readPlain_eq, ep, Option.bind_some]
          dsimp only
          rw [if_neg (show ¬ (7 : Int) = 3 by decide), if_neg (show ¬ (7 : Int) = 4 by decide), if_neg (show ¬ (7 : Int) = 5 by decide), f_R_readCompare_eq, R_isSign g2.1 (c := 60) (by omega), Option.bind_some]
          dsimp only
          have cmp : ∀ (v : Int), s2.1 1 2 = v → (v = 60 ∨ v = 61 ∨ v = 62) → u2.1 249 9 = v → ER st p q (w : Int) (a + 1) s u ((f_Tp_advance m s2).bind fun p1 => ((f_Tp_takeNumber m 0 999 p1.2).bind fun p2 => (if p2.1 = (-1) then (some (0, p2.2)) else ((f_Sn_put m 7 (s2.1 1 2) p2.1 p2.2).bind fun p3 => (if p3.1 = 0 then (some (0, p3.2)) else (some (1, p3.2))))))) (((f_R_go m u2).bind fun p1 => ((f_R_readNumber m 0 999 p1.2).bind fun p2 => (if p2.1 = 0 then (some (0, p2.2)) else ((f_R_saysOne m (w32 (50 + ((21 : Nat) : Int))) 0 (p2.2.1 249 13) (u2.1 249 9) p2.2).bind fun p3 => (some (1, wI p3.2 249 45 p3.1)))))).bind fun p1 => (if p1.1 = 0 ∨ p1.1 = 1 then some (p1.1, wI p1.2 249 44 (w32 ((p1.2.1 249 44) - 1))) else none)) := by
            intro v hv hv3 hu9
            obtain ⟨s3, u3, r1, r2, r3, r4, r5, _⟩ := T_adv hm g2 (by omega) (by omega)
            rw [r1, Option.bind_some, r2, Option.bind_some]
            dsimp only
            rcases T_num hm r3 0 999 with ⟨x, s4, u4, b1, b1', b1'', _, q7, q8, q9, q10, q11, q12⟩ | ⟨s4, u4, q7, q8, q9, q10, q11⟩
            rotate_left
            · rw [q7, q8]
              exact ⟨0, s4, _, rfl, rfl, KC_trans kc2 (KC_trans (KC_of r4) (KC_of q10)), KR_trans kr2 (KR_trans (KR_of r5) (KR_trans (KR_of q11) (KR_f (by omega)))), Or.inr ⟨rfl, Flt_f q9 (by omega)⟩⟩
            rw [q7, Option.bind_some, q8, Option.bind_some]
            dsimp only
            rw [if_neg (show ¬ x = -1 by omega), if_neg (show ¬ (1 : Int) = 0 by decide), q9, show w32 (50 + ((21 : Nat) : Int)) = 71 from rfl, hv, hu9]
            obtain ⟨s5, u5, y1, y2, y3, y4, y5, y6, st3, p3, q3, y7⟩ := E_plain (m := m) q10 (SQ_keep (SQ_keep hs2 r4 r5) q11 q12) p40 q20 (w := w) (by rw [q12.2.2 44 (by omega), r5.2.2 44 (by omega)]; exact hw2) 7 v x 71 0 x v (by
              intro P S V A st' e1 e2 e3 e4 e5 e6 e7 e8 e9 e10 e11
              right; right; right; right; right
              exact ⟨by omega, by omega, by omega, by rw [e8, e3], by rw [e9, e2], by omega, by omega, by omega, e11⟩)
            rw [y1, Option.bind_some, y2, Option.bind_some, Option.bind_some]
            dsimp only
            rw [if_neg (show ¬ (1 : Int) = 0 by decide), if_pos (Or.inr rfl), y6, w32_in (by omega) (by omega), show (w : Int) + 1 - 1 = (w : Int) from by omega]
            exact ⟨1, s5, _, rfl, rfl, KC_trans kc2 (KC_trans (KC_of r4) (KC_trans (KC_of q11) y3)), KR_trans kr2 (KR_trans (KR_of r5) (KR_trans (KR_of q12) (KR_trans y4 (KR_f (by omega))))), Or.inl ⟨rfl, TokG_mono (TokG_f y5 (by omega)) (by omega) (by omega), wI_at, st3, p3, q3, SQ_f y7.1 (by omega), y7.2.1, y7.2.2.1, y7.2.2.2.1, y7.2.2.2.2.1, by rw [wI_f (by decide)]; exact y7.2.2.2.2.2.1, y7.2.2.2.2.2.2.1, y7.2.2.2.2.2.2.2⟩⟩
          have sg9 : ∀ v : Int, (v = 60 ∨ v = 61 ∨ v = 62) → s2.1 1 2 = v → u2.1 249 9 = v := by
            intro v hv he
            rcases g2.1.2.1 with q | q | ⟨_, _, q⟩ | q | q
            · omega
            · omega
            · rw [q] at he; split at he <;> omega
            · omega
            · omega
          by_cases c60 : s2.1 1 2 = 60
          · rw [if_pos c60, if_pos c60, if_neg (show ¬ (1 : Int) = 0 by decide)]
            exact cmp 60 c60 (by omega) (sg9 60 (by omega) c60)
          · rw [if_neg c60, if_neg c60, if_pos rfl, R_isSign g2.1 (c := 61) (by omega), Option.bind_some]
            dsimp only
            by_cases c61 : s2.1 1 2 = 61
            · rw [if_pos c61, if_pos c61, if_neg (show ¬ (1 : Int) = 0 by decide)]
              exact cmp 61 c61 (by omega) (sg9 61 (by omega) c61)
            · rw [if_neg c61, if_neg c61, if_pos rfl, R_isSign g2.1 (c := 62) (by omega), Option.bind_some]
              dsimp only
              by_cases c62 : s2.1 1 2 = 62
              · rw [if_pos c62, if_pos c62, if_neg (show ¬ (1 : Int) = 0 by decide)]
                exact cmp 62 c62 (by omega) (sg9 62 (by omega) c62)
              · rw [if_neg c62, if_neg c62, if_pos rfl]
                obtain ⟨s3, u3, r1, r2, r3, r4, r5⟩ := T_fail m g2.1 (kc := 1) (kr := 1) (by split <;> rfl) (by decide)
                rw [r1, r2]
                exact ⟨0, s3, _, rfl, rfl, KC_trans kc2 (KC_of r4), KR_trans kr2 (KR_trans (KR_of r5) (KR_f (by omega))), Or.inr ⟨rfl, Flt_f r3 (by omega)⟩⟩
        · subst c
          rw [show ((cpw 22 : Nat) : Int) = 22 from rfl, if_neg (show ¬ ((22 : Nat) : Int) = 13 by decide), if_neg (show ¬ ((22 : Nat) : Int) < 18 by decide), if_neg (show ¬ ((22 : Nat) : Int) < 20 by decide)]
          show ER st p q (w : Int) (a + 1) s u ((f_Sn_readPlain m (some 1022) s2).bind fun p1 => (if p1.1 = 0 ∨ p1.1 = 1 then some (p1.1, p1.2) else none)) _
          apply ER_01
          have ep : f_Sn_partOf m (some 1022) s2 = some (8, s2) := by rw [f_Sn_partOf_eq]; rfl
          rw [f_Sn_readPlain_eq, ep, Option.bind_some]
          dsimp only
          rw [if_neg (show ¬ (8 : Int) = 3 by decide), if_neg (show ¬ (8 : Int) = 4 by decide), if_neg (show ¬ (8 : Int) = 5 by decide), f_R_readCompare_eq, R_isSign g2.1 (c := 60) (by omega), Option.bind_some]
          dsimp only
          have cmp : ∀ (v : Int), s2.1 1 2 = v → (v = 60 ∨ v = 61 ∨ v = 62) → u2.1 249 9 = v → ER st p q (w : Int) (a + 1) s u ((f_Tp_advance m s2).bind fun p1 => ((f_Tp_takeNumber m 0 999 p1.2).bind fun p2 => (if p2.1 = (-1) then (some (0, p2.2)) else ((f_Sn_put m 8 (s2.1 1 2) p2.1 p2.2).bind fun p3 => (if p3.1 = 0 then (some (0, p3.2)) else (some (1, p3.2))))))) (((f_R_go m u2).bind fun p1 => ((f_R_readNumber m 0 999 p1.2).bind fun p2 => (if p2.1 = 0 then (some (0, p2.2)) else ((f_R_saysOne m (w32 (50 + ((22 : Nat) : Int))) 0 (p2.2.1 249 13) (u2.1 249 9) p2.2).bind fun p3 => (some (1, wI p3.2 249 45 p3.1)))))).bind fun p1 => (if p1.1 = 0 ∨ p1.1 = 1 then some (p1.1, wI p1.2 249 44 (w32 ((p1.2.1 249 44) - 1))) else none)) := by
            intro v hv hv3 hu9
            obtain ⟨s3, u3, r1, r2, r3, r4, r5, _⟩ := T_adv hm g2 (by omega) (by omega)
            rw [r1, Option.bind_some, r2, Option.bind_some]
            dsimp only
            rcases T_num hm r3 0 999 with ⟨x, s4, u4, b1, b1', b1'', _, q7, q8, q9, q10, q11, q12⟩ | ⟨s4, u4, q7, q8, q9, q10, q11⟩
            rotate_left
            · rw [q7, q8]
              exact ⟨0, s4, _, rfl, rfl, KC_trans kc2 (KC_trans (KC_of r4) (KC_of q10)), KR_trans kr2 (KR_trans (KR_of r5) (KR_trans (KR_of q11) (KR_f (by omega)))), Or.inr ⟨rfl, Flt_f q9 (by omega)⟩⟩
            rw [q7, Option.bind_some, q8, Option.bind_some]
            dsimp only
            rw [if_neg (show ¬ x = -1 by omega), if_neg (show ¬ (1 : Int) = 0 by decide), q9, show w32 (50 + ((22 : Nat) : Int)) = 72 from rfl, hv, hu9]
            obtain ⟨s5, u5, y1, y2, y3, y4, y5, y6, st3, p3, q3, y7⟩ := E_plain (m := m) q10 (SQ_keep (SQ_keep hs2 r4 r5) q11 q12) p40 q20 (w := w) (by rw [q12.2.2 44 (by omega), r5.2.2 44 (by omega)]; exact hw2) 8 v x 72 0 x v (by
              intro P S V A st' e1 e2 e3 e4 e5 e6 e7 e8 e9 e10 e11
              right; right; right; right; right
              exact ⟨by omega, by omega, by omega, by rw [e8, e3], by rw [e9, e2], by omega, by omega, by omega, e11⟩)
            rw [y1, Option.bind_some, y2, Option.bind_some, Option.bind_some]
            dsimp only
            rw [if_neg (show ¬ (1 : Int) = 0 by decide), if_pos (Or.inr rfl), y6, w32_in (by omega) (by omega), show (w : Int) + 1 - 1 = (w : Int) from by omega]
            exact ⟨1, s5, _, rfl, rfl, KC_trans kc2 (KC_trans (KC_of r4) (KC_trans (KC_of q11) y3)), KR_trans kr2 (KR_trans (KR_of r5) (KR_trans (KR_of q12) (KR_trans y4 (KR_f (by omega))))), Or.inl ⟨rfl, TokG_mono (TokG_f y5 (by omega)) (by omega) (by omega), wI_at, st3, p3, q3, SQ_f y7.1 (by omega), y7.2.1, y7.2.2.1, y7.2.2.2.1, y7.2.2.2.2.1, by rw [wI_f (by decide)]; exact y7.2.2.2.2.2.1, y7.2.2.2.2.2.2.1, y7.2.2.2.2.2.2.2⟩⟩
          have sg9 : ∀ v : Int, (v = 60 ∨ v = 61 ∨ v = 62) → s2.1 1 2 = v → u2.1 249 9 = v := by
            intro v hv he
            rcases g2.1.2.1 with q | q | ⟨_, _, q⟩ | q | q
            · omega
            · omega
            · rw [q] at he; split at he <;> omega
            · omega
            · omega
          by_cases c60 : s2.1 1 2 = 60
          · rw [if_pos c60, if_pos c60, if_neg (show ¬ (1 : Int) = 0 by decide)]
            exact cmp 60 c60 (by omega) (sg9 60 (by omega) c60)
          · rw [if_neg c60, if_neg c60, if_pos rfl, R_isSign g2.1 (c := 61) (by omega), Option.bind_some]
            dsimp only
            by_cases c61 : s2.1 1 2 = 61
            · rw [if_pos c61, if_pos c61, if_neg (show ¬ (1 : Int) = 0 by decide)]
              exact cmp 61 c61 (by omega) (sg9 61 (by omega) c61)
            · rw [if_neg c61, if_neg c61, if_pos rfl, R_isSign g2.1 (c := 62) (by omega), Option.bind_some]
              dsimp only
              by_cases c62 : s2.1 1 2 = 62
              · rw [if_pos c62, if_pos c62, if_neg (show ¬ (1 : Int) = 0 by decide)]
                exact cmp 62 c62 (by omega) (sg9 62 (by omega) c62)
              · rw [if_neg c62, if_neg c62, if_pos rfl]
                obtain ⟨s3, u3, r1, r2, r3, r4, r5⟩ := T_fail m g2.1 (kc := 1) (kr := 1) (by split <;> rfl) (by decide)
                rw [r1, r2]
                exact ⟨0, s3, _, rfl, rfl, KC_trans kc2 (KC_of r4), KR_trans kr2 (KR_trans (KR_of r5) (KR_f (by omega))), Or.inr ⟨rfl, Flt_f r3 (by omega)⟩⟩
        · subst c
          rw [show ((cpw 23 : Nat) : Int) = 23 from rfl, if_neg (show ¬ ((23 : Nat) : Int) = 13 by decide), if_neg (show ¬ ((23 : Nat) : Int) < 18 by decide), if_neg (show ¬ ((23 : Nat) : Int) < 20 by decide)]
          show ER st p q (w : Int) (a + 1) s u ((f_Sn_readPlain m (some 1023) s2).bind fun p1 => (if p1.1 = 0 ∨ p1.1 = 1 then some (p1.1, p1.2) else none)) _
          apply ER_01
          have ep : f_Sn_partOf m (some 1023) s2 = some (9, s2) := by rw [f_Sn_partOf_eq]; rfl
          rw [f_Sn_readPlain_eq, ep, Option.bind_some]
          dsimp only
          rw [if_neg (show ¬ (9 : Int) = 3 by decide), if_neg (show ¬ (9 : Int) = 4 by decide), if_neg (show ¬ (9 : Int) = 5 by decide), f_R_readCompare_eq, R_isSign g2.1 (c := 60) (by omega), Option.bind_some]
          dsimp only
          have cmp : ∀ (v : Int), s2.1 1 2 = v → (v = 60 ∨ v = 61 ∨ v = 62) → u2.1 249 9 = v → ER st p q (w : Int) (a + 1) s u ((f_Tp_advance m s2).bind fun p1 => ((f_Tp_takeNumber m 0 999 p1.2).bind fun p2 => (if p2.1 = (-1) then (some (0, p2.2)) else ((f_Sn_put m 9 (s2.1 1 2) p2.1 p2.2).bind fun p3 => (if p3.1 = 0 then (some (0, p3.2)) else (some (1, p3.2))))))) (((f_R_go m u2).bind fun p1 => ((f_R_readNumber m 0 999 p1.2).bind fun p2 => (if p2.1 = 0 then (some (0, p2.2)) else ((f_R_saysOne m (w32 (50 + ((23 : Nat) : Int))) 0 (p2.2.1 249 13) (u2.1 249 9) p2.2).bind fun p3 => (some (1, wI p3.2 249 45 p3.1)))))).bind fun p1 => (if p1.1 = 0 ∨ p1.1 = 1 then some (p1.1, wI p1.2 249 44 (w32 ((p1.2.1 249 44) - 1))) else none)) := by
            intro v hv hv3 hu9
            obtain ⟨s3, u3, r1, r2, r3, r4, r5, _⟩ := T_adv hm g2 (by omega) (by omega)
            rw [r1, Option.bind_some, r2, Option.bind_some]
            dsimp only
            rcases T_num hm r3 0 999 with ⟨x, s4, u4, b1, b1', b1'', _, q7, q8, q9, q10, q11, q12⟩ | ⟨s4, u4, q7, q8, q9, q10, q11⟩
            rotate_left
            · rw [q7, q8]
              exact ⟨0, s4, _, rfl, rfl, KC_trans kc2 (KC_trans (KC_of r4) (KC_of q10)), KR_trans kr2 (KR_trans (KR_of r5) (KR_trans (KR_of q11) (KR_f (by omega)))), Or.inr ⟨rfl, Flt_f q9 (by omega)⟩⟩
            rw [q7, Option.bind_some, q8, Option.bind_some]
            dsimp only
            rw [if_neg (show ¬ x = -1 by omega), if_neg (show ¬ (1 : Int) = 0 by decide), q9, show w32 (50 + ((23 : Nat) : Int)) = 73 from rfl, hv, hu9]
            obtain ⟨s5, u5, y1, y2, y3, y4, y5, y6, st3, p3, q3, y7⟩ := E_plain (m := m) q10 (SQ_keep (SQ_keep hs2 r4 r5) q11 q12) p40 q20 (w := w) (by rw [q12.2.2 44 (by omega), r5.2.2 44 (by omega)]; exact hw2) 9 v x 73 0 x v (by
              intro P S V A st' e1 e2 e3 e4 e5 e6 e7 e8 e9 e10 e11
              right; right; right; right; right
              exact ⟨by omega, by omega, by omega, by rw [e8, e3], by rw [e9, e2], by omega, by omega, by omega, e11⟩)
            rw [y1, Option.bind_some, y2, Option.bind_some, Option.bind_some]
            dsimp only
            rw [if_neg (show ¬ (1 : Int) = 0 by decide), if_pos (Or.inr rfl), y6, w32_in (by omega) (by omega), show (w : Int) + 1 - 1 = (w : Int) from by omega]
            exact ⟨1, s5, _, rfl, rfl, KC_trans kc2 (KC_trans (KC_of r4) (KC_trans (KC_of q11) y3)), KR_trans kr2 (KR_trans (KR_of r5) (KR_trans (KR_of q12) (KR_trans y4 (KR_f (by omega))))), Or.inl ⟨rfl, TokG_mono (TokG_f y5 (by omega)) (by omega) (by omega), wI_at, st3, p3, q3, SQ_f y7.1 (by omega), y7.2.1, y7.2.2.1, y7.2.2.2.1, y7.2.2.2.2.1, by rw [wI_f (by decide)]; exact y7.2.2.2.2.2.1, y7.2.2.2.2.2.2.1, y7.2.2.2.2.2.2.2⟩⟩
          have sg9 : ∀ v : Int, (v = 60 ∨ v = 61 ∨ v = 62) → s2.1 1 2 = v → u2.1 249 9 = v := by
            intro v hv he
            rcases g2.1.2.1 with q | q | ⟨_, _, q⟩ | q | q
            · omega
            · omega
            · rw [q] at he; split at he <;> omega
            · omega
            · omega
          by_cases c60 : s2.1 1 2 = 60
          · rw [if_pos c60, if_pos c60, if_neg (show ¬ (1 : Int) = 0 by decide)]
            exact cmp 60 c60 (by omega) (sg9 60 (by omega) c60)
          · rw [if_neg c60, if_neg c60, if_pos rfl, R_isSign g2.1 (c := 61) (by omega), Option.bind_some]
            dsimp only
            by_cases c61 : s2.1 1 2 = 61
            · rw [if_pos c61, if_pos c61, if_neg (show ¬ (1 : Int) = 0 by decide)]
              exact cmp 61 c61 (by omega) (sg9 61 (by omega) c61)
            · rw [if_neg c61, if_neg c61, if_pos rfl, R_isSign g2.1 (c := 62) (by omega), Option.bind_some]
              dsimp only
              by_cases c62 : s2.1 1 2 = 62
              · rw [if_pos c62, if_pos c62, if_neg (show ¬ (1 : Int) = 0 by decide)]
                exact cmp 62 c62 (by omega) (sg9 62 (by omega) c62)
              · rw [if_neg c62, if_neg c62, if_pos rfl]
                obtain ⟨s3, u3, r1, r2, r3, r4, r5⟩ := T_fail m g2.1 (kc := 1) (kr := 1) (by split <;> rfl) (by decide)
                rw [r1, r2]
                exact ⟨0, s3, _, rfl, rfl, KC_trans kc2 (KC_of r4), KR_trans kr2 (KR_trans (KR_of r5) (KR_f (by omega))), Or.inr ⟨rfl, Flt_f r3 (by omega)⟩⟩
  exact ⟨core 0 (Or.inl rfl), fun h H1 H2 => core (h + 1) (Or.inr ⟨h, rfl, H1, H2⟩)⟩
theorem E_all {m : Nat} (hm : 10000 ≤ m) : ∀ h, EOne m h ∧ ECond m h
  | 0 => ⟨(E_one0 hm).1, or_of hm (and_of hm (E_one0 hm).1)⟩
  | h + 1 => by
    obtain ⟨h1, h2⟩ := E_all hm h
    have := (E_one0 hm).2 h h1 h2
    exact ⟨this, or_of hm (and_of hm this)⟩
