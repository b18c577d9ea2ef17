/-! ===== layer 3: tokenizer (6): one token, class and reference ===== -/
def TokE (s u : mS) : Prop := s.1 1 8 = u.1 249 3 ∧ 0 ≤ s.1 1 8 ∧ s.1 1 8 ≤ 940 ∧ s.1 1 9 = u.1 249 4 ∧ 0 ≤ s.1 1 9 ∧ s.1 1 9 ≤ 940 ∧ ∀ k : Nat, k < 940 → -128 ≤ s.1 2 k ∧ s.1 2 k < 128 ∧ u.1 250 k = s.1 2 k % 256
def TokK (s u : mS) : Prop :=
  (s.1 1 2 = 0 ∧ u.1 249 7 = 0 ∧ s.1 1 3 = -1) ∨ (s.1 1 2 = 1 ∧ u.1 249 7 = 1 ∧ s.1 1 3 = -1) ∨
  (u.1 249 7 = 2 ∧ (∃ ws, WW ws ∧ s.2 1 4 = ((E256 ws : Nat) : Int) ∧ u.2 249 12 = ((E27 ws : Nat) : Int) ∧ s.1 1 3 = wix ((E256 ws : Nat) : Int)) ∧ s.1 1 2 = (if s.1 1 3 < 0 then 3 else 2)) ∨
  (s.1 1 2 = 4 ∧ u.1 249 7 = 3 ∧ s.1 1 3 = -1 ∧ s.1 1 5 = u.1 249 8 ∧ 0 ≤ s.1 1 5 ∧ s.1 1 5 ≤ 999) ∨
  (u.1 249 7 = 4 ∧ s.1 1 3 = -1 ∧ s.1 1 2 = u.1 249 9 ∧ (s.1 1 2 = 59 ∨ s.1 1 2 = 60 ∨ s.1 1 2 = 61 ∨ s.1 1 2 = 62 ∨ s.1 1 2 = 40 ∨ s.1 1 2 = 41))
def TokA (s u : mS) : Prop := s.1 1 10 = u.1 249 6 ∧ 0 ≤ s.1 1 10 ∧ s.1 1 10 ≤ 940 ∧ (s.1 1 2 ≠ 1 → s.1 1 11 = u.1 249 5 ∧ 0 ≤ s.1 1 11 ∧ s.1 1 11 ≤ s.1 1 8)
def TokR (s u : mS) : Prop := TokE s u ∧ TokK s u ∧ TokA s u
theorem enc_w {w : Int} (h : w = -1 ∨ (0 ≤ w ∧ w < 24)) : decW (encW w) = w ∧ wOk (encW w) = true ∧ (encW w = none ↔ w < 0) := by
  rcases h with h | h
  · subst h; exact ⟨rfl, rfl, by decide⟩
  · obtain ⟨j, rfl⟩ : ∃ j : Nat, w = (j : Int) := ⟨w.toNat, by omega⟩
    have e : encW (j : Int) = some (1000 + j) := by unfold encW; rw [if_neg (by omega)]; rfl
    rw [e]
    refine ⟨by unfold decW; dsimp only; omega, ?_, ?_⟩
    · have : ∀ k, k < 24 → wOk (some (1000 + k)) = true := by decide
      exact this j (by omega)
    · constructor
      · intro h; cases h
      · intro h; omega
theorem wix_rng (x : Int) : wix x = -1 ∨ (0 ≤ wix x ∧ wix x < 24) := by
  rcases wix_val x with ⟨h, _⟩ | ⟨j, h1, h2, _⟩
  · exact Or.inl h
  · right; omega
theorem T_tok {m : Nat} (hm : 100 ≤ m) {e p0 N f : Nat} {B : Nat → Int} {x2 x3 y2 y3 : Int} {s u : mS} (hN : 1 ≤ N) (hs : CI B e p0 N x2 x3 s) (hu : RI B e p0 N y2 y3 u) (h3 : s.1 1 3 = -1) :
    ∃ s', l_Tp_advance_L239 m (f + 1) x2 x3 s = some (0, s') ∧ TokK s' (wI u 249 7 (gkd B p0 N)) ∧ TFr s s' ∧ s'.1 1 10 = (p0 : Int) ∧ s'.1 1 11 = ((p0 + N : Nat) : Int) := by
  obtain ⟨g1, g2, g3, g4, g5, g6, g7, g8, g9⟩ := hs
  obtain ⟨q1, q2, q3, q4, q5, q6, q7, q8, q9⟩ := hu
  have cl := clt_le B p0 N
  have bad : ∀ t : mS, t = wI s 1 2 1 → gkd B p0 N = 1 → TokK t (wI u 249 7 (gkd B p0 N)) ∧ TFr s t ∧ t.1 1 10 = (p0 : Int) ∧ t.1 1 11 = ((p0 + N : Nat) : Int) := by
    intro t ht hg
    subst ht
    refine ⟨Or.inr (Or.inl ⟨wI_at, by rw [wI_at]; exact hg, by rw [wI_f (by decide)]; exact h3⟩), TFr_w (by omega), by rw [wI_f (by decide)]; exact g2, by rw [wI_f (by decide)]; exact g3⟩
  rw [l_Tp_advance_L239_eq, if_neg (show ¬ s.1 1 11 = s.1 1 10 from by omega)]
  by_cases cN : clt B p0 N = N
  · have L : isLt (B p0) := by have := clt_full B p0 N cN 0 (by omega); rw [Nat.add_zero] at this; exact this
    rw [if_pos (show x3 = 0 from by omega)]
    by_cases c7 : 7 < N
    · rw [if_pos (show 7 < x2 from by omega), if_neg (show ¬ x2 = 0 from by omega)]
      have hg : gkd B p0 N = 1 := by unfold gkd; rw [if_pos L, if_pos cN, if_pos L, if_pos c7]
      exact ⟨_, rfl, bad _ rfl hg⟩
    · have hg : gkd B p0 N = 2 := by unfold gkd; rw [if_pos L, if_pos cN, if_pos L, if_neg c7]
      have W : WW (wsl B p0 N) := ⟨by rw [wsl_len]; exact hN, by rw [wsl_len]; omega, wsl_mem B p0 N (clt_full B p0 N cN)⟩
      have e4 := g8 (by omega) cN
      have e12 := q8 (by omega) cN
      have rg := wix_rng ((E256 (wsl B p0 N) : Nat) : Int)
      obtain ⟨w1, w2, w3⟩ := enc_w rg
      rw [if_neg (show ¬ 7 < x2 from by omega), e4, C_Wo hm, Option.bind_some]
      dsimp only
      rw [w1, w2, wI_at]
      show ∃ s', (if encW (wix ((E256 (wsl B p0 N) : Nat) : Int)) = none then some (0, wI (wI s 1 3 (wix ((E256 (wsl B p0 N) : Nat) : Int))) 1 2 3) else some (0, wI (wI s 1 3 (wix ((E256 (wsl B p0 N) : Nat) : Int))) 1 2 2)) = some (0, s') ∧ _
      generalize hw : wix ((E256 (wsl B p0 N) : Nat) : Int) = w at w3
      have fin : ∀ K : Int, K = (if w < 0 then 3 else 2) → TokK (wI (wI s 1 3 w) 1 2 K) (wI u 249 7 (gkd B p0 N)) ∧ TFr s (wI (wI s 1 3 w) 1 2 K) ∧ (wI (wI s 1 3 w) 1 2 K).1 1 10 = (p0 : Int) ∧ (wI (wI s 1 3 w) 1 2 K).1 1 11 = ((p0 + N : Nat) : Int) := by
        intro K hK
        refine ⟨Or.inr (Or.inr (Or.inl ⟨by rw [wI_at]; exact hg, ⟨wsl B p0 N, W, e4, e12, by rw [wI_f (by decide), wI_at]; exact hw.symm⟩, by rw [wI_at, wI_f (by decide), wI_at]; exact hK⟩)), TFr_trans (TFr_w (by omega)) (TFr_w (by omega)), by rw [wI_f (by decide), wI_f (by decide)]; exact g2, by rw [wI_f (by decide), wI_f (by decide)]; exact g3⟩
      by_cases cw : w < 0
      · rw [if_pos (w3.mpr cw)]
        exact ⟨_, rfl, fin 3 (by rw [if_pos cw])⟩
      · rw [if_neg (fun h => cw (w3.mp h))]
        exact ⟨_, rfl, fin 2 (by rw [if_neg cw])⟩
  · rw [if_neg (show ¬ x3 = 0 from by omega)]
    by_cases c0 : clt B p0 N = 0
    · have L : ¬ isLt (B p0) := by have := clt_zero B p0 N c0 0 (by omega); rw [Nat.add_zero] at this; exact this
      rw [if_pos (show x2 = 0 from by omega)]
      by_cases c3 : 3 < N
      · have hg : gkd B p0 N = 1 := by unfold gkd; rw [if_neg L, if_pos c0, if_neg L, if_pos c3]
        rw [if_pos (show 3 < x3 from by omega)]
        exact ⟨_, rfl, bad _ rfl hg⟩
      · have hg : gkd B p0 N = 3 := by unfold gkd; rw [if_neg L, if_pos c0, if_neg L, if_neg c3]
        have e5 := g9 (by omega) c0
        have e8 := q9 (by omega) c0
        have bd := nvl_999 B p0 (n := N) (by omega) (dig_of g7 c0)
        rw [if_neg (show ¬ 3 < x3 from by omega)]
        refine ⟨_, rfl, Or.inr (Or.inr (Or.inr (Or.inl ⟨wI_at, by rw [wI_at]; exact hg, by rw [wI_f (by decide)]; exact h3, by rw [wI_f (by decide), wI_f (by decide), e5, e8], by rw [wI_f (by decide), e5]; exact bd.1, by rw [wI_f (by decide), e5]; exact bd.2⟩))), TFr_w (by omega), by rw [wI_f (by decide)]; exact g2, by rw [wI_f (by decide)]; exact g3⟩
    · have hg : gkd B p0 N = 1 := by
        unfold gkd
        by_cases L : isLt (B p0)
        · rw [if_pos L, if_neg cN]
        · rw [if_neg L, if_neg c0]
      rw [if_neg (show ¬ x2 = 0 from by omega)]
      exact ⟨_, rfl, bad _ rfl hg⟩
/-- no letter, no digit: a sign, or none of these -/
theorem T_sign {m : Nat} {e p0 f : Nat} {B : Nat → Int} {x2 x3 : Int} {s u : mS} (hB : ∀ k, k < 940 → -128 ≤ B k ∧ B k < 128) (he : e ≤ 940) (hp : p0 < e) (hs : CI B e p0 0 x2 x3 s) (h3 : s.1 1 3 = -1) (hc : ¬ isAl (B p0))
    (u3 : u.1 249 3 = (e : Int)) (u5 : u.1 249 5 = (p0 : Int)) (uB : ∀ k, k < 940 → u.1 250 k = B k % 256) (g : Nat) :
    ∃ s' u', l_Tp_advance_L239 m (f + 1) x2 x3 s = some (0, s') ∧ l_R_go_L96 m (g + 1) u = some (0, u') ∧ TokK s' u' ∧ TFr s s' ∧ RFr u u' ∧ s'.1 1 10 = (p0 : Int) ∧ s'.1 1 11 = ((p0 + 1 : Nat) : Int) ∧ u'.1 249 5 = ((p0 + 1 : Nat) : Int) ∧ u'.1 249 6 = u.1 249 6 := by
  obtain ⟨g1, g2, g3, g4, g5, g6, g7, g8, g9⟩ := hs
  have hb := hB p0 (by omega)
  have eu : u.1 250 p0 = B p0 % 256 := uB p0 (by omega)
  have es : s.1 2 p0 = B p0 := by rw [g4]
  have p10 : (s.1 1 10).toNat = p0 := by omega
  have p5 : (u.1 249 5).toNat = p0 := by omega
  have hc' := hc
  unfold isAl at hc'
  -- the class
  have sg : ∀ K : Int, f_Tp_signOf m (B p0) s = some (K, s) → l_Tp_advance_L239 m (f + 1) x2 x3 s = some (0, wI (wI s 1 2 K) 1 11 ((p0 + 1 : Nat) : Int)) := by
    intro K hK
    have e11 : (wI s 1 2 K).1 1 11 = (p0 : Int) := by rw [wI_f (by decide), g3]; omega
    rw [l_Tp_advance_L239_eq, if_pos (by omega), inR_pos (by omega) (by omega), p10, es, hK, Option.bind_some]
    dsimp only
    rw [e11, w32_in (by omega) (by omega)]; rfl
  -- the reference
  have rf : l_R_go_L96 m (g + 1) u = some (0, wI (wI (wI u 249 7 (if B p0 = 59 ∨ B p0 = 60 ∨ B p0 = 61 ∨ B p0 = 62 ∨ B p0 = 40 ∨ B p0 = 41 then 4 else 1)) 249 9 (u.1 250 p0)) 249 5 ((p0 + 1 : Nat) : Int)) := by
    have e5 : ∀ K : Int, w32 (((wI (wI u 249 7 K) 249 9 (u.1 250 p0)).1 249 5) + 1) = ((p0 + 1 : Nat) : Int) := by
      intro K
      rw [wI_f (by decide), wI_f (by decide), u5, w32_in (by omega) (by omega)]; rfl
    rw [l_R_go_L96_eq, if_pos (by omega), inR_pos (by omega) (by omega), p5, R_isLt, Option.bind_some]
    dsimp only
    rw [if_neg (show ¬ isLt (u.1 250 p0) from by rw [eu, isLt_mod hb]; unfold isLt; omega), if_pos rfl, R_isDg, Option.bind_some]
    dsimp only
    rw [if_neg (show ¬ (48 ≤ u.1 250 p0 ∧ u.1 250 p0 ≤ 57) from by omega), if_pos rfl, e5, e5]
    clear sg e5
    by_cases c1 : B p0 = 59
    · rw [if_pos (by omega), if_pos (Or.inl c1)]
    · rw [if_neg (by omega)]
      by_cases c2 : B p0 = 60
      · rw [if_pos (by omega), if_pos (by omega)]
      · rw [if_neg (by omega)]
        by_cases c3 : B p0 = 61
        · rw [if_pos (by omega), if_pos (by omega)]
        · rw [if_neg (by omega)]
          by_cases c4 : B p0 = 62
          · rw [if_pos (by omega), if_pos (by omega)]
          · rw [if_neg (by omega)]
            by_cases c5 : B p0 = 40
            · rw [if_pos (by omega), if_pos (by omega)]
            · rw [if_neg (by omega)]
              by_cases c6 : B p0 = 41
              · rw [if_pos (by omega), if_pos (by omega)]
              · rw [if_neg (by omega), if_neg (by omega)]
  by_cases c : B p0 = 59 ∨ B p0 = 60 ∨ B p0 = 61 ∨ B p0 = 62 ∨ B p0 = 40 ∨ B p0 = 41
  · rw [if_pos c] at rf
    have hK : f_Tp_signOf m (B p0) s = some (B p0, s) := by
      rw [f_Tp_signOf_eq]
      repeat' split
      all_goals first
        | rfl
        | omega
    refine ⟨_, _, sg _ hK, rf, Or.inr (Or.inr (Or.inr (Or.inr ⟨by rw [wI_f (by decide), wI_f (by decide), wI_at], by rw [wI_f (by decide), wI_f (by decide)]; exact h3, ?_, ?_⟩))), TFr_trans (TFr_w (by omega)) (TFr_w (by omega)), RFr_trans (RFr_trans (RFr_w (by omega)) (RFr_w (by omega))) (RFr_w (by omega)), by rw [wI_f (by decide), wI_f (by decide)]; exact g2, wI_at, wI_at, by rw [wI_f (by decide), wI_f (by decide), wI_f (by decide)]⟩
    · rw [wI_f (by decide), wI_at, wI_f (by decide), wI_at, eu]; omega
    · rw [wI_f (by decide), wI_at]; exact c
  · rw [if_neg c] at rf
    have hK : f_Tp_signOf m (B p0) s = some (1, s) := by
      rw [f_Tp_signOf_eq, if_neg (by omega), if_neg (by omega), if_neg (by omega), if_neg (by omega), if_neg (by omega), if_neg (by omega)]
    refine ⟨_, _, sg _ hK, rf, Or.inr (Or.inl ⟨by rw [wI_f (by decide), wI_at], by rw [wI_f (by decide), wI_f (by decide), wI_at], by rw [wI_f (by decide), wI_f (by decide)]; exact h3⟩), TFr_trans (TFr_w (by omega)) (TFr_w (by omega)), RFr_trans (RFr_trans (RFr_w (by omega)) (RFr_w (by omega))) (RFr_w (by omega)), by rw [wI_f (by decide), wI_f (by decide)]; exact g2, wI_at, wI_at, by rw [wI_f (by decide), wI_f (by decide), wI_f (by decide)]⟩
/-- one token further -/
theorem T_go {m : Nat} (hm : 10000 ≤ m) {s u : mS} (hE : TokE s u) (h1 : s.1 1 11 = u.1 249 5) (h2 : 0 ≤ s.1 1 11) (h3 : s.1 1 11 ≤ s.1 1 8) :
    ∃ s' u', f_Tp_advance m s = some (0, s') ∧ f_R_go m u = some (0, u') ∧ TokR s' u' ∧ TFr s s' ∧ RFr u u' ∧ (s'.1 1 2 ≠ 0 → s'.1 1 2 ≠ 1 → s.1 1 11 < s'.1 1 11) := by
  obtain ⟨a1, a2, a3, a4, a5, a6, a7⟩ := hE
  obtain ⟨p, hp⟩ : ∃ p : Nat, s.1 1 11 = (p : Int) := ⟨(s.1 1 11).toNat, by omega⟩
  obtain ⟨e, he⟩ : ∃ e : Nat, s.1 1 8 = (e : Int) := ⟨(s.1 1 8).toNat, by omega⟩
  obtain ⟨l, hl⟩ : ∃ l : Nat, s.1 1 9 = (l : Int) := ⟨(s.1 1 9).toNat, by omega⟩
  have hB : ∀ k, k < 940 → -128 ≤ s.1 2 k ∧ s.1 2 k < 128 := fun k hk => ⟨(a7 k hk).1, (a7 k hk).2.1⟩
  have keepE : ∀ {t v : mS}, TFr s t → RFr u v → TokE t v := by
    intro t v ft fv
    refine ⟨by rw [ft.2.1 8 (by decide) (by decide) (by decide) (by decide) (by decide), fv.2.1 3 (by decide) (by decide) (by decide) (by decide) (by decide)]; exact a1, ?_, ?_, by rw [ft.2.1 9 (by decide) (by decide) (by decide) (by decide) (by decide), fv.2.1 4 (by decide) (by decide) (by decide) (by decide) (by decide)]; exact a4, ?_, ?_, fun k hk => ?_⟩
    · rw [ft.2.1 8 (by decide) (by decide) (by decide) (by decide) (by decide)]; exact a2
    · rw [ft.2.1 8 (by decide) (by decide) (by decide) (by decide) (by decide)]; exact a3
    · rw [ft.2.1 9 (by decide) (by decide) (by decide) (by decide) (by decide)]; exact a5
    · rw [ft.2.1 9 (by decide) (by decide) (by decide) (by decide) (by decide)]; exact a6
    · rw [ft.1 2 (by decide), fv.1 250 (by decide)]; exact a7 k hk
  have e8 : ∀ {t : mS}, TFr s t → t.1 1 8 = (e : Int) := fun ft => by rw [ft.2.1 8 (by decide) (by decide) (by decide) (by decide) (by decide)]; exact he
  obtain ⟨x1, hx⟩ : ∃ x1 : Nat, x1 = min e l := ⟨_, rfl⟩
  have hmin : f_Jm_min m (s.1 1 8) (s.1 1 9) s = some ((x1 : Int), s) := by
    rw [f_Jm_min_eq, he, hl]
    by_cases c : (l : Int) < (e : Int)
    · rw [if_pos c, show x1 = l from by omega]
    · rw [if_neg c, show x1 = e from by omega]
  have hC : f_Tp_advance m s = l_Tp_advance_L20 m m (x1 : Int) (wI s 1 10 (p : Int)) := by
    rw [f_Tp_advance_eq, hmin, Option.bind_some, hp]
  -- the reference skips
  obtain ⟨g, hg1, hg2⟩ := R_skip m e (s.1 2) hB (by omega) (e - p) (m + 1) p u (by omega) (by omega) (fun k hk => (a7 k hk).2.2) (by omega) (by omega)
  rw [← R_go0] at hg2
  obtain ⟨Q, hQ⟩ : ∃ Q, Q = skp (s.1 2) (e - p) p := ⟨_, rfl⟩
  have Qb := skp_ge (s.1 2) (e - p) p
  rw [← hQ] at hg2 Qb
  have k4 : (wI u 249 5 (Q : Int)).1 249 4 = (l : Int) := by rw [wI_f (by decide)]; omega
  have k3 : (wI u 249 5 (Q : Int)).1 249 3 = (e : Int) := by rw [wI_f (by decide)]; omega
  -- the class skips
  have hcs : ∃ n', 100 ≤ n' ∧ 3 * 940 ≤ n' ∧ f_Tp_advance m s = l_Tp_advance_L69 m n' (x1 : Int) (wI s 1 10 (if p ≤ x1 then ((min Q x1 : Nat) : Int) else (p : Int))) := by
    rw [hC]
    by_cases c : p ≤ x1
    · obtain ⟨n', r1, r2⟩ := C_skip m x1 (by omega) (x1 - p) m p (wI s 1 10 (p : Int)) wI_at (by omega) (by omega)
      have em : skp (s.1 2) (x1 - p) p = min Q x1 := by
        have := skp_min (s.1 2) (x1 - p) (e - p) p (by omega)
        rw [this, hQ]; omega
      refine ⟨n', by omega, by omega, ?_⟩
      rw [r2, wI_wI, wI_ne (by decide), em, if_pos c]
    · obtain ⟨n', rfl⟩ : ∃ n', m = n' + 1 := ⟨m - 1, by omega⟩
      refine ⟨n', by omega, by omega, ?_⟩
      rw [l_Tp_advance_L20_eq, wI_at, if_neg (by omega), if_neg c]
  obtain ⟨n', n1, n2, hcs⟩ := hcs
  obtain ⟨n'', rfl⟩ : ∃ n'', n' = n'' + 1 := ⟨n' - 1, by omega⟩
  by_cases cA : l < e ∧ l ≤ Q
  · -- behind 'most'
    have hx1 : x1 = l := by omega
    have hR : f_R_go m u = some (0, wI (wI (wI u 249 5 (Q : Int)) 249 6 (l : Int)) 249 7 1) := by
      rw [hg2]; unfold goK
      rw [wI_at, k4, k3, if_pos (by omega)]
    generalize hst : wI s 1 10 (if p ≤ x1 then ((min Q x1 : Nat) : Int) else (p : Int)) = t at hcs
    have ft : TFr s t := by rw [← hst]; exact TFr_w (by omega)
    have t10 : t.1 1 10 = (if p ≤ x1 then ((min Q x1 : Nat) : Int) else (p : Int)) := by rw [← hst, wI_at]
    have t10' : ¬ t.1 1 10 < (x1 : Int) := by
      rw [t10]; split <;> omega
    have hF : f_Tp_advance m s = some (0, wI (wI (wI (wI t 1 3 (-1)) 1 10 (x1 : Int)) 1 11 (x1 : Int)) 1 2 1) := by
      have e9 : (wI (wI (wI t 1 3 (-1)) 1 10 (x1 : Int)) 1 11 (x1 : Int)).1 1 9 = (l : Int) := by
        rw [wI_f (by decide), wI_f (by decide), wI_f (by decide), ft.2.1 9 (by decide) (by decide) (by decide) (by decide) (by decide)]; exact hl
      have e88 : (wI (wI (wI t 1 3 (-1)) 1 10 (x1 : Int)) 1 11 (x1 : Int)).1 1 8 = (e : Int) := by
        rw [wI_f (by decide), wI_f (by decide), wI_f (by decide)]; exact e8 ft
      rw [hcs, l_Tp_advance_L69_eq, wI_f (by decide), if_neg t10', e9, e88, if_pos (by omega)]
    have fs : TFr s (wI (wI (wI (wI t 1 3 (-1)) 1 10 (x1 : Int)) 1 11 (x1 : Int)) 1 2 1) := TFr_trans ft (TFr_trans (TFr_trans (TFr_trans (TFr_w (by omega)) (TFr_w (by omega))) (TFr_w (by omega))) (TFr_w (by omega)))
    have fu : RFr u (wI (wI (wI u 249 5 (Q : Int)) 249 6 (l : Int)) 249 7 1) := RFr_trans (RFr_trans (RFr_w (by omega)) (RFr_w (by omega))) (RFr_w (by omega))
    have s2 : (wI (wI (wI (wI t 1 3 (-1)) 1 10 (x1 : Int)) 1 11 (x1 : Int)) 1 2 1).1 1 2 = 1 := wI_at
    have s10 : (wI (wI (wI (wI t 1 3 (-1)) 1 10 (x1 : Int)) 1 11 (x1 : Int)) 1 2 1).1 1 10 = (x1 : Int) := by rw [wI_f (by decide), wI_f (by decide), wI_at]
    have u6 : (wI (wI (wI u 249 5 (Q : Int)) 249 6 (l : Int)) 249 7 1).1 249 6 = (l : Int) := by rw [wI_f (by decide), wI_at]
    refine ⟨_, _, hF, hR, ⟨keepE fs fu, Or.inr (Or.inl ⟨s2, wI_at, by rw [wI_f (by decide), wI_f (by decide), wI_f (by decide), wI_at]⟩), ?_⟩, fs, fu, fun _ h => absurd s2 h⟩
    exact ⟨by rw [s10, u6, hx1], by rw [s10]; omega, by rw [s10]; omega, fun h => absurd s2 h⟩
  · have hpx : p ≤ x1 := by omega
    have hq : min Q x1 = Q := by omega
    rw [if_pos hpx, hq] at hcs
    have hR0 : f_R_go m u = l_R_go_L96 m g (wI (wI u 249 5 (Q : Int)) 249 6 (Q : Int)) := by
      rw [hg2]; unfold goK
      rw [wI_at, k4, k3, if_neg (by omega)]
    obtain ⟨g', rfl⟩ : ∃ g', g = g' + 1 := ⟨g - 1, by omega⟩
    have v5 : (wI (wI u 249 5 (Q : Int)) 249 6 (Q : Int)).1 249 5 = (Q : Int) := by rw [wI_f (by decide), wI_at]
    have v6 : (wI (wI u 249 5 (Q : Int)) 249 6 (Q : Int)).1 249 6 = (Q : Int) := wI_at
    have v3 : (wI (wI u 249 5 (Q : Int)) 249 6 (Q : Int)).1 249 3 = (e : Int) := by rw [wI_f (by decide)]; exact k3
    have vB : ∀ k, k < 940 → (wI (wI u 249 5 (Q : Int)) 249 6 (Q : Int)).1 250 k = s.1 2 k % 256 := fun k hk => by rw [wI_ne (by decide), wI_ne (by decide)]; exact (a7 k hk).2.2
    have fv : RFr u (wI (wI u 249 5 (Q : Int)) 249 6 (Q : Int)) := RFr_trans (RFr_w (by omega)) (RFr_w (by omega))
    generalize wI (wI u 249 5 (Q : Int)) 249 6 (Q : Int) = v at hR0 v5 v6 v3 vB fv
    have t10 : (wI s 1 10 (Q : Int)).1 1 10 = (Q : Int) := wI_at
    have ft : TFr s (wI s 1 10 (Q : Int)) := TFr_w (by omega)
    generalize wI s 1 10 (Q : Int) = t at hcs t10 ft
    have t9 : t.1 1 9 = (l : Int) := by rw [ft.2.1 9 (by decide) (by decide) (by decide) (by decide) (by decide)]; exact hl
    by_cases cE : Q = e
    · -- the end
      have hF : f_Tp_advance m s = some (0, wI (wI (wI (wI t 1 3 (-1)) 1 10 (x1 : Int)) 1 11 (x1 : Int)) 1 2 0) := by
        have e9 : (wI (wI (wI t 1 3 (-1)) 1 10 (x1 : Int)) 1 11 (x1 : Int)).1 1 9 = (l : Int) := by
          rw [wI_f (by decide), wI_f (by decide), wI_f (by decide)]; exact t9
        have e88 : (wI (wI (wI t 1 3 (-1)) 1 10 (x1 : Int)) 1 11 (x1 : Int)).1 1 8 = (e : Int) := by
          rw [wI_f (by decide), wI_f (by decide), wI_f (by decide)]; exact e8 ft
        rw [hcs, l_Tp_advance_L69_eq, wI_f (by decide), if_neg (by omega), e9, e88, if_neg (by omega)]
      have hR : f_R_go m u = some (0, wI v 249 7 0) := by rw [hR0, l_R_go_L96_eq, if_neg (by omega)]
      have fs : TFr s (wI (wI (wI (wI t 1 3 (-1)) 1 10 (x1 : Int)) 1 11 (x1 : Int)) 1 2 0) := TFr_trans ft (TFr_trans (TFr_trans (TFr_trans (TFr_w (by omega)) (TFr_w (by omega))) (TFr_w (by omega))) (TFr_w (by omega)))
      have fu : RFr u (wI v 249 7 0) := RFr_trans fv (RFr_w (by omega))
      have s2 : (wI (wI (wI (wI t 1 3 (-1)) 1 10 (x1 : Int)) 1 11 (x1 : Int)) 1 2 0).1 1 2 = 0 := wI_at
      have s10 : (wI (wI (wI (wI t 1 3 (-1)) 1 10 (x1 : Int)) 1 11 (x1 : Int)) 1 2 0).1 1 10 = (x1 : Int) := by rw [wI_f (by decide), wI_f (by decide), wI_at]
      have s11 : (wI (wI (wI (wI t 1 3 (-1)) 1 10 (x1 : Int)) 1 11 (x1 : Int)) 1 2 0).1 1 11 = (x1 : Int) := by rw [wI_f (by decide), wI_at]
      have u6 : (wI v 249 7 0).1 249 6 = (Q : Int) := by rw [wI_f (by decide)]; exact v6
      have u5 : (wI v 249 7 0).1 249 5 = (Q : Int) := by rw [wI_f (by decide)]; exact v5
      refine ⟨_, _, hF, hR, ⟨keepE fs fu, Or.inl ⟨s2, wI_at, by rw [wI_f (by decide), wI_f (by decide), wI_f (by decide), wI_at]⟩, ?_⟩, fs, fu, fun h => absurd s2 h⟩
      exact ⟨by rw [s10, u6]; omega, by rw [s10]; omega, by rw [s10]; omega, fun _ => ⟨by rw [s11, u5]; omega, by rw [s11]; omega, by rw [s11, e8 fs]; omega⟩⟩
    · -- a token
      obtain ⟨s1, hs1⟩ : ∃ s1, s1 = wI (wI (wJ (wI t 1 3 (-1)) 1 4 0) 1 5 0) 1 11 (Q : Int) := ⟨_, rfl⟩
      have hF : f_Tp_advance m s = l_Tp_advance_L135 m n'' 0 0 s1 := by
        have e10 : (wI (wJ (wI t 1 3 (-1)) 1 4 0) 1 5 0).1 1 10 = (Q : Int) := by rw [wI_f (by decide), wJ_1, wI_f (by decide)]; exact t10
        rw [hcs, l_Tp_advance_L69_eq, wI_f (by decide), if_pos (by omega), e10, hs1]
      have f1 : TFr s s1 := by rw [hs1]; exact TFr_trans ft (TFr_trans (TFr_trans (TFr_trans (TFr_w (by omega)) TFr_j) (TFr_w (by omega))) (TFr_w (by omega)))
      have hI : CI (s.1 2) e Q 0 0 0 s1 := by
        refine ⟨e8 f1, by rw [hs1, wI_f (by decide), wI_f (by decide), wJ_1, wI_f (by decide)]; exact t10, by rw [hs1, wI_at]; rfl, f1.1 2 (by decide), rfl, rfl, fun k hk => by omega, fun _ _ => ?_, fun _ _ => ?_⟩
        · rw [hs1, wI_2, wI_2, wJ_at2]; rfl
        · rw [hs1, wI_f (by decide), wI_at]; rfl
      have s13 : s1.1 1 3 = -1 := by rw [hs1, wI_f (by decide), wI_f (by decide), wJ_1, wI_at]
      obtain ⟨f', y2, y3, s2, r1, r2, r3, r4, r5⟩ := C_run m e Q (s.1 2) (by omega) (e - Q) n'' 0 0 0 s1 hI (by omega) (by omega)
      rw [Nat.zero_add, Nat.add_zero] at r3
      obtain ⟨f'', rfl⟩ : ∃ f'', f' = f'' + 1 := ⟨f' - 1, by omega⟩
      have nb := rnp_le (s.1 2) (e - Q) Q
      by_cases cAl : isAl (s.1 2 Q)
      · have N1 : 1 ≤ rnp (s.1 2) (e - Q) Q := by
          obtain ⟨d, hd⟩ : ∃ d, e - Q = d + 1 := ⟨e - Q - 1, by omega⟩
          rw [hd, rnp, if_pos cAl]; omega
        have hvB := vB Q (by omega)
        have hRI : RI (s.1 2) e Q 0 (if isLt (s.1 2 Q) then 1 else 0) 1 (wI (wJ v 249 12 0) 249 8 0) := by
          refine ⟨by rw [wI_f (by decide), wJ_1]; exact v3, by rw [wI_f (by decide), wJ_1]; exact v6, by rw [wI_f (by decide), wJ_1]; exact v5, fun k hk => by rw [wI_ne (by decide), wJ_1]; exact vB k hk, rfl, ?_, fun k hk => by omega, fun _ _ => ?_, fun _ _ => ?_⟩
          · rw [show clt (s.1 2) Q 0 = 0 from rfl]; split <;> rfl
          · rw [wI_2, wJ_at2]; rfl
          · rw [wI_at]; rfl
        have hR1 : f_R_go m u = l_R_go_L215 m g' (if isLt (s.1 2 Q) then 1 else 0) 1 (wI (wJ v 249 12 0) 249 8 0) := by
          rw [hR0, l_R_go_L96_eq, if_pos (by omega), inR_pos (by omega) (by omega), show (v.1 249 5).toNat = Q from by omega, hvB, isAl_mod cAl, R_isLt, Option.bind_some]
          dsimp only
          by_cases cL : isLt (s.1 2 Q)
          · rw [if_pos cL, if_neg (by decide), R_isLt, Option.bind_some, if_pos cL]
          · unfold isAl at cAl
            have cL' := cL
            unfold isLt at cL'
            rw [if_neg cL, if_pos rfl, R_isDg, Option.bind_some]
            dsimp only
            rw [if_pos (show 48 ≤ s.1 2 Q ∧ s.1 2 Q ≤ 57 from by omega), if_neg (by decide), R_isLt, Option.bind_some, if_neg cL]
        obtain ⟨z3, u2, w1, w2, w3⟩ := R_run m e Q (s.1 2) hB (by omega) (e - Q) g' 0 _ 1 _ hRI (by omega) (by omega)
        rw [Nat.zero_add, Nat.add_zero] at w1 w2
        obtain ⟨s', t1, t2, t3, t4, t5⟩ := T_tok (m := m) (by omega) (f := f'') N1 r3 w2 (by rw [r5]; exact s13)
        have fs : TFr s s' := TFr_trans f1 (TFr_trans r4 t3)
        have fu : RFr u (wI u2 249 7 (gkd (s.1 2) Q (rnp (s.1 2) (e - Q) Q))) := RFr_trans fv (RFr_trans (RFr_trans (RFr_trans RFr_j (RFr_w (by omega))) w3) (RFr_w (by omega)))
        have x5 : (wI u2 249 7 (gkd (s.1 2) Q (rnp (s.1 2) (e - Q) Q))).1 249 5 = ((Q + rnp (s.1 2) (e - Q) Q : Nat) : Int) := by rw [wI_f (by decide)]; exact w2.2.2.1
        have x6 : (wI u2 249 7 (gkd (s.1 2) Q (rnp (s.1 2) (e - Q) Q))).1 249 6 = (Q : Int) := by rw [wI_f (by decide)]; exact w2.2.1
        refine ⟨s', _, by rw [hF, r1, t1], by rw [hR1, w1], ⟨keepE fs fu, t2, ?_⟩, fs, fu, fun _ _ => by rw [t5, hp]; omega⟩
        exact ⟨by rw [t4, x6], by rw [t4]; omega, by rw [t4]; omega, fun _ => ⟨by rw [t5, x5], by rw [t5]; omega, by rw [t5, e8 fs]; omega⟩⟩
      · have N0 : rnp (s.1 2) (e - Q) Q = 0 := by
          obtain ⟨d, hd⟩ : ∃ d, e - Q = d + 1 := ⟨e - Q - 1, by omega⟩
          rw [hd, rnp, if_neg cAl]
        rw [N0] at r3
        obtain ⟨s', u', t1, t2, t3, t4, t5, t6, t7, t8, t9'⟩ := T_sign (m := m) (f := f'') hB (by omega) (by omega) r3 (by rw [r5]; exact s13) cAl v3 v5 vB g'
        have fs : TFr s s' := TFr_trans f1 (TFr_trans r4 t4)
        have fu : RFr u u' := RFr_trans fv t5
        refine ⟨s', u', by rw [hF, r1, t1], by rw [hR0, t2], ⟨keepE fs fu, t3, ?_⟩, fs, fu, fun _ _ => by rw [t7, hp]; omega⟩
        exact ⟨by rw [t6, t9', v6], by rw [t6]; omega, by rw [t6]; omega, fun _ => ⟨by rw [t7, t8], by rw [t7]; omega, by rw [t7, e8 fs]; omega⟩⟩
