/-! ===== layer 3: sentence (1): parts put ===== -/
def NA (u : mS) : Row := fun k => if 226 ≤ k then u.1 268 (k - 226) else u.1 251 k
/-- a sentence that is being read: p parts, o ones -/
def SQ (st : Nat → Nat) (p o : Nat) (s u : mS) : Prop := RV s u ∧ s.1 232 1 = (p : Int) ∧ u.1 249 42 = (p : Int) ∧ s.1 232 0 = (o : Int) ∧ u.1 249 43 = (o : Int) ∧ ∀ i, i < p → PN (s.1 233) (s.1 234) (s.1 235) (NA u) st i
theorem PN_st {P S V A : Row} {st st' : Nat → Nat} {i : Nat} (h : PN P S V A st i) (e : ∀ j, j ≤ i → st' j = st j) : PN P S V A st' i := by
  unfold PN at h ⊢
  rw [e i (by omega), e (i - 1) (by omega)]
  rcases h with h | ⟨h1, h2, h3, h4, h5, h6, h7⟩ | h | h | h | h
  · exact Or.inl h
  · exact Or.inr (Or.inl ⟨h1, h2, h3, h4, h5, h6, by rw [e _ (by omega)]; exact h7⟩)
  · exact Or.inr (Or.inr (Or.inl h))
  · exact Or.inr (Or.inr (Or.inr (Or.inl h)))
  · exact Or.inr (Or.inr (Or.inr (Or.inr (Or.inl h))))
  · exact Or.inr (Or.inr (Or.inr (Or.inr (Or.inr h))))
theorem PN_al {P S V A P' S' V' A' : Row} {st : Nat → Nat} {i : Nat} (h : PN P S V A st i) (h1 : P' i = P i) (h2 : S' i = S i) (h3 : V' i = V i) (a0 : A' 0 = A 0) (a2 : A' 2 = A 2) (b0 : A' (226 + 4 * i) = A (226 + 4 * i)) (b1 : A' (227 + 4 * i) = A (227 + 4 * i)) (b2 : A' (228 + 4 * i) = A (228 + 4 * i)) (b3 : A' (229 + 4 * i) = A (229 + 4 * i)) : PN P' S' V' A' st i := by
  unfold PN; rw [h1, h2, h3, a0, a2, b0, b1, b2, b3]; exact h
theorem NA_n (u : mS) (i j : Nat) : NA u (226 + j + 4 * i) = u.1 268 (4 * i + j) := by unfold NA; rw [if_pos (by omega), show 226 + j + 4 * i - 226 = 4 * i + j from by omega]
theorem NA_0 (u : mS) (i : Nat) : NA u (226 + 4 * i) = u.1 268 (4 * i) := NA_n u i 0
theorem NA_1 (u : mS) (i : Nat) : NA u (227 + 4 * i) = u.1 268 (4 * i + 1) := NA_n u i 1
theorem NA_2 (u : mS) (i : Nat) : NA u (228 + 4 * i) = u.1 268 (4 * i + 2) := NA_n u i 2
theorem NA_3 (u : mS) (i : Nat) : NA u (229 + 4 * i) = u.1 268 (4 * i + 3) := NA_n u i 3
theorem NA_lo (u : mS) {k : Nat} (h : k < 226) : NA u k = u.1 251 k := by unfold NA; rw [if_neg (by omega)]
theorem SQ_cg {st : Nat → Nat} {p o : Nat} {s u s' u' : mS} (h : SQ st p o s u) (h1 : s'.1 4 = s.1 4) (h2 : ∀ c, 4 ≤ c → c ≤ 16 → s'.2 c = s.2 c) (h3 : s'.1 232 = s.1 232) (h4 : s'.1 233 = s.1 233) (h5 : s'.1 234 = s.1 234) (h6 : s'.1 235 = s.1 235) (g1 : u'.1 251 = u.1 251) (g2 : u'.2 257 = u.2 257) (g3 : u'.1 249 42 = u.1 249 42) (g4 : u'.1 249 43 = u.1 249 43) (g5 : u'.1 268 = u.1 268) : SQ st p o s' u' := by
  have eN : NA u' = NA u := by unfold NA; rw [g1, g5]
  unfold SQ
  rw [h3, h4, h5, h6, g3, g4, eN]
  exact ⟨RV_cg h.1 h1 h2 g1 g2, h.2⟩
theorem SQ_keep {st : Nat → Nat} {p o : Nat} {s u s' u' : mS} (h : SQ st p o s u) (hs : TF s s') (hu : RF u u') : SQ st p o s' u' :=
  SQ_cg h (hs.1 4 (by decide)) (fun c x y => hs.2.1 c (by omega)) (hs.1 232 (by decide)) (hs.1 233 (by decide)) (hs.1 234 (by decide)) (hs.1 235 (by decide)) (hu.1 251 (by decide)) (hu.2.1 257 (by decide)) (hu.2.2 42 (by omega)) (hu.2.2 43 (by omega)) (hu.1 268 (by decide))
/-- a part put, a node said -/
theorem Q_put {m : Nat} {st : Nat → Nat} {p o : Nat} {s u : mS} (h : SQ st p o s u) (hp : p < 40) (P0 S0 V0 a0 a1 a2 a3 : Int) (v : Nat)
    (hn : ∀ (P S V A : Row) (st' : Nat → Nat), P p = P0 → S p = S0 → V p = V0 → A 0 = u.1 251 0 → A 2 = u.1 251 2 → A (226 + 4 * p) = a0 → A (227 + 4 * p) = a1 → A (228 + 4 * p) = a2 → A (229 + 4 * p) = a3 → (∀ j, j < p → st' j = st j) → st' p = v → PN P S V A st' p) :
    ∃ s' u', f_Sn_put m P0 S0 V0 s = some (1, s') ∧ f_R_saysOne m a0 a1 a2 a3 u = some ((p : Int), u') ∧ SQ (fun j => if j = p then v else st j) (p + 1) o s' u' ∧ KC s s' ∧ KR u u' ∧ s'.1 1 = s.1 1 ∧ s'.1 2 = s.1 2 ∧ s'.2 = s.2 ∧ (∀ k, k ≠ 42 → u'.1 249 k = u.1 249 k) ∧ u'.1 250 = u.1 250 ∧ u'.2 = u.2 := by
  obtain ⟨h1, h2, h3, h4, h5, h6⟩ := h
  obtain ⟨S, hS⟩ : ∃ S, S = wI (wI (wI (wI s 233 p P0) 234 p S0) 235 p V0) 232 1 ((p : Int) + 1) := ⟨_, rfl⟩
  obtain ⟨U, hU⟩ : ∃ U, U = wI (wI (wI (wI (wI u 268 (4 * p) a0) 268 (4 * p + 1) a1) 268 (4 * p + 2) a2) 268 (4 * p + 3) a3) 249 42 ((p : Int) + 1) := ⟨_, rfl⟩
  have e1 : (wI s 233 p P0).1 232 1 = (p : Int) := by rw [wI_ne (by decide)]; exact h2
  have e2 : (wI (wI s 233 p P0) 234 p S0).1 232 1 = (p : Int) := by rw [wI_ne (by decide)]; exact e1
  have e3 : (wI (wI (wI s 233 p P0) 234 p S0) 235 p V0).1 232 1 = (p : Int) := by rw [wI_ne (by decide)]; exact e2
  have k1 : KC s S := by rw [hS]; exact KC_trans (KC_trans (KC_trans (KC_w (by omega) (by omega)) (KC_w (by omega) (by omega))) (KC_w (by omega) (by omega))) (KC_w (by omega) (by omega))
  have k2 : KR u U := by rw [hU]; exact KR_trans (KR_trans (KR_trans (KR_trans (KR_w (by omega)) (KR_w (by omega))) (KR_w (by omega))) (KR_w (by omega))) (KR_f (by omega))
  have f42 : ∀ k, k ≠ 42 → U.1 249 k = u.1 249 k := fun k hk => by rw [hU, wI_f hk, wI_ne (by decide), wI_ne (by decide), wI_ne (by decide), wI_ne (by decide)]
  refine ⟨S, U, ?_, ?_, ?_, k1, k2, ?_, ?_, ?_, f42, ?_, ?_⟩
  · rw [f_Sn_put_eq, h2, if_pos (by omega), inR_pos (by omega) (by omega), Int.toNat_natCast, e1, inR_pos (by omega) (by omega), Int.toNat_natCast, e2, inR_pos (by omega) (by omega), Int.toNat_natCast, e3, w32_in (by omega) (by omega), hS]
  · have x0 : w32 (4 * (p : Int)) = ((4 * p : Nat) : Int) := by rw [w32_in (by omega) (by omega)]; omega
    have ex : (wI (wI (wI (wI u 268 (4 * p) a0) 268 (4 * p + 1) a1) 268 (4 * p + 2) a2) 268 (4 * p + 3) a3).1 249 42 = (p : Int) := by rw [wI_ne (by decide), wI_ne (by decide), wI_ne (by decide), wI_ne (by decide)]; exact h3
    have eU : U.1 249 42 = (p : Int) + 1 := by rw [hU, wI_at]
    rw [f_R_saysOne_eq, h3, x0]
    clear x0
    have x0 : w32 (((4 * p : Nat) : Int) + 1) = ((4 * p + 1 : Nat) : Int) := by rw [w32_in (by omega) (by omega)]; omega
    rw [x0]
    clear x0
    have x0 : w32 (((4 * p : Nat) : Int) + 2) = ((4 * p + 2 : Nat) : Int) := by rw [w32_in (by omega) (by omega)]; omega
    rw [x0]
    clear x0
    have x0 : w32 (((4 * p : Nat) : Int) + 3) = ((4 * p + 3 : Nat) : Int) := by rw [w32_in (by omega) (by omega)]; omega
    rw [x0]
    clear x0
    rw [inR_pos (i := ((4 * p : Nat) : Int)) (by omega) (by omega), inR_pos (i := ((4 * p + 1 : Nat) : Int)) (by omega) (by omega), inR_pos (i := ((4 * p + 2 : Nat) : Int)) (by omega) (by omega), inR_pos (i := ((4 * p + 3 : Nat) : Int)) (by omega) (by omega), Int.toNat_natCast (4 * p), Int.toNat_natCast (4 * p + 1), Int.toNat_natCast (4 * p + 2), Int.toNat_natCast (4 * p + 3), ex, w32_in (x := (p : Int) + 1) (by omega) (by omega), ← hU, eU, w32_in (by omega) (by omega), show (p : Int) + 1 - 1 = (p : Int) from by omega]
  · have n0 : ∀ i, i < p → U.1 268 (4 * i) = u.1 268 (4 * i) ∧ U.1 268 (4 * i + 1) = u.1 268 (4 * i + 1) ∧ U.1 268 (4 * i + 2) = u.1 268 (4 * i + 2) ∧ U.1 268 (4 * i + 3) = u.1 268 (4 * i + 3) := by
      intro i hi
      rw [hU, wI_ne (by decide)]
      refine ⟨?_, ?_, ?_, ?_⟩ <;> rw [wI_f (by omega), wI_f (by omega), wI_f (by omega), wI_f (by omega)]
    have u251 : U.1 251 = u.1 251 := by rw [hU, wI_ne (by decide), wI_ne (by decide), wI_ne (by decide), wI_ne (by decide), wI_ne (by decide)]
    refine ⟨RV_keep h1 k1 k2, by rw [hS, wI_at]; omega, by rw [hU, wI_at]; omega, by rw [hS, wI_f (by decide), wI_ne (by decide), wI_ne (by decide), wI_ne (by decide)]; exact h4, by rw [f42 43 (by decide)]; exact h5, fun i hi => ?_⟩
    by_cases q : i = p
    · subst q
      refine hn _ _ _ _ _ ?_ ?_ ?_ ?_ ?_ ?_ ?_ ?_ ?_ (fun j hj => by rw [if_neg (by omega)]) (by rw [if_pos rfl])
      · rw [hS, wI_ne (by decide), wI_ne (by decide), wI_ne (by decide), wI_at]
      · rw [hS, wI_ne (by decide), wI_ne (by decide), wI_at]
      · rw [hS, wI_ne (by decide), wI_at]
      · rw [NA_lo _ (by omega), u251]
      · rw [NA_lo _ (by omega), u251]
      · rw [NA_0, hU, wI_ne (by decide), wI_f (by omega), wI_f (by omega), wI_f (by omega), wI_at]
      · rw [NA_1, hU, wI_ne (by decide), wI_f (by omega), wI_f (by omega), wI_at]
      · rw [NA_2, hU, wI_ne (by decide), wI_f (by omega), wI_at]
      · rw [NA_3, hU, wI_ne (by decide), wI_at]
    · have hip : i < p := by omega
      obtain ⟨m0, m1, m2, m3⟩ := n0 i hip
      have base := PN_st (st' := fun j => if j = p then v else st j) (h6 i hip) (fun j hj => by rw [if_neg (by omega)])
      refine PN_al base ?_ ?_ ?_ ?_ ?_ ?_ ?_ ?_ ?_
      · rw [hS, wI_ne (by decide), wI_ne (by decide), wI_ne (by decide), wI_f q]
      · rw [hS, wI_ne (by decide), wI_ne (by decide), wI_f q, wI_ne (by decide)]
      · rw [hS, wI_ne (by decide), wI_f q, wI_ne (by decide), wI_ne (by decide)]
      · rw [NA_lo _ (by omega), NA_lo _ (by omega), u251]
      · rw [NA_lo _ (by omega), NA_lo _ (by omega), u251]
      · rw [NA_0, NA_0, m0]
      · rw [NA_1, NA_1, m1]
      · rw [NA_2, NA_2, m2]
      · rw [NA_3, NA_3, m3]
  · rw [hS, wI_ne (by decide), wI_ne (by decide), wI_ne (by decide), wI_ne (by decide)]
  · rw [hS, wI_ne (by decide), wI_ne (by decide), wI_ne (by decide), wI_ne (by decide)]
  · rw [hS]; rfl
  · rw [hU, wI_ne (by decide), wI_ne (by decide), wI_ne (by decide), wI_ne (by decide), wI_ne (by decide)]
  · rw [hU]; rfl
/-- the word at hand, for the class -/
theorem encw_ref {s u : mS} (h : TokR s u) : refOk (encW (s.1 1 3)) = true := by
  rcases T_word h with q | ⟨w, w24, q, _⟩
  · rw [q]; rfl
  · rw [q]
    have : ∀ k : Nat, k < 24 → refOk (encW (k : Int)) = true := by decide
    exact this w w24
theorem encw_eq {s u : mS} (h : TokR s u) {k : Nat} : encW (s.1 1 3) = some (1000 + k) ↔ s.1 1 3 = (k : Int) := by
  rcases T_word h with q | ⟨w, w24, q, _⟩
  · rw [q]
    constructor
    · intro e; cases e
    · intro e; omega
  · have e : encW (w : Int) = some (1000 + w) := by unfold encW; rw [if_neg (by omega)]; rfl
    rw [q, e]
    constructor
    · intro e; have := Option.some.inj e; omega
    · intro e; rw [show w = k from by omega]
theorem C_isAnd (m : Nat) {s u : mS} (h : TokR s u) : f_Tp_isWord_1_1013 m s = some (if s.1 1 3 = 13 then 1 else 0, s) := by
  rw [f_Tp_isWord_1_1013_eq, encw_ref h]
  show (if (encW (s.1 1 3)) = (some 1013) then (some (1, s)) else (some (0, s))) = _
  have e := encw_eq h (k := 13)
  by_cases c : s.1 1 3 = 13
  · rw [if_pos (e.mpr c), if_pos c]
  · rw [if_neg (fun q => c (e.mp q)), if_neg c]
theorem C_isOr (m : Nat) {s u : mS} (h : TokR s u) : f_Tp_isWord_1_1012 m s = some (if s.1 1 3 = 12 then 1 else 0, s) := by
  rw [f_Tp_isWord_1_1012_eq, encw_ref h]
  show (if (encW (s.1 1 3)) = (some 1012) then (some (1, s)) else (some (0, s))) = _
  have e := encw_eq h (k := 12)
  by_cases c : s.1 1 3 = 12
  · rw [if_pos (e.mpr c), if_pos c]
  · rw [if_neg (fun q => c (e.mp q)), if_neg c]
theorem its {c : Prop} [Decidable c] (a b : Int) (s : mS) : (if c then some (a, s) else some (b, s)) = some ((if c then a else b), s) := by split <;> rfl
/-- a word may begin a one -/
def begW (w : Int) : Prop := w = 14 ∨ w = 15 ∨ w = 16 ∨ w = 17 ∨ w = 18 ∨ w = 19 ∨ w = 3 ∨ w = 20 ∨ w = 21 ∨ w = 22 ∨ w = 23
theorem C_begins (m : Nat) {s u : mS} (h : TokR s u) : ∃ r, f_Sn_beginsOne m (encW (s.1 1 3)) s = some (r, s) ∧ ((r = 0 ∧ ¬ begW (s.1 1 3)) ∨ (r = 1 ∧ begW (s.1 1 3))) := by
  rw [f_Sn_beginsOne_eq]
  rcases T_word h with q | ⟨w, w24, q, _⟩
  · rw [q, if_pos (show encW (-1) = none from rfl)]
    exact ⟨0, rfl, Or.inl ⟨rfl, by unfold begW; decide⟩⟩
  · have e : encW (w : Int) = some (1000 + w) := by unfold encW; rw [if_neg (by omega)]; rfl
    have g : gIn 1 (1000 + w) = true := by
      have : ∀ k, k < 24 → gIn 1 (1000 + k) = true := by decide
      exact this w w24
    have eo : f_Je_ordinal m (1000 + w) s = some ((w : Int), s) := by
      rw [f_Je_ordinal_eq, if_pos g]
      exact congrArg (fun z : Int => some (z, s)) (by omega)
    rw [q, e, if_neg (fun q => by cases q)]
    show ∃ r, (if gIn 1 (1000 + w) = true then ((f_Je_ordinal m (1000 + w) s).bind _) else none) = some (r, s) ∧ _
    rw [if_pos g, eo, Option.bind_some]
    dsimp only
    rw [inR_pos (by omega) (by omega), Int.toNat_natCast]
    have tb : ∀ k : Nat, k < 24 → ((if swM k = 4 then (1 : Int) else if swM k = 5 then 0 else if swM k = 6 then 0 else if swM k = 7 then 0 else if swM k = 8 then 0 else if swM k = 9 then 0 else if swM k = 10 then 0 else if swM k = 11 then 0 else if swM k = 12 then 0 else if swM k = 13 then 1 else if swM k = 14 then 1 else if swM k = 15 then 1 else if swM k = 16 then 1 else if swM k = 17 then 1 else if swM k = 18 then 1 else if swM k = 19 then 1 else if swM k = 20 then 1 else if swM k = 21 then 1 else if swM k = 22 then 1 else 0) = 0 ∧ ¬ (k = 14 ∨ k = 15 ∨ k = 16 ∨ k = 17 ∨ k = 18 ∨ k = 19 ∨ k = 3 ∨ k = 20 ∨ k = 21 ∨ k = 22 ∨ k = 23)) ∨ ((if swM k = 4 then (1 : Int) else if swM k = 5 then 0 else if swM k = 6 then 0 else if swM k = 7 then 0 else if swM k = 8 then 0 else if swM k = 9 then 0 else if swM k = 10 then 0 else if swM k = 11 then 0 else if swM k = 12 then 0 else if swM k = 13 then 1 else if swM k = 14 then 1 else if swM k = 15 then 1 else if swM k = 16 then 1 else if swM k = 17 then 1 else if swM k = 18 then 1 else if swM k = 19 then 1 else if swM k = 20 then 1 else if swM k = 21 then 1 else if swM k = 22 then 1 else 0) = 1 ∧ (k = 14 ∨ k = 15 ∨ k = 16 ∨ k = 17 ∨ k = 18 ∨ k = 19 ∨ k = 3 ∨ k = 20 ∨ k = 21 ∨ k = 22 ∨ k = 23)) := by decide
    simp only [its]
    refine ⟨_, rfl, ?_⟩
    unfold begW
    rcases tb w w24 with ⟨t1, t2⟩ | ⟨t1, t2⟩
    · exact Or.inl ⟨t1, by clear t1; omega⟩
    · exact Or.inr ⟨t1, by clear t1; omega⟩
/-- the reference looks for the word -/
theorem R_findW {m : Nat} (hm : 100 ≤ m) {s u : mS} (h : TokR s u) (d : Nat) (x1 : Int) : ∀ (e n x2 : Nat), x2 + e = 24 → e + 2 ≤ n → ∃ (K n' : Nat), x2 ≤ K ∧ K ≤ 24 ∧ (K < 24 → s.1 1 3 = (cpw K : Int)) ∧ (K = 24 → ∀ k, x2 ≤ k → k < 24 → s.1 1 3 ≠ (cpw k : Int)) ∧ n ≤ n' + e + 1 ∧
    l_R_readSaid_L10 m d n x1 (x2 : Int) u = (if x1 = 0 ∧ K = 24 then ((f_R_bad m 1 u).bind fun p0 => (if p0.1 = 0 ∨ p0.1 = 1 then some (p0.1, p0.2) else none)) else l_R_readSaid_L46 m d n' x1 (K : Int) u)
  | 0, n, x2, hx, hn => by
    obtain ⟨n, rfl⟩ : ∃ n0, n = n0 + 1 := ⟨n - 1, by omega⟩
    have ex : x2 = 24 := by omega
    subst ex
    refine ⟨24, n, by omega, by omega, fun q => by omega, fun _ k a b => by omega, by omega, ?_⟩
    rw [l_R_readSaid_L10_eq, if_pos (by decide)]
    by_cases c : x1 = 0
    · rw [if_pos c, if_pos (by decide), if_pos ⟨c, rfl⟩]
    · rw [if_neg c, if_neg (fun q => c q.1)]
  | e + 1, n, x2, hx, hn => by
    obtain ⟨n, rfl⟩ : ∃ n0, n = n0 + 1 := ⟨n - 1, by omega⟩
    have iw := R_isWord (m := m) (by omega) h (k := x2) (by omega)
    rw [l_R_readSaid_L10_eq, if_neg (by omega), iw, Option.bind_some]
    dsimp only
    by_cases c : s.1 1 3 = (cpw x2 : Int)
    · refine ⟨x2, n, by omega, by omega, fun _ => c, fun q => by omega, by omega, ?_⟩
      rw [if_pos c, if_neg (by decide), if_neg (show ¬ (x1 = 0 ∧ x2 = 24) from by omega)]
      by_cases c1 : x1 = 0
      · rw [if_pos c1, if_neg (by omega)]
      · rw [if_neg c1]
    · obtain ⟨K, n', r1, r2, r3, r4, r5, r6⟩ := R_findW hm h d x1 e n (x2 + 1) (by omega) (by omega)
      refine ⟨K, n', by omega, r2, r3, fun q k a b => ?_, by omega, ?_⟩
      · by_cases q2 : k = x2
        · rw [q2]; exact c
        · exact r4 q k (by omega) b
      · rw [if_neg c, if_pos rfl, w32_in (by omega) (by omega), show (x2 : Int) + 1 = ((x2 + 1 : Nat) : Int) from by omega, r6]
