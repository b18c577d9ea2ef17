/-! ===== written by gen_a83.py: reading (1): what every reader is made of ===== -/
/-- the class's tape alone has changed -/
def TF (s s' : mS) : Prop := (∀ c, c ≠ 1 → s'.1 c = s.1 c) ∧ (∀ c, c ≠ 1 → s'.2 c = s.2 c) ∧ s'.1 1 1 = s.1 1 1
/-- the reference's reading place alone has changed -/
def RF (u u' : mS) : Prop := (∀ c, c ≠ 249 → u'.1 c = u.1 c) ∧ (∀ c, c ≠ 249 → u'.2 c = u.2 c) ∧ ∀ k, k < 5 ∨ 13 < k → u'.1 249 k = u.1 249 k
theorem TF_refl (s : mS) : TF s s := ⟨fun _ _ => rfl, fun _ _ => rfl, rfl⟩
theorem RF_refl (s : mS) : RF s s := ⟨fun _ _ => rfl, fun _ _ => rfl, fun _ _ => rfl⟩
theorem TF_trans {a b c : mS} (h : TF a b) (g : TF b c) : TF a c := ⟨fun x hx => (g.1 x hx).trans (h.1 x hx), fun x hx => (g.2.1 x hx).trans (h.2.1 x hx), g.2.2.trans h.2.2⟩
theorem RF_trans {a b c : mS} (h : RF a b) (g : RF b c) : RF a c := ⟨fun x hx => (g.1 x hx).trans (h.1 x hx), fun x hx => (g.2.1 x hx).trans (h.2.1 x hx), fun k hk => (g.2.2 k hk).trans (h.2.2 k hk)⟩
theorem TF_of {s s' : mS} (h : TFr s s') : TF s s' := ⟨h.1, h.2.2, h.2.1 1 (by decide) (by decide) (by decide) (by decide) (by decide)⟩
theorem RF_of {s s' : mS} (h : RFr s s') : RF s s' := ⟨h.1, h.2.2, fun k hk => h.2.1 k (by omega) (by omega) (by omega) (by omega) (by omega)⟩
theorem TF_w {s : mS} {k : Nat} {v : Int} (hk : k ≠ 1) : TF s (wI s 1 k v) := ⟨fun c hc => wI_ne hc, fun _ _ => rfl, wI_f (fun h => hk h.symm)⟩
theorem RF_w {s : mS} {k : Nat} {v : Int} (hk : 5 ≤ k ∧ k ≤ 13) : RF s (wI s 249 k v) := ⟨fun c hc => wI_ne hc, fun _ _ => rfl, fun j hj => wI_f (by omega)⟩
/-- reading goes well; a: where the token ahead of this one ended -/
def TokG (a : Int) (s u : mS) : Prop := TokR s u ∧ 0 ≤ a ∧ a ≤ s.1 1 8 ∧ (s.1 1 2 ≠ 0 → s.1 1 2 ≠ 1 → a + 1 ≤ s.1 1 11) ∧ s.1 1 6 = 0 ∧ u.1 249 10 = 0
/-- it has failed, alike -/
def Flt (s u : mS) : Prop := s.1 1 6 = u.1 249 10 ∧ s.1 1 6 ≠ 0 ∧ s.1 1 7 = u.1 249 11 ∧ 0 ≤ s.1 1 7 ∧ s.1 1 7 ≤ 940
theorem TokG_mono {a b : Int} {s u : mS} (h : TokG a s u) (h0 : 0 ≤ b) (hb : b ≤ a) : TokG b s u := by
  obtain ⟨h1, h2, h3, h4, h5⟩ := h
  exact ⟨h1, h0, by omega, fun x y => by have := h4 x y; omega, h5⟩
theorem TokR_told {s u : mS} (h : TokR s u) (v : Int) : TokR s (wI u 249 13 v) := by
  unfold TokR TokE TokK TokA at h ⊢
  rw [wI_f (show (3 : Nat) ≠ 13 by decide), wI_f (show (4 : Nat) ≠ 13 by decide), wI_ne (show (250 : Nat) ≠ 249 by decide), wI_f (show (7 : Nat) ≠ 13 by decide), wI_f (show (8 : Nat) ≠ 13 by decide), wI_f (show (9 : Nat) ≠ 13 by decide), wI_f (show (6 : Nat) ≠ 13 by decide), wI_f (show (5 : Nat) ≠ 13 by decide), wI_2]
  exact h
theorem TokG_told {a : Int} {s u : mS} (h : TokG a s u) (v : Int) : TokG a s (wI u 249 13 v) :=
  ⟨TokR_told h.1 v, h.2.1, h.2.2.1, h.2.2.2.1, h.2.2.2.2.1, by rw [wI_f (by decide)]; exact h.2.2.2.2.2⟩
theorem TokR_cg {s u s' u' : mS} (h : TokR s u) (h1 : s'.1 1 = s.1 1) (h2 : s'.1 2 = s.1 2) (h3 : s'.2 1 = s.2 1) (g1 : ∀ k, k < 13 → u'.1 249 k = u.1 249 k) (g2 : u'.1 250 = u.1 250) (g3 : u'.2 249 = u.2 249) : TokR s' u' := by
  unfold TokR TokE TokK TokA at h ⊢
  rw [h1, h2, h3, g1 3 (by decide), g1 4 (by decide), g1 5 (by decide), g1 6 (by decide), g1 7 (by decide), g1 8 (by decide), g1 9 (by decide), g2, g3]
  exact h
theorem TokG_cg {a : Int} {s u s' u' : mS} (h : TokG a s u) (h1 : s'.1 1 = s.1 1) (h2 : s'.1 2 = s.1 2) (h3 : s'.2 1 = s.2 1) (g1 : ∀ k, k < 13 → u'.1 249 k = u.1 249 k) (g2 : u'.1 250 = u.1 250) (g3 : u'.2 249 = u.2 249) : TokG a s' u' := by
  refine ⟨TokR_cg h.1 h1 h2 h3 g1 g2 g3, h.2.1, ?_, ?_, ?_, ?_⟩
  · rw [h1]; exact h.2.2.1
  · rw [h1]; exact h.2.2.2.1
  · rw [h1]; exact h.2.2.2.2.1
  · rw [g1 10 (by decide)]; exact h.2.2.2.2.2
theorem T_adv {m : Nat} (hm : 10000 ≤ m) {a : Int} {s u : mS} (h : TokG a s u) (k0 : s.1 1 2 ≠ 0) (k1 : s.1 1 2 ≠ 1) :
    ∃ s' u', f_Tp_advance m s = some (0, s') ∧ f_R_go m u = some (0, u') ∧ TokG (a + 1) s' u' ∧ TF s s' ∧ RF u u' ∧ u'.1 249 13 = u.1 249 13 := by
  obtain ⟨⟨hE, hK, hA⟩, h2, h3, h4, h5, h6⟩ := h
  have q := hA.2.2.2 k1
  have a4 := h4 k0 k1
  obtain ⟨s', u', r1, r2, r3, r4, r5, r6⟩ := T_go hm hE q.1 q.2.1 q.2.2
  have e8 : s'.1 1 8 = s.1 1 8 := r4.2.1 8 (by decide) (by decide) (by decide) (by decide) (by decide)
  refine ⟨s', u', r1, r2, ⟨r3, by omega, by rw [e8]; omega, fun x y => by have := r6 x y; omega, ?_, ?_⟩, TF_of r4, RF_of r5, r5.2.1 13 (by decide) (by decide) (by decide) (by decide) (by decide)⟩
  · rw [r4.2.1 6 (by decide) (by decide) (by decide) (by decide) (by decide)]; exact h5
  · rw [r5.2.1 10 (by decide) (by decide) (by decide) (by decide) (by decide)]; exact h6
/-- it fails: the class says kc, the reference kr -/
theorem T_fail (m : Nat) {s u : mS} (h : TokR s u) {kc kr : Int} (hk : kc = if s.1 1 2 = 1 then 1 else kr) (hr : kr ≠ 0) :
    ∃ s' u', f_Tp_fail m kc s = some (0, s') ∧ f_R_bad m kr u = some (0, u') ∧ Flt s' u' ∧ TF s s' ∧ RF u u' := by
  obtain ⟨hE, hK, hA⟩ := h
  have k7 : u.1 249 7 = 1 ↔ s.1 1 2 = 1 := by
    rcases hK with q | q | ⟨q1, _, q3⟩ | q | q
    · omega
    · omega
    · rw [q1, q3]; split <;> omega
    · omega
    · omega
  refine ⟨wI (wI s 1 6 kc) 1 7 (s.1 1 10), wI (wI u 249 10 kc) 249 11 (s.1 1 10), ?_, ?_, ⟨?_, ?_, ?_, ?_, ?_⟩, TF_trans (TF_w (by decide)) (TF_w (by decide)), RF_trans (RF_w (by omega)) (RF_w (by omega))⟩
  · rw [f_Tp_fail_eq, wI_f (by decide)]
  · rw [f_R_bad_eq]
    by_cases c : s.1 1 2 = 1
    · rw [if_pos c] at hk
      rw [if_pos (k7.mpr c), wI_f (by decide), hk, hA.1]
    · rw [if_neg c] at hk
      rw [if_neg (fun q => c (k7.mp q)), wI_f (by decide), hk, hA.1]
  · rw [wI_f (by decide), wI_at, wI_f (by decide), wI_at]
  · rw [wI_f (by decide), wI_at, hk]; split <;> omega
  · rw [wI_at, wI_at]
  · rw [wI_at]; exact hA.2.1
  · rw [wI_at]; exact hA.2.2.1
/-! words and names -/
theorem R_isWord {m : Nat} (hm : 10 ≤ m) {s u : mS} (h : TokR s u) {k : Nat} (hk : k < 24) : f_R_isWord m (k : Int) u = some (if s.1 1 3 = (cpw k : Int) then 1 else 0, u) := by
  have c24 := cpw_lt k hk
  rw [f_R_isWord_eq]
  rcases h.2.1 with q | q | ⟨q1, ⟨ws, w1, w2, w3, w4⟩, q3⟩ | q | q
  · rw [if_neg (by omega), if_neg (by omega)]
  · rw [if_neg (by omega), if_neg (by omega)]
  · rw [if_pos q1, R_wordOf hm u k hk, Option.bind_some, w3, w4]
    dsimp only
    by_cases c : ((E27 ws : Nat) : Int) = ((E27 (rws k) : Nat) : Int)
    · rw [if_pos (cmpL0.mpr c), if_pos ((wix_eq w1 hk).mp c)]
    · rw [if_neg (fun q => c (cmpL0.mp q)), if_neg (fun q => c ((wix_eq w1 hk).mpr q))]
  · rw [if_neg (by omega), if_neg (by omega)]
  · rw [if_neg (by omega), if_neg (by omega)]
theorem R_isNameA (m : Nat) (hm : 10 ≤ m) (u : mS) (ws : List Nat) (hw : u.2 249 12 = ((E27 ws : Nat) : Int)) : ∀ (d n k : Nat), k + d = 24 → d + 1 ≤ n → ∃ r : Int, l_R_isName_L12 m n (k : Int) u = some (r, u) ∧ ((r = 0 ∧ ∃ j, k ≤ j ∧ j < 24 ∧ ((E27 ws : Nat) : Int) = ((E27 (rws j) : Nat) : Int)) ∨ (r = 1 ∧ ∀ j, k ≤ j → j < 24 → ((E27 ws : Nat) : Int) ≠ ((E27 (rws j) : Nat) : Int)))
  | 0, n, k, hk, hn => by
    obtain ⟨n0, rfl⟩ : ∃ n0, n = n0 + 1 := ⟨n - 1, by omega⟩
    rw [l_R_isName_L12_eq, if_pos (by omega)]
    exact ⟨1, rfl, Or.inr ⟨rfl, fun j a b => by omega⟩⟩
  | d + 1, n, k, hk, hn => by
    obtain ⟨n0, rfl⟩ : ∃ n0, n = n0 + 1 := ⟨n - 1, by omega⟩
    rw [l_R_isName_L12_eq, if_neg (by omega), R_wordOf hm u k (by omega), Option.bind_some, hw]
    dsimp only
    by_cases c : ((E27 ws : Nat) : Int) = ((E27 (rws k) : Nat) : Int)
    · rw [if_pos (cmpL0.mpr c)]
      exact ⟨0, rfl, Or.inl ⟨rfl, k, by omega, by omega, c⟩⟩
    · rw [if_neg (fun q => c (cmpL0.mp q)), w32_in (by omega) (by omega), show (k : Int) + 1 = ((k + 1 : Nat) : Int) from by omega]
      obtain ⟨r, r1, r2⟩ := R_isNameA m hm u ws hw d n0 (k + 1) (by omega) (by omega)
      refine ⟨r, r1, ?_⟩
      rcases r2 with ⟨q1, j, a, b, e⟩ | ⟨q1, q2⟩
      · exact Or.inl ⟨q1, j, by omega, b, e⟩
      · refine Or.inr ⟨q1, fun j a b e => ?_⟩
        by_cases q : j = k
        · rw [q] at e; exact c e
        · exact q2 j (by omega) b e
theorem R_isName {m : Nat} (hm : 100 ≤ m) {s u : mS} (h : TokR s u) : f_R_isName m u = some (if s.1 1 2 = 3 then 1 else 0, u) := by
  rw [f_R_isName_eq]
  rcases h.2.1 with q | q | ⟨q1, ⟨ws, w1, w2, w3, w4⟩, q3⟩ | q | q
  · rw [if_neg (by omega), if_neg (by omega)]
  · rw [if_neg (by omega), if_neg (by omega)]
  · rw [if_pos q1]
    obtain ⟨r, r1, r2⟩ := R_isNameA m (by omega) u ws w3 24 m 0 (by omega) (by omega)
    rw [show ((0 : Nat) : Int) = 0 from rfl] at r1
    rw [r1]
    have rg := wix_rng ((E256 ws : Nat) : Int)
    have nn := wix_none w1
    by_cases c : s.1 1 3 < 0
    · rw [if_pos c] at q3
      have n1 := nn.mp (by omega)
      rcases r2 with ⟨z1, j, _, b, e⟩ | ⟨z1, z2⟩
      · exact absurd e (n1 j b)
      · rw [if_pos q3, z1]
    · rw [if_neg c] at q3
      rcases r2 with ⟨z1, z2⟩ | ⟨z1, z2⟩
      · rw [if_neg (by omega), z1]
      · have := nn.mpr (fun k hk => z2 k (by omega) hk)
        omega
  · rw [if_neg (by omega), if_neg (by omega)]
  · rw [if_neg (by omega), if_neg (by omega)]
theorem T_name {s u : mS} (h : TokR s u) (k3 : s.1 1 2 = 3) : NM (s.2 1 4) (u.2 249 12) := by
  rcases h.2.1 with q | q | ⟨q1, ⟨ws, w1, w2, w3, w4⟩, q3⟩ | q | q
  · omega
  · omega
  · exact ⟨ws, w1, w2, w3⟩
  · omega
  · omega
theorem R_isSign {m : Nat} {s u : mS} (h : TokR s u) {c : Int} (hc : c = 59 ∨ c = 60 ∨ c = 61 ∨ c = 62 ∨ c = 40 ∨ c = 41) : f_R_isSign m c u = some (if s.1 1 2 = c then 1 else 0, u) := by
  rw [f_R_isSign_eq]
  rcases h.2.1 with q | q | ⟨q1, _, q3⟩ | q | q
  · rw [if_neg (by omega), if_neg (by omega)]
  · rw [if_neg (by omega), if_neg (by omega)]
  · rw [if_neg (by omega), if_neg (by rw [q3]; split <;> omega)]
  · rw [if_neg (by omega), if_neg (by omega)]
  · rw [if_pos q.1]
    by_cases e : s.1 1 2 = c
    · rw [if_pos (by omega), if_pos e]
    · rw [if_neg (by omega), if_neg e]
theorem NM_iff {x y x' y' : Int} (h : NM x y) (g : NM x' y') : x = x' ↔ y = y' := by
  obtain ⟨ws, w1, w2, w3⟩ := h
  obtain ⟨vs, v1, v2, v3⟩ := g
  rw [w2, v2, w3, v3]
  constructor
  · intro e
    have : ws = vs := E256_inj ws.length ws vs rfl w1.2.2 v1.2.2 (by omega)
    rw [this]
  · intro e
    have : ws = vs := E27_inj ws.length ws vs rfl w1.2.2 v1.2.2 (by omega)
    rw [this]
def fndA (f : Nat → Int) (x : Int) : Nat → Nat → Int
  | 0, _ => -1
  | d + 1, k => if f k = x then (k : Int) else fndA f x d (k + 1)
theorem fnd_rng (f : Nat → Int) (x : Int) : ∀ d k, fndA f x d k = -1 ∨ ((k : Int) ≤ fndA f x d k ∧ fndA f x d k < (k : Int) + d)
  | 0, k => Or.inl rfl
  | d + 1, k => by
    rw [fndA]
    by_cases c : f k = x
    · rw [if_pos c]; right; omega
    · rw [if_neg c]
      rcases fnd_rng f x d (k + 1) with q | q
      · exact Or.inl q
      · right; omega
theorem fnd_rel (f g : Nat → Int) (x y : Int) (hn : NM x y) : ∀ d k, (∀ j, k ≤ j → j < k + d → NM (f j) (g j)) → fndA f x d k = fndA g y d k
  | 0, k, _ => rfl
  | d + 1, k, h => by
    have e := NM_iff (h k (by omega) (by omega)) hn
    rw [fndA, fndA]
    by_cases c : f k = x
    · rw [if_pos c, if_pos (e.mp c)]
    · rw [if_neg c, if_neg (fun q => c (e.mpr q))]
      exact fnd_rel f g x y hn d (k + 1) (fun j h1 h2 => h j (by omega) (by omega))
theorem C_placeA_220 (m : Nat) (x : Int) (cnt : Nat) (hc : cnt ≤ 9) (s : mS) : ∀ (d n k : Nat), k + d = cnt → d + 1 ≤ n → l_Vs_placeOf_220_L3 m n x (cnt : Int) (k : Int) s = some (fndA (s.2 220) x d k, s)
  | 0, n, k, hk, hn => by
    obtain ⟨n0, rfl⟩ : ∃ n0, n = n0 + 1 := ⟨n - 1, by omega⟩
    rw [l_Vs_placeOf_220_L3_eq, if_neg (by omega)]; rfl
  | d + 1, n, k, hk, hn => by
    obtain ⟨n0, rfl⟩ : ∃ n0, n = n0 + 1 := ⟨n - 1, by omega⟩
    rw [l_Vs_placeOf_220_L3_eq, if_pos (by omega), if_pos (by omega), inR_pos (by omega) (by omega), Int.toNat_natCast, fndA]
    by_cases c : s.2 220 k = x
    · rw [if_pos (cmpL0.mpr c), if_pos c]
    · rw [if_neg (fun q => c (cmpL0.mp q)), if_neg c, w32_in (by omega) (by omega), show (k : Int) + 1 = ((k + 1 : Nat) : Int) from by omega]
      exact C_placeA_220 m x cnt hc s d n0 (k + 1) (by omega) (by omega)
theorem C_place_220 {m : Nat} (hm : 100 ≤ m) (x cnt : Int) (h0 : 0 ≤ cnt) (hc : cnt ≤ 9) (s : mS) : f_Vs_placeOf_220 m x cnt s = some (fndA (s.2 220) x cnt.toNat 0, s) := by
  obtain ⟨n, rfl⟩ : ∃ n : Nat, cnt = (n : Int) := ⟨cnt.toNat, by omega⟩
  rw [f_Vs_placeOf_220_eq, Int.toNat_natCast]
  exact C_placeA_220 m x n (by omega) s n m 0 (by omega) (by omega)
theorem C_placeA_223 (m : Nat) (x : Int) (cnt : Nat) (hc : cnt ≤ 5) (s : mS) : ∀ (d n k : Nat), k + d = cnt → d + 1 ≤ n → l_Vs_placeOf_223_L3 m n x (cnt : Int) (k : Int) s = some (fndA (s.2 223) x d k, s)
  | 0, n, k, hk, hn => by
    obtain ⟨n0, rfl⟩ : ∃ n0, n = n0 + 1 := ⟨n - 1, by omega⟩
    rw [l_Vs_placeOf_223_L3_eq, if_neg (by omega)]; rfl
  | d + 1, n, k, hk, hn => by
    obtain ⟨n0, rfl⟩ : ∃ n0, n = n0 + 1 := ⟨n - 1, by omega⟩
    rw [l_Vs_placeOf_223_L3_eq, if_pos (by omega), if_pos (by omega), inR_pos (by omega) (by omega), Int.toNat_natCast, fndA]
    by_cases c : s.2 223 k = x
    · rw [if_pos (cmpL0.mpr c), if_pos c]
    · rw [if_neg (fun q => c (cmpL0.mp q)), if_neg c, w32_in (by omega) (by omega), show (k : Int) + 1 = ((k + 1 : Nat) : Int) from by omega]
      exact C_placeA_223 m x cnt hc s d n0 (k + 1) (by omega) (by omega)
theorem C_place_223 {m : Nat} (hm : 100 ≤ m) (x cnt : Int) (h0 : 0 ≤ cnt) (hc : cnt ≤ 5) (s : mS) : f_Vs_placeOf_223 m x cnt s = some (fndA (s.2 223) x cnt.toNat 0, s) := by
  obtain ⟨n, rfl⟩ : ∃ n : Nat, cnt = (n : Int) := ⟨cnt.toNat, by omega⟩
  rw [f_Vs_placeOf_223_eq, Int.toNat_natCast]
  exact C_placeA_223 m x n (by omega) s n m 0 (by omega) (by omega)
theorem C_placeA_225 (m : Nat) (x : Int) (cnt : Nat) (hc : cnt ≤ 12) (s : mS) : ∀ (d n k : Nat), k + d = cnt → d + 1 ≤ n → l_Vs_placeOf_225_L3 m n x (cnt : Int) (k : Int) s = some (fndA (s.2 225) x d k, s)
  | 0, n, k, hk, hn => by
    obtain ⟨n0, rfl⟩ : ∃ n0, n = n0 + 1 := ⟨n - 1, by omega⟩
    rw [l_Vs_placeOf_225_L3_eq, if_neg (by omega)]; rfl
  | d + 1, n, k, hk, hn => by
    obtain ⟨n0, rfl⟩ : ∃ n0, n = n0 + 1 := ⟨n - 1, by omega⟩
    rw [l_Vs_placeOf_225_L3_eq, if_pos (by omega), if_pos (by omega), inR_pos (by omega) (by omega), Int.toNat_natCast, fndA]
    by_cases c : s.2 225 k = x
    · rw [if_pos (cmpL0.mpr c), if_pos c]
    · rw [if_neg (fun q => c (cmpL0.mp q)), if_neg c, w32_in (by omega) (by omega), show (k : Int) + 1 = ((k + 1 : Nat) : Int) from by omega]
      exact C_placeA_225 m x cnt hc s d n0 (k + 1) (by omega) (by omega)
theorem C_place_225 {m : Nat} (hm : 100 ≤ m) (x cnt : Int) (h0 : 0 ≤ cnt) (hc : cnt ≤ 12) (s : mS) : f_Vs_placeOf_225 m x cnt s = some (fndA (s.2 225) x cnt.toNat 0, s) := by
  obtain ⟨n, rfl⟩ : ∃ n : Nat, cnt = (n : Int) := ⟨cnt.toNat, by omega⟩
  rw [f_Vs_placeOf_225_eq, Int.toNat_natCast]
  exact C_placeA_225 m x n (by omega) s n m 0 (by omega) (by omega)
theorem C_placeA_5 (m : Nat) (x : Int) (cnt : Nat) (hc : cnt ≤ 9) (s : mS) : ∀ (d n k : Nat), k + d = cnt → d + 1 ≤ n → l_Vs_placeOf_5_L3 m n x (cnt : Int) (k : Int) s = some (fndA (s.2 5) x d k, s)
  | 0, n, k, hk, hn => by
    obtain ⟨n0, rfl⟩ : ∃ n0, n = n0 + 1 := ⟨n - 1, by omega⟩
    rw [l_Vs_placeOf_5_L3_eq, if_neg (by omega)]; rfl
  | d + 1, n, k, hk, hn => by
    obtain ⟨n0, rfl⟩ : ∃ n0, n = n0 + 1 := ⟨n - 1, by omega⟩
    rw [l_Vs_placeOf_5_L3_eq, if_pos (by omega), if_pos (by omega), inR_pos (by omega) (by omega), Int.toNat_natCast, fndA]
    by_cases c : s.2 5 k = x
    · rw [if_pos (cmpL0.mpr c), if_pos c]
    · rw [if_neg (fun q => c (cmpL0.mp q)), if_neg c, w32_in (by omega) (by omega), show (k : Int) + 1 = ((k + 1 : Nat) : Int) from by omega]
      exact C_placeA_5 m x cnt hc s d n0 (k + 1) (by omega) (by omega)
theorem C_place_5 {m : Nat} (hm : 100 ≤ m) (x cnt : Int) (h0 : 0 ≤ cnt) (hc : cnt ≤ 9) (s : mS) : f_Vs_placeOf_5 m x cnt s = some (fndA (s.2 5) x cnt.toNat 0, s) := by
  obtain ⟨n, rfl⟩ : ∃ n : Nat, cnt = (n : Int) := ⟨cnt.toNat, by omega⟩
  rw [f_Vs_placeOf_5_eq, Int.toNat_natCast]
  exact C_placeA_5 m x n (by omega) s n m 0 (by omega) (by omega)
theorem C_placeA_8 (m : Nat) (x : Int) (cnt : Nat) (hc : cnt ≤ 5) (s : mS) : ∀ (d n k : Nat), k + d = cnt → d + 1 ≤ n → l_Vs_placeOf_8_L3 m n x (cnt : Int) (k : Int) s = some (fndA (s.2 8) x d k, s)
  | 0, n, k, hk, hn => by
    obtain ⟨n0, rfl⟩ : ∃ n0, n = n0 + 1 := ⟨n - 1, by omega⟩
    rw [l_Vs_placeOf_8_L3_eq, if_neg (by omega)]; rfl
  | d + 1, n, k, hk, hn => by
    obtain ⟨n0, rfl⟩ : ∃ n0, n = n0 + 1 := ⟨n - 1, by omega⟩
    rw [l_Vs_placeOf_8_L3_eq, if_pos (by omega), if_pos (by omega), inR_pos (by omega) (by omega), Int.toNat_natCast, fndA]
    by_cases c : s.2 8 k = x
    · rw [if_pos (cmpL0.mpr c), if_pos c]
    · rw [if_neg (fun q => c (cmpL0.mp q)), if_neg c, w32_in (by omega) (by omega), show (k : Int) + 1 = ((k + 1 : Nat) : Int) from by omega]
      exact C_placeA_8 m x cnt hc s d n0 (k + 1) (by omega) (by omega)
theorem C_place_8 {m : Nat} (hm : 100 ≤ m) (x cnt : Int) (h0 : 0 ≤ cnt) (hc : cnt ≤ 5) (s : mS) : f_Vs_placeOf_8 m x cnt s = some (fndA (s.2 8) x cnt.toNat 0, s) := by
  obtain ⟨n, rfl⟩ : ∃ n : Nat, cnt = (n : Int) := ⟨cnt.toNat, by omega⟩
  rw [f_Vs_placeOf_8_eq, Int.toNat_natCast]
  exact C_placeA_8 m x n (by omega) s n m 0 (by omega) (by omega)
theorem C_placeA_10 (m : Nat) (x : Int) (cnt : Nat) (hc : cnt ≤ 12) (s : mS) : ∀ (d n k : Nat), k + d = cnt → d + 1 ≤ n → l_Vs_placeOf_10_L3 m n x (cnt : Int) (k : Int) s = some (fndA (s.2 10) x d k, s)
  | 0, n, k, hk, hn => by
    obtain ⟨n0, rfl⟩ : ∃ n0, n = n0 + 1 := ⟨n - 1, by omega⟩
    rw [l_Vs_placeOf_10_L3_eq, if_neg (by omega)]; rfl
  | d + 1, n, k, hk, hn => by
    obtain ⟨n0, rfl⟩ : ∃ n0, n = n0 + 1 := ⟨n - 1, by omega⟩
    rw [l_Vs_placeOf_10_L3_eq, if_pos (by omega), if_pos (by omega), inR_pos (by omega) (by omega), Int.toNat_natCast, fndA]
    by_cases c : s.2 10 k = x
    · rw [if_pos (cmpL0.mpr c), if_pos c]
    · rw [if_neg (fun q => c (cmpL0.mp q)), if_neg c, w32_in (by omega) (by omega), show (k : Int) + 1 = ((k + 1 : Nat) : Int) from by omega]
      exact C_placeA_10 m x cnt hc s d n0 (k + 1) (by omega) (by omega)
theorem C_place_10 {m : Nat} (hm : 100 ≤ m) (x cnt : Int) (h0 : 0 ≤ cnt) (hc : cnt ≤ 12) (s : mS) : f_Vs_placeOf_10 m x cnt s = some (fndA (s.2 10) x cnt.toNat 0, s) := by
  obtain ⟨n, rfl⟩ : ∃ n : Nat, cnt = (n : Int) := ⟨cnt.toNat, by omega⟩
  rw [f_Vs_placeOf_10_eq, Int.toNat_natCast]
  exact C_placeA_10 m x n (by omega) s n m 0 (by omega) (by omega)
theorem R_findA_258 (m : Nat) (x : Int) (base cnt : Nat) (hc : base + cnt ≤ 26) (s : mS) : ∀ (d n k : Nat), k + d = cnt → d + 1 ≤ n → l_R_findIn_258_L3 m n (base : Int) (cnt : Int) x (k : Int) s = some (fndA (fun j => s.2 258 (base + j)) x d k, s)
  | 0, n, k, hk, hn => by
    obtain ⟨n0, rfl⟩ : ∃ n0, n = n0 + 1 := ⟨n - 1, by omega⟩
    rw [l_R_findIn_258_L3_eq, if_neg (by omega)]; rfl
  | d + 1, n, k, hk, hn => by
    obtain ⟨n0, rfl⟩ : ∃ n0, n = n0 + 1 := ⟨n - 1, by omega⟩
    have e : w32 ((base : Int) + (k : Int)) = ((base + k : Nat) : Int) := by rw [w32_in (by omega) (by omega)]; omega
    rw [l_R_findIn_258_L3_eq, if_pos (by omega), e, inR_pos (by omega) (by omega), Int.toNat_natCast, fndA]
    by_cases c : s.2 258 (base + k) = x
    · rw [if_pos (cmpL0.mpr c), if_pos c]
    · rw [if_neg (fun q => c (cmpL0.mp q)), if_neg c, w32_in (by omega) (by omega), show (k : Int) + 1 = ((k + 1 : Nat) : Int) from by omega]
      exact R_findA_258 m x base cnt hc s d n0 (k + 1) (by omega) (by omega)
theorem R_find_258 {m : Nat} (hm : 100 ≤ m) (x : Int) (base : Nat) (cnt : Int) (h0 : 0 ≤ cnt) (hc : base + cnt ≤ 26) (s : mS) : f_R_findIn_258 m (base : Int) cnt x s = some (fndA (fun j => s.2 258 (base + j)) x cnt.toNat 0, s) := by
  obtain ⟨n, rfl⟩ : ∃ n : Nat, cnt = (n : Int) := ⟨cnt.toNat, by omega⟩
  rw [f_R_findIn_258_eq, Int.toNat_natCast]
  exact R_findA_258 m x base n (by omega) s n m 0 (by omega) (by omega)
theorem R_findA_257 (m : Nat) (x : Int) (base cnt : Nat) (hc : base + cnt ≤ 26) (s : mS) : ∀ (d n k : Nat), k + d = cnt → d + 1 ≤ n → l_R_findIn_257_L3 m n (base : Int) (cnt : Int) x (k : Int) s = some (fndA (fun j => s.2 257 (base + j)) x d k, s)
  | 0, n, k, hk, hn => by
    obtain ⟨n0, rfl⟩ : ∃ n0, n = n0 + 1 := ⟨n - 1, by omega⟩
    rw [l_R_findIn_257_L3_eq, if_neg (by omega)]; rfl
  | d + 1, n, k, hk, hn => by
    obtain ⟨n0, rfl⟩ : ∃ n0, n = n0 + 1 := ⟨n - 1, by omega⟩
    have e : w32 ((base : Int) + (k : Int)) = ((base + k : Nat) : Int) := by rw [w32_in (by omega) (by omega)]; omega
    rw [l_R_findIn_257_L3_eq, if_pos (by omega), e, inR_pos (by omega) (by omega), Int.toNat_natCast, fndA]
    by_cases c : s.2 257 (base + k) = x
    · rw [if_pos (cmpL0.mpr c), if_pos c]
    · rw [if_neg (fun q => c (cmpL0.mp q)), if_neg c, w32_in (by omega) (by omega), show (k : Int) + 1 = ((k + 1 : Nat) : Int) from by omega]
      exact R_findA_257 m x base cnt hc s d n0 (k + 1) (by omega) (by omega)
theorem R_find_257 {m : Nat} (hm : 100 ≤ m) (x : Int) (base : Nat) (cnt : Int) (h0 : 0 ≤ cnt) (hc : base + cnt ≤ 26) (s : mS) : f_R_findIn_257 m (base : Int) cnt x s = some (fndA (fun j => s.2 257 (base + j)) x cnt.toNat 0, s) := by
  obtain ⟨n, rfl⟩ : ∃ n : Nat, cnt = (n : Int) := ⟨cnt.toNat, by omega⟩
  rw [f_R_findIn_257_eq, Int.toNat_natCast]
  exact R_findA_257 m x base n (by omega) s n m 0 (by omega) (by omega)
theorem flt01 {x : Option (Int × mS)} {s : mS} (h : x = some (0, s)) : (x.bind fun p => (if p.1 = 0 ∨ p.1 = 1 then some (p.1, p.2) else none)) = some (0, s) := by rw [h]; rfl
/-- a number within bounds -/
theorem T_num {m : Nat} (hm : 10000 ≤ m) {a : Int} {s u : mS} (h : TokG a s u) (lo hi : Int) :
    (∃ v s' u', lo ≤ v ∧ v ≤ hi ∧ 0 ≤ v ∧ v ≤ 999 ∧ f_Tp_takeNumber m lo hi s = some (v, s') ∧ f_R_readNumber m lo hi u = some (1, u') ∧ u'.1 249 13 = v ∧ TokG (a + 1) s' u' ∧ TF s s' ∧ RF u u') ∨
    (∃ s' u', f_Tp_takeNumber m lo hi s = some (-1, s') ∧ f_R_readNumber m lo hi u = some (0, u') ∧ Flt s' u' ∧ TF s s' ∧ RF u u') := by
  rw [f_Tp_takeNumber_eq, f_R_readNumber_eq]
  by_cases k4 : s.1 1 2 = 4
  · have q : u.1 249 7 = 3 ∧ s.1 1 5 = u.1 249 8 ∧ 0 ≤ s.1 1 5 ∧ s.1 1 5 ≤ 999 := by
      rcases h.1.2.1 with q | q | ⟨_, _, q⟩ | q | q
      · omega
      · omega
      · rw [q] at k4; split at k4 <;> omega
      · exact ⟨q.2.1, q.2.2.2.1, q.2.2.2.2.1, q.2.2.2.2.2⟩
      · omega
    rw [if_pos k4, if_pos k4, if_pos q.1]
    by_cases c : lo ≤ s.1 1 5 ∧ s.1 1 5 ≤ hi
    · left
      obtain ⟨s', u', r1, r2, r3, r4, r5, r6⟩ := T_adv hm (TokG_told h (u.1 249 8)) (by omega) (by omega)
      refine ⟨s.1 1 5, s', u', c.1, c.2, q.2.2.1, q.2.2.2, ?_, ?_, ?_, r3, r4, RF_trans (RF_w (by omega)) r5⟩
      · rw [if_neg (by omega), if_neg (by omega), r1, Option.bind_some]
      · rw [f_R_isIn_eq, if_neg (by omega), if_neg (by omega), Option.bind_some, if_neg (show ¬ (1 : Int) = 0 from by decide), r2, Option.bind_some]
      · rw [r6, wI_at]; exact q.2.1.symm
    · right
      obtain ⟨s', u', r1, r2, r3, r4, r5⟩ := T_fail m h.1 (kc := 2) (kr := 2) (by rw [if_neg (by omega)]) (by decide)
      refine ⟨s', u', ?_, ?_, r3, r4, r5⟩
      · by_cases c1 : s.1 1 5 < lo
        · rw [if_pos c1, r1, Option.bind_some]
        · rw [if_neg c1, if_pos (by omega), r1, Option.bind_some]
      · have e : f_R_isIn m (u.1 249 8) lo hi u = some (0, u) := by
          rw [f_R_isIn_eq]
          by_cases c1 : u.1 249 8 < lo
          · rw [if_pos c1]
          · rw [if_neg c1, if_pos (by omega)]
        rw [e, Option.bind_some, if_pos rfl, r2]; rfl
  · right
    have q : ¬ u.1 249 7 = 3 := by
      rcases h.1.2.1 with q | q | q | q | q <;> omega
    obtain ⟨s', u', r1, r2, r3, r4, r5⟩ := T_fail m h.1 (kc := 1) (kr := 1) (by split <;> rfl) (by decide)
    rw [if_neg k4, if_neg k4, if_neg q, r1, r2]
    exact ⟨s', u', rfl, rfl, r3, r4, r5⟩
/-- a sign -/
theorem T_sg {m : Nat} (hm : 10000 ≤ m) {a : Int} {s u : mS} (h : TokG a s u) {c : Int} (hc : c = 59 ∨ c = 60 ∨ c = 61 ∨ c = 62 ∨ c = 40 ∨ c = 41) :
    (∃ s' u', s.1 1 2 = c ∧ f_Tp_takeSign m c s = some (1, s') ∧ f_R_isSign m c u = some (1, u) ∧ f_R_go m u = some (0, u') ∧ TokG (a + 1) s' u' ∧ TF s s' ∧ RF u u' ∧ u'.1 249 13 = u.1 249 13) ∨
    (∃ s' u', f_Tp_takeSign m c s = some (0, s') ∧ f_R_isSign m c u = some (0, u) ∧ f_R_bad m 1 u = some (0, u') ∧ Flt s' u' ∧ TF s s' ∧ RF u u') := by
  rw [f_Tp_takeSign_eq, R_isSign h.1 hc]
  by_cases k : s.1 1 2 = c
  · left
    obtain ⟨s', u', r1, r2, r3, r4, r5, r6⟩ := T_adv hm h (by omega) (by omega)
    refine ⟨s', u', k, by rw [if_pos k, r1, Option.bind_some], by rw [if_pos k], r2, r3, r4, r5, r6⟩
  · right
    obtain ⟨s', u', r1, r2, r3, r4, r5⟩ := T_fail m h.1 (kc := 1) (kr := 1) (by split <;> rfl) (by decide)
    exact ⟨s', u', by rw [if_neg k, r1]; rfl, by rw [if_neg k], r2, r3, r4, r5⟩
theorem T_end {m : Nat} (hm : 10000 ≤ m) {a : Int} {s u : mS} (h : TokG a s u) :
    (∃ s' u', f_Tp_takeSign m 59 s = some (1, s') ∧ f_R_readEnd m u = some (1, u') ∧ TokG (a + 1) s' u' ∧ TF s s' ∧ RF u u') ∨
    (∃ s' u', f_Tp_takeSign m 59 s = some (0, s') ∧ f_R_readEnd m u = some (0, u') ∧ Flt s' u' ∧ TF s s' ∧ RF u u') := by
  rcases T_sg hm h (c := 59) (by omega) with ⟨s', u', _, r1, r2, r3, r4, r5, r6, _⟩ | ⟨s', u', r1, r2, r3, r4, r5, r6⟩
  · left
    exact ⟨s', u', r1, by rw [f_R_readEnd_eq, r2, Option.bind_some, if_neg (show ¬ (1 : Int) = 0 from by decide), r3, Option.bind_some], r4, r5, r6⟩
  · right
    exact ⟨s', u', r1, by rw [f_R_readEnd_eq, r2, Option.bind_some, if_pos rfl, r3]; rfl, r4, r5, r6⟩
theorem T_see_220 {m : Nat} (hm : 10000 ≤ m) {a : Int} {s u : mS} (h : TokG a s u) (cnt : Int) (h0 : 0 ≤ cnt) (hc : cnt ≤ 9) (hn : ∀ k : Nat, (k : Int) < cnt → NM (s.2 220 k) (u.2 258 (0 + k))) :
    (∃ k : Nat, (k : Int) < cnt ∧ s.1 1 2 = 3 ∧ f_Vs_see_1_220 m cnt s = some ((k : Int), s) ∧ f_R_isHere m 0 cnt u = some (1, wI u 249 13 (k : Int))) ∨
    (∃ s' u', f_Vs_see_1_220 m cnt s = some (-1, s') ∧ f_R_isHere m 0 cnt u = some (0, u') ∧ Flt s' u' ∧ TF s s' ∧ RF u u') := by
  rw [f_Vs_see_1_220_eq, f_R_isHere_eq, R_isName (by omega) h.1, Option.bind_some]
  dsimp only
  by_cases k3 : s.1 1 2 = 3
  · have nm := T_name h.1 k3
    have ef := fnd_rel (s.2 220) (fun j => u.2 258 (0 + j)) (s.2 1 4) (u.2 249 12) nm cnt.toNat 0 (fun j _ hj => hn j (by omega))
    have rg := fnd_rng (s.2 220) (s.2 1 4) cnt.toNat 0
    have rf := R_find_258 (m := m) (by omega) (u.2 249 12) 0 cnt h0 (by omega) u
    rw [show ((0 : Nat) : Int) = 0 from rfl] at rf
    rw [if_pos k3, if_pos k3, if_neg (show ¬ (1 : Int) = 0 from by decide), C_place_220 (by omega) _ cnt h0 hc, Option.bind_some, rf, Option.bind_some]
    dsimp only
    rw [← ef, wI_at]
    by_cases c : fndA (s.2 220) (s.2 1 4) cnt.toNat 0 = -1
    · right
      rw [if_pos c, if_pos c, c]
      have hT := TokR_told h.1 (-1)
      obtain ⟨s', u', r1, r2, r3, r4, r5⟩ := T_fail m hT (kc := 3) (kr := 3) (by rw [if_neg (by omega)]) (by decide)
      rw [r1, r2, Option.bind_some, Option.bind_some]
      exact ⟨s', u', rfl, by rw [if_pos rfl], r3, r4, RF_trans (RF_w (by omega)) r5⟩
    · left
      rw [if_neg c, if_neg c]
      refine ⟨(fndA (s.2 220) (s.2 1 4) cnt.toNat 0).toNat, by omega, k3, ?_, ?_⟩
      · rw [Int.toNat_of_nonneg (by omega)]
      · rw [Int.toNat_of_nonneg (by omega)]
  · right
    obtain ⟨s', u', r1, r2, r3, r4, r5⟩ := T_fail m h.1 (kc := 1) (kr := 1) (by split <;> rfl) (by decide)
    rw [if_neg k3, if_neg k3, if_pos rfl, r1, r2]
    exact ⟨s', u', rfl, rfl, r3, r4, r5⟩
theorem T_see_225 {m : Nat} (hm : 10000 ≤ m) {a : Int} {s u : mS} (h : TokG a s u) (cnt : Int) (h0 : 0 ≤ cnt) (hc : cnt ≤ 12) (hn : ∀ k : Nat, (k : Int) < cnt → NM (s.2 225 k) (u.2 258 (14 + k))) :
    (∃ k : Nat, (k : Int) < cnt ∧ s.1 1 2 = 3 ∧ f_Vs_see_1_225 m cnt s = some ((k : Int), s) ∧ f_R_isHere m 14 cnt u = some (1, wI u 249 13 (k : Int))) ∨
    (∃ s' u', f_Vs_see_1_225 m cnt s = some (-1, s') ∧ f_R_isHere m 14 cnt u = some (0, u') ∧ Flt s' u' ∧ TF s s' ∧ RF u u') := by
  rw [f_Vs_see_1_225_eq, f_R_isHere_eq, R_isName (by omega) h.1, Option.bind_some]
  dsimp only
  by_cases k3 : s.1 1 2 = 3
  · have nm := T_name h.1 k3
    have ef := fnd_rel (s.2 225) (fun j => u.2 258 (14 + j)) (s.2 1 4) (u.2 249 12) nm cnt.toNat 0 (fun j _ hj => hn j (by omega))
    have rg := fnd_rng (s.2 225) (s.2 1 4) cnt.toNat 0
    have rf := R_find_258 (m := m) (by omega) (u.2 249 12) 14 cnt h0 (by omega) u
    rw [show ((14 : Nat) : Int) = 14 from rfl] at rf
    rw [if_pos k3, if_pos k3, if_neg (show ¬ (1 : Int) = 0 from by decide), C_place_225 (by omega) _ cnt h0 hc, Option.bind_some, rf, Option.bind_some]
    dsimp only
    rw [← ef, wI_at]
    by_cases c : fndA (s.2 225) (s.2 1 4) cnt.toNat 0 = -1
    · right
      rw [if_pos c, if_pos c, c]
      have hT := TokR_told h.1 (-1)
      obtain ⟨s', u', r1, r2, r3, r4, r5⟩ := T_fail m hT (kc := 3) (kr := 3) (by rw [if_neg (by omega)]) (by decide)
      rw [r1, r2, Option.bind_some, Option.bind_some]
      exact ⟨s', u', rfl, by rw [if_pos rfl], r3, r4, RF_trans (RF_w (by omega)) r5⟩
    · left
      rw [if_neg c, if_neg c]
      refine ⟨(fndA (s.2 225) (s.2 1 4) cnt.toNat 0).toNat, by omega, k3, ?_, ?_⟩
      · rw [Int.toNat_of_nonneg (by omega)]
      · rw [Int.toNat_of_nonneg (by omega)]
  · right
    obtain ⟨s', u', r1, r2, r3, r4, r5⟩ := T_fail m h.1 (kc := 1) (kr := 1) (by split <;> rfl) (by decide)
    rw [if_neg k3, if_neg k3, if_pos rfl, r1, r2]
    exact ⟨s', u', rfl, rfl, r3, r4, r5⟩
