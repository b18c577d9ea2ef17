/-! ===== layer 3: reading (2): a vestry being told ===== -/
/-- what readers may change: the class, the reference -/
def KC (s s' : mS) : Prop := (∀ c, c ≠ 1 → c < 219 ∨ 240 < c → s'.1 c = s.1 c) ∧ (∀ c, c ≠ 1 → c < 219 ∨ 240 < c → s'.2 c = s.2 c) ∧ s'.1 1 1 = s.1 1 1
def KR (u u' : mS) : Prop := (∀ c, c ≠ 249 → c ≠ 252 → c ≠ 258 → c ≠ 266 → c ≠ 268 → u'.1 c = u.1 c) ∧ (∀ c, c ≠ 249 → c ≠ 252 → c ≠ 258 → c ≠ 266 → c ≠ 268 → u'.2 c = u.2 c) ∧ ∀ k, k < 5 ∨ (13 < k ∧ k ≠ 24 ∧ k ≠ 39 ∧ k < 42) → u'.1 249 k = u.1 249 k
theorem KC_refl (s : mS) : KC s s := ⟨fun _ _ _ => rfl, fun _ _ _ => rfl, rfl⟩
theorem KR_refl (s : mS) : KR s s := ⟨fun _ _ _ _ _ _ => rfl, fun _ _ _ _ _ _ => rfl, fun _ _ => rfl⟩
theorem KC_trans {a b c : mS} (h : KC a b) (g : KC b c) : KC a c := ⟨fun x h1 h2 => (g.1 x h1 h2).trans (h.1 x h1 h2), fun x h1 h2 => (g.2.1 x h1 h2).trans (h.2.1 x h1 h2), g.2.2.trans h.2.2⟩
theorem KR_trans {a b c : mS} (h : KR a b) (g : KR b c) : KR a c := ⟨fun x h1 h2 h3 h4 h5 => (g.1 x h1 h2 h3 h4 h5).trans (h.1 x h1 h2 h3 h4 h5), fun x h1 h2 h3 h4 h5 => (g.2.1 x h1 h2 h3 h4 h5).trans (h.2.1 x h1 h2 h3 h4 h5), fun k hk => (g.2.2 k hk).trans (h.2.2 k hk)⟩
theorem KC_of {s s' : mS} (h : TF s s') : KC s s' := ⟨fun c h1 _ => h.1 c h1, fun c h1 _ => h.2.1 c h1, h.2.2⟩
theorem KR_of {s s' : mS} (h : RF s s') : KR s s' := ⟨fun c h1 _ _ _ _ => h.1 c h1, fun c h1 _ _ _ _ => h.2.1 c h1, fun k hk => h.2.2 k (by omega)⟩
theorem KC_w {s : mS} {c k : Nat} {v : Int} (h1 : 219 ≤ c) (h2 : c ≤ 240) : KC s (wI s c k v) := ⟨fun x _ _ => wI_ne (by omega), fun _ _ _ => rfl, by rw [wI_ne (by omega)]⟩
theorem KC_j {s : mS} {c k : Nat} {v : Int} (h1 : 219 ≤ c) (h2 : c ≤ 240) : KC s (wJ s c k v) := ⟨fun _ _ _ => rfl, fun x _ _ => wJ_ne2 (by omega), rfl⟩
theorem KR_w {s : mS} {c k : Nat} {v : Int} (h : c = 252 ∨ c = 266 ∨ c = 268) : KR s (wI s c k v) := ⟨fun x _ _ _ _ _ => wI_ne (by omega), fun _ _ _ _ _ _ => rfl, fun j _ => by rw [wI_ne (by omega)]⟩
theorem KR_f {s : mS} {k : Nat} {v : Int} (h : (5 ≤ k ∧ k ≤ 13) ∨ k = 24 ∨ k = 39 ∨ 42 ≤ k) : KR s (wI s 249 k v) := ⟨fun x h1 _ _ _ _ => wI_ne h1, fun _ _ _ _ _ _ => rfl, fun j hj => wI_f (by omega)⟩
theorem KR_j {s : mS} {k : Nat} {v : Int} : KR s (wJ s 258 k v) := ⟨fun _ _ _ _ _ _ => rfl, fun x _ _ h3 _ _ => wJ_ne2 h3, fun _ _ => rfl⟩
def Pst (Ψ : mS → mS → Prop) (a : Int) (s u : mS) (F G : Option (Int × mS)) : Prop := ∃ r s' u', F = some (r, s') ∧ G = some (r, u') ∧ KC s s' ∧ KR u u' ∧ ((r = 1 ∧ TokG a s' u' ∧ Ψ s' u') ∨ (r = 0 ∧ Flt s' u'))
/-- a vestry that is being told: the class's at 219, the reference's at 252, 258 -/
def FV (s u : mS) : Prop := WFv (u.1 252) ∧ VR s 219 (u.1 252) ∧ VN s 219 (u.1 252) (u.2 258) ∧ s.1 219 6 = u.1 249 24 ∧ (∀ d : Nat, u.1 252 2 ≤ (d : Int) → d < 12 → s.1 228 d = 0 ∧ u.1 252 (53 + d) = 0 ∧ s.1 229 d = -1 ∧ u.1 252 (65 + d) = 0)
theorem FV_cg {s u s' u' : mS} (h : FV s u) (h1 : ∀ c, 219 ≤ c → c ≤ 231 → s'.1 c = s.1 c) (h2 : ∀ c, 219 ≤ c → c ≤ 231 → s'.2 c = s.2 c) (g1 : u'.1 252 = u.1 252) (g2 : u'.2 258 = u.2 258) (g3 : u'.1 249 24 = u.1 249 24) : FV s' u' := by
  obtain ⟨a1, a2, a3, a4, a5⟩ := h
  refine ⟨by rw [g1]; exact a1, by rw [g1]; exact VR_keep a2 (fun c x y => h1 c (by omega) (by omega)), by rw [g1, g2]; exact VN_keep a3 (fun c x y => h2 c (by omega) (by omega)), by rw [h1 219 (by omega) (by omega), g3]; exact a4, fun d x y => ?_⟩
  rw [g1] at x ⊢
  rw [h1 228 (by omega) (by omega), h1 229 (by omega) (by omega)]
  exact a5 d x y
theorem FV_keep {s u s' u' : mS} (h : FV s u) (hs : TF s s') (hu : RF u u') : FV s' u' :=
  FV_cg h (fun c x y => hs.1 c (by omega)) (fun c x y => hs.2.1 c (by omega)) (hu.1 252 (by decide)) (hu.2.1 258 (by decide)) (hu.2.2 24 (by omega))
/-- a new name -/
theorem T_new {m : Nat} (hm : 10000 ≤ m) {a : Int} {s u : mS} (h : TokG a s u) (hw : WFv (u.1 252)) (c0 : s.1 219 0 = u.1 252 0) (c1 : s.1 219 1 = u.1 252 1) (c2 : s.1 219 2 = u.1 252 2) (hn : VN s 219 (u.1 252) (u.2 258)) (slot : Nat) (hs : slot < 26) :
    (∃ s' u', f_Vs_takeNewName m s = some (1, s') ∧ f_R_readNew m (slot : Int) u = some (1, u') ∧ NM (s.2 1 4) (u.2 249 12) ∧ TokG (a + 1) s' u' ∧ TF s s' ∧ RF (wJ u 258 slot (u.2 249 12)) u') ∨
    (∃ s' u', f_Vs_takeNewName m s = some (0, s') ∧ f_R_readNew m (slot : Int) u = some (0, u') ∧ Flt s' u' ∧ TF s s' ∧ RF u u') := by
  have w0 := WFv_boxes hw
  have w1 := WFv_plots hw
  have w2 := WFv_dead hw
  rw [f_Vs_takeNewName_eq, f_R_readNew_eq, R_isName (by omega) h.1, Option.bind_some]
  dsimp only
  by_cases k3 : s.1 1 2 = 3
  · have nm := T_name h.1 k3
    have ef0 := fnd_rel (s.2 220) (fun j => u.2 258 (0 + j)) (s.2 1 4) (u.2 249 12) nm (u.1 252 0).toNat 0 (fun j _ hj => by rw [Nat.zero_add]; exact hn.1 j (by omega))
    have ef1 := fnd_rel (s.2 223) (fun j => u.2 258 (9 + j)) (s.2 1 4) (u.2 249 12) nm (u.1 252 1).toNat 0 (fun j _ hj => hn.2.1 j (by omega))
    have ef2 := fnd_rel (s.2 225) (fun j => u.2 258 (14 + j)) (s.2 1 4) (u.2 249 12) nm (u.1 252 2).toNat 0 (fun j _ hj => hn.2.2 j (by omega))
    have rf0 := R_find_258 (m := m) (by omega) (u.2 249 12) 0 (u.1 252 0) (by omega) (by omega) u
    have rf1 := R_find_258 (m := m) (by omega) (u.2 249 12) 9 (u.1 252 1) (by omega) (by omega) u
    have rf2 := R_find_258 (m := m) (by omega) (u.2 249 12) 14 (u.1 252 2) (by omega) (by omega) u
    rw [show ((0 : Nat) : Int) = 0 from rfl, ← ef0] at rf0
    rw [show ((9 : Nat) : Int) = 9 from rfl, ← ef1] at rf1
    rw [show ((14 : Nat) : Int) = 14 from rfl, ← ef2] at rf2
    have cp0 := C_place_220 (m := m) (by omega) (s.2 1 4) (s.1 219 0) (by omega) (by omega) s
    have cp1 := C_place_223 (m := m) (by omega) (s.2 1 4) (s.1 219 1) (by omega) (by omega) s
    have cp2 := C_place_225 (m := m) (by omega) (s.2 1 4) (s.1 219 2) (by omega) (by omega) s
    rw [c0] at cp0
    rw [c1] at cp1
    rw [c2] at cp2
    obtain ⟨m0, hm0⟩ : ∃ m0, m = m0 + 1 := ⟨m - 1, by omega⟩
    have L0 : l_R_readNew_L63 m m (slot : Int) 0 u = (f_R_findIn_258 m 14 (u.1 252 2) (u.2 249 12) u).bind fun p0 => (if p0.1 = (-1) then (inR (slot : Int) 26 ((f_R_go m (wJ p0.2 258 (slot : Int).toNat (p0.2.2 249 12))).bind fun p1 => (some (1, p1.2)))) else ((f_R_bad m 3 p0.2).bind fun p1 => (if p1.1 = 0 ∨ p1.1 = 1 then some (p1.1, p1.2) else none))) := by
      rw [show l_R_readNew_L63 m m = l_R_readNew_L63 m (m0 + 1) from by rw [← hm0], l_R_readNew_L63_eq, if_pos rfl]
    have L1 : l_R_readNew_L63 m m (slot : Int) 1 u = (f_R_bad m 3 u).bind fun p0 => (if p0.1 = 0 ∨ p0.1 = 1 then some (p0.1, p0.2) else none) := by
      rw [show l_R_readNew_L63 m m = l_R_readNew_L63 m (m0 + 1) from by rw [← hm0], l_R_readNew_L63_eq, if_neg (by decide)]
    obtain ⟨sf, uf, t1, t2, t3, t4, t5⟩ := T_fail m h.1 (kc := 3) (kr := 3) (by rw [if_neg (by omega)]) (by decide)
    rw [if_pos k3, if_pos k3, if_neg (show ¬ (1 : Int) = 0 from by decide), c0, cp0, Option.bind_some, rf0, Option.bind_some]
    dsimp only
    by_cases q0 : fndA (s.2 220) (s.2 1 4) (u.1 252 0).toNat 0 = -1
    · rw [if_pos q0, if_pos q0, c1, cp1, Option.bind_some, rf1, Option.bind_some]
      dsimp only
      by_cases q1 : fndA (s.2 223) (s.2 1 4) (u.1 252 1).toNat 0 = -1
      · rw [if_pos q1, if_pos q1, c2, cp2, Option.bind_some, L0, rf2, Option.bind_some]
        dsimp only
        by_cases q2 : fndA (s.2 225) (s.2 1 4) (u.1 252 2).toNat 0 = -1
        · left
          have h' : TokG a s (wJ u 258 slot (u.2 249 12)) := TokG_cg h rfl rfl rfl (fun _ _ => rfl) rfl (wJ_ne2 (by decide))
          obtain ⟨s', u', r1, r2, r3, r4, r5, _⟩ := T_adv hm h' (by omega) (by omega)
          rw [if_pos q2, if_pos q2, r1, Option.bind_some, inR_pos (by omega) (by omega), Int.toNat_natCast, r2, Option.bind_some]
          exact ⟨s', u', rfl, rfl, nm, r3, r4, r5⟩
        · right
          rw [if_neg q2, if_neg q2, t1, t2]
          exact ⟨sf, uf, rfl, rfl, t3, t4, t5⟩
      · right
        rw [if_neg q1, if_neg q1, L1, t1, t2]
        exact ⟨sf, uf, rfl, rfl, t3, t4, t5⟩
    · right
      rw [if_neg q0, if_neg q0, L1, t1, t2]
      exact ⟨sf, uf, rfl, rfl, t3, t4, t5⟩
  · right
    obtain ⟨s', u', r1, r2, r3, r4, r5⟩ := T_fail m h.1 (kc := 1) (kr := 1) (by split <;> rfl) (by decide)
    rw [if_neg k3, if_neg k3, if_pos rfl, r1, r2]
    exact ⟨s', u', rfl, rfl, r3, r4, r5⟩
theorem R_noted0 (m : Nat) (at' : Int) (u : mS) : f_R_noted m at' 0 u = some (0, u) := by rw [f_R_noted_eq, if_pos rfl, if_pos (Or.inl rfl)]
theorem R_noted1 (m : Nat) (k : Nat) (hk : k < 85) (u : mS) : f_R_noted m (k : Int) 1 u = some (1, wI u 252 k (u.1 249 13)) := by
  rw [f_R_noted_eq, if_neg (by decide), inR_pos (by omega) (by omega), if_pos (Or.inr rfl), Int.toNat_natCast]
/-- the air -/
theorem V_air {m : Nat} (hm : 10000 ≤ m) {a : Int} {s u : mS} (h : TokG a s u) (hf : FV s u) (k2 : s.1 1 2 = 2) (c6 : s.1 219 6 = 0) : Pst FV (a + 1) s u (f_Vs_readAir m s) (f_R_readAir m u) := by
  have h24 : u.1 249 24 = 0 := by rw [← hf.2.2.2.1]; exact c6
  have h' : TokG a s (wI u 249 24 1) := TokG_cg h rfl rfl rfl (fun k hk => wI_f (by omega)) (wI_ne (by decide)) rfl
  obtain ⟨s1, u1, r1, r2, r3, r4, r5, _⟩ := T_adv hm h' (by omega) (by omega)
  have h1 : TokG (a + 1) (wI s1 219 6 1) u1 := TokG_cg r3 (wI_ne (by decide)) (wI_ne (by decide)) rfl (fun _ _ => rfl) rfl rfl
  rw [f_Vs_readAir_eq, f_R_readAir_eq, if_pos h24, r1, Option.bind_some, r2, Option.bind_some]
  dsimp only
  have kc1 : KC s (wI s1 219 6 1) := KC_trans (KC_of r4) (KC_w (by omega) (by omega))
  have kr1 : KR u u1 := KR_trans (KR_f (by omega)) (KR_of r5)
  rcases T_num hm h1 0 9 with ⟨v, s2, u2, v1, v2, v3, v4, q1, q2, q3, q4, q5, q6⟩ | ⟨s2, u2, q1, q2, q3, q4, q5⟩
  · rw [q1, Option.bind_some, q2, Option.bind_some]
    dsimp only
    have n5 := R_noted1 m 5 (by decide) u2
    rw [show ((5 : Nat) : Int) = 5 from rfl] at n5
    rw [n5, Option.bind_some, wI_at, if_neg (by omega), if_pos (Or.inr rfl)]
    refine ⟨1, _, _, rfl, rfl, KC_trans kc1 (KC_trans (KC_of q5) (KC_w (by omega) (by omega))), KR_trans kr1 (KR_trans (KR_of q6) (KR_w (by omega))), Or.inl ⟨rfl, ?_, ?_⟩⟩
    · exact TokG_mono (TokG_cg q4 (wI_ne (by decide)) (wI_ne (by decide)) rfl (fun k _ => by rw [wI_ne (by decide)]) (wI_ne (by decide)) rfl) (by have := h.2.1; omega) (by omega)
    · have eu : u2.1 252 = u.1 252 := by rw [q6.1 252 (by decide), r5.1 252 (by decide), wI_ne (by decide)]
      have en : u2.2 258 = u.2 258 := by rw [q6.2.1 258 (by decide), r5.2.1 258 (by decide), wI_2]
      have e24 : u2.1 249 24 = 1 := by rw [q6.2.2 24 (by omega), r5.2.2 24 (by omega), wI_at]
      have es : ∀ c, 220 ≤ c → c ≤ 231 → (wI s2 219 5 v).1 c = s.1 c := by
        intro c x y; rw [wI_ne (by omega), q5.1 c (by omega), wI_ne (by omega), r4.1 c (by omega)]
      have es2 : ∀ c, 219 ≤ c → c ≤ 231 → (wI s2 219 5 v).2 c = s.2 c := by
        intro c x y; rw [wI_2, q5.2.1 c (by omega), wI_2, r4.2.1 c (by omega)]
      have e219 : ∀ k, k ≠ 5 → k ≠ 6 → (wI s2 219 5 v).1 219 k = s.1 219 k := by
        intro k x y; rw [wI_f x, q5.1 219 (by decide), wI_f y, r4.1 219 (by decide)]
      have e6 : (wI s2 219 5 v).1 219 6 = 1 := by rw [wI_f (by decide), q5.1 219 (by decide), wI_at]
      have eA : ∀ k, k ≠ 5 → (wI u2 252 5 (u2.1 249 13)).1 252 k = u.1 252 k := by intro k hk; rw [wI_f hk, eu]
      have eA5 : (wI u2 252 5 (u2.1 249 13)).1 252 5 = v := by rw [wI_at, q3]
      have eN : (wI u2 252 5 (u2.1 249 13)).2 258 = u.2 258 := by rw [wI_2]; exact en
      have eH : (wI u2 252 5 (u2.1 249 13)).1 249 24 = 1 := by rw [wI_ne (by decide)]; exact e24
      generalize wI u2 252 5 (u2.1 249 13) = U at eA eA5 eN eH ⊢
      have e55 : (wI s2 219 5 v).1 219 5 = v := wI_at
      generalize wI s2 219 5 v = S at es es2 e219 e6 e55 ⊢
      obtain ⟨⟨w0, w1, w2, w3, w4, w5, w6, w7, w8, w9, w10⟩, ⟨x0, x1, x2, x3, x4, x5, x6, x7, x8, x9, x10⟩, ⟨n0, n1, n2⟩, a4, a5⟩ := hf
      refine ⟨⟨by rw [eA 0 (by decide)]; exact w0, by rw [eA 1 (by decide)]; exact w1, by rw [eA 2 (by decide)]; exact w2, by rw [eA 3 (by decide)]; exact w3, by rw [eA 4 (by decide)]; exact w4, by rw [eA5]; omega, ?_, ?_, ?_, ?_, ?_⟩, ⟨by rw [e219 0 (by decide) (by decide), eA 0 (by decide)]; exact x0, by rw [e219 1 (by decide) (by decide), eA 1 (by decide)]; exact x1, by rw [e219 2 (by decide) (by decide), eA 2 (by decide)]; exact x2, by rw [e219 3 (by decide) (by decide), eA 3 (by decide)]; exact x3, by rw [e219 4 (by decide) (by decide), eA 4 (by decide)]; exact x4, by rw [e55, eA5], ?_, ?_, ?_, ?_, Or.inr e6⟩, ⟨?_, ?_, ?_⟩, by rw [e6, eH], ?_⟩
      · intro b hb; rw [eA 0 (by decide)] at hb; rw [eA (6 + b) (by omega), eA (15 + b) (by omega)]; exact w6 b hb
      · intro b hb; rw [eA 1 (by decide)] at hb; rw [eA (24 + b) (by omega)]; exact w7 b hb
      · intro b hb; rw [eA 2 (by decide)] at hb; rw [eA (29 + b) (by omega), eA (41 + b) (by omega), eA (53 + b) (by omega), eA (65 + b) (by omega), eA 0 (by decide)]; exact w8 b hb
      · intro b hb; rw [eA 2 (by decide)] at hb ⊢; rw [eA (53 + b) (by omega)]; exact w9 b hb
      · intro b hb; rw [eA 4 (by decide)] at hb; rw [eA (77 + b) (by omega), eA (81 + b) (by omega)]; exact w10 b hb
      · intro b hb; rw [eA 0 (by decide)] at hb; rw [es 221 (by omega) (by omega), es 222 (by omega) (by omega), eA (6 + b) (by omega), eA (15 + b) (by omega)]; exact x6 b hb
      · intro b hb; rw [eA 1 (by decide)] at hb; rw [es 224 (by omega) (by omega), eA (24 + b) (by omega)]; exact x7 b hb
      · intro b hb; rw [eA 2 (by decide)] at hb; rw [es 226 (by omega) (by omega), es 227 (by omega) (by omega), es 228 (by omega) (by omega), es 229 (by omega) (by omega), eA (29 + b) (by omega), eA (41 + b) (by omega), eA (53 + b) (by omega), eA (65 + b) (by omega)]; exact x8 b hb
      · intro b hb; rw [eA 4 (by decide)] at hb; rw [es 230 (by omega) (by omega), es 231 (by omega) (by omega), eA (77 + b) (by omega), eA (81 + b) (by omega)]; exact x9 b hb
      · intro b hb; rw [eA 0 (by decide)] at hb; rw [eN, es2 220 (by omega) (by omega)]; exact n0 b hb
      · intro b hb; rw [eA 1 (by decide)] at hb; rw [eN, es2 223 (by omega) (by omega)]; exact n1 b hb
      · intro b hb; rw [eA 2 (by decide)] at hb; rw [eN, es2 225 (by omega) (by omega)]; exact n2 b hb
      · intro d hd1 hd2; rw [eA 2 (by decide)] at hd1; rw [es 228 (by omega) (by omega), es 229 (by omega) (by omega), eA (53 + d) (by omega), eA (65 + d) (by omega)]; exact a5 d hd1 hd2
  · rw [q1, Option.bind_some, q2, Option.bind_some]
    dsimp only
    rw [R_noted0, Option.bind_some, wI_at, if_pos rfl, if_pos (Or.inl rfl)]
    refine ⟨0, _, _, rfl, rfl, KC_trans kc1 (KC_trans (KC_of q4) (KC_w (by omega) (by omega))), KR_trans kr1 (KR_of q5), Or.inr ⟨rfl, ?_⟩⟩
    unfold Flt at q3 ⊢
    rw [wI_ne (by decide)]
    exact q3
