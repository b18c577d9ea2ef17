/-! ===== layer 3: tokenizer (3): the class's loops ===== -/
/-- what the class's reading of one token leaves alone -/
def TFr (s s' : mS) : Prop := (∀ c, c ≠ 1 → s'.1 c = s.1 c) ∧ (∀ k, k ≠ 2 → k ≠ 3 → k ≠ 5 → k ≠ 10 → k ≠ 11 → s'.1 1 k = s.1 1 k) ∧ (∀ c, c ≠ 1 → s'.2 c = s.2 c)
theorem TFr_refl (s : mS) : TFr s s := ⟨fun _ _ => rfl, fun _ _ _ _ _ _ => rfl, fun _ _ => rfl⟩
theorem TFr_trans {a b c : mS} (h : TFr a b) (g : TFr b c) : TFr a c :=
  ⟨fun x hx => (g.1 x hx).trans (h.1 x hx), fun k a1 a2 a3 a4 a5 => (g.2.1 k a1 a2 a3 a4 a5).trans (h.2.1 k a1 a2 a3 a4 a5), fun x hx => (g.2.2 x hx).trans (h.2.2 x hx)⟩
theorem TFr_w {s : mS} {k : Nat} {v : Int} (hk : k = 2 ∨ k = 3 ∨ k = 5 ∨ k = 10 ∨ k = 11) : TFr s (wI s 1 k v) :=
  ⟨fun c hc => wI_ne hc, fun j a1 a2 a3 a4 a5 => wI_f (by omega), fun _ _ => rfl⟩
theorem wJ_ne2 {s : mS} {c k : Nat} {v : Int} {x : Nat} (h : x ≠ c) : (wJ s c k v).2 x = s.2 x := by funext j; rw [wJ_2, if_neg (by omega)]
theorem wJ_f2 {s : mS} {c k : Nat} {v : Int} {j : Nat} (h : j ≠ k) : (wJ s c k v).2 c j = s.2 c j := by rw [wJ_2, if_neg (by omega)]
theorem wJ_at2 {s : mS} {c k : Nat} {v : Int} : (wJ s c k v).2 c k = v := by rw [wJ_2, if_pos ⟨rfl, rfl⟩]
theorem TFr_j {s : mS} {v : Int} : TFr s (wJ s 1 4 v) := ⟨fun _ _ => rfl, fun _ _ _ _ _ _ => rfl, fun _ hc => wJ_ne2 hc⟩
theorem C_skip (m x1 : Nat) (hx : x1 ≤ 940) : ∀ (d n p : Nat) (s : mS), s.1 1 10 = (p : Int) → p + d = x1 → d + 2 ≤ n → ∃ n', n ≤ n' + d + 1 ∧ l_Tp_advance_L20 m n (x1 : Int) s = l_Tp_advance_L69 m n' (x1 : Int) (wI s 1 10 ((skp (s.1 2) d p : Nat) : Int))
  | 0, n, p, s, hs, hp, hn => by
    obtain ⟨n0, rfl⟩ : ∃ n0, n = n0 + 1 := ⟨n - 1, by omega⟩
    refine ⟨n0, by omega, ?_⟩
    have e : skp (s.1 2) 0 p = p := by rw [skp]
    rw [l_Tp_advance_L20_eq, if_neg (by omega), e, ← hs, wI_self]
  | d + 1, n, p, s, hs, hp, hn => by
    obtain ⟨n0, rfl⟩ : ∃ n0, n = n0 + 1 := ⟨n - 1, by omega⟩
    have ep : (s.1 1 10).toNat = p := by omega
    rw [l_Tp_advance_L20_eq, if_pos (by omega), inR_pos (by omega) (by omega), inR_pos (by omega) (by omega), ep]
    by_cases c : isBl (s.1 2 p)
    · obtain ⟨n', h1, h2⟩ := C_skip m x1 hx d n0 (p + 1) (wI s 1 10 ((p + 1 : Nat) : Int)) wI_at (by omega) (by omega)
      have e : skp (s.1 2) (d + 1) p = skp (s.1 2) d (p + 1) := by rw [skp, if_pos c]
      have e2 : w32 (s.1 1 10 + 1) = ((p + 1 : Nat) : Int) := by rw [w32_in (by omega) (by omega)]; omega
      refine ⟨n', by omega, ?_⟩
      rw [e, e2, h2, wI_wI, wI_ne (by decide)]
      unfold isBl at c
      by_cases c1 : s.1 2 p = 32
      · rw [if_pos c1]
      · rw [if_neg c1, if_pos (by omega)]
    · have e : skp (s.1 2) (d + 1) p = p := by rw [skp, if_neg c]
      unfold isBl at c
      refine ⟨n0, by omega, ?_⟩
      rw [if_neg (by omega), if_neg (by omega), e, ← hs, wI_self]
/-- along a run of letters and digits: the class -/
def CI (B : Nat → Int) (e p0 n : Nat) (x2 x3 : Int) (s : mS) : Prop :=
  s.1 1 8 = (e : Int) ∧ s.1 1 10 = (p0 : Int) ∧ s.1 1 11 = ((p0 + n : Nat) : Int) ∧ s.1 2 = B ∧ x2 = (clt B p0 n : Int) ∧ x3 = (n : Int) - clt B p0 n ∧ (∀ k, k < n → isAl (B (p0 + k))) ∧
  (n ≤ 7 → clt B p0 n = n → s.2 1 4 = (E256 (wsl B p0 n) : Int)) ∧ (n ≤ 3 → clt B p0 n = 0 → s.1 1 5 = nvl B p0 n)
theorem dig_of {B : Nat → Int} {p n : Nat} (h : ∀ k, k < n → isAl (B (p + k))) (c : clt B p n = 0) : ∀ k, k < n → 48 ≤ B (p + k) ∧ B (p + k) ≤ 57 := by
  intro k hk
  have a := h k hk
  have b := clt_zero B p n c k hk
  unfold isAl at a
  unfold isLt at b
  omega
theorem C_run (m e p0 : Nat) (B : Nat → Int) (he : e ≤ 940) : ∀ (d f n : Nat) (x2 x3 : Int) (s : mS), CI B e p0 n x2 x3 s → p0 + n + d = e → 2 * d + 3 ≤ f →
    ∃ f' x2' x3' s', l_Tp_advance_L135 m f x2 x3 s = l_Tp_advance_L239 m f' x2' x3' s' ∧ 1 ≤ f' ∧ CI B e p0 (n + rnp B d (p0 + n)) x2' x3' s' ∧ TFr s s' ∧ s'.1 1 3 = s.1 1 3
  | 0, f, n, x2, x3, s, h, hp, hf => by
    obtain ⟨f0, rfl⟩ : ∃ f0, f = f0 + 1 := ⟨f - 1, by omega⟩
    obtain ⟨g1, g2, g3, g4⟩ := h
    refine ⟨f0, x2, x3, s, by rw [l_Tp_advance_L135_eq, if_neg (by omega)], by omega, ?_, TFr_refl s, rfl⟩
    have : rnp B 0 (p0 + n) = 0 := by rw [rnp]
    rw [this]
    exact ⟨g1, g2, g3, g4⟩
  | d + 1, f, n, x2, x3, s, h, hp, hf => by
    obtain ⟨f0, rfl⟩ : ∃ f0, f = f0 + 1 := ⟨f - 1, by omega⟩
    obtain ⟨g1, g2, g3, g4, g5, g6, g7, g8, g9⟩ := h
    have cl := clt_le B p0 n
    have ep : (s.1 1 11).toNat = p0 + n := by omega
    have eB : s.1 2 (p0 + n) = B (p0 + n) := by rw [g4]
    rw [l_Tp_advance_L135_eq, if_pos (by omega), inR_pos (by omega) (by omega), ep, eB]
    by_cases c : isAl (B (p0 + n))
    · have er : rnp B (d + 1) (p0 + n) = rnp B d (p0 + (n + 1)) + 1 := by rw [rnp, if_pos c]; rfl
      have al : ∀ k, k < n + 1 → isAl (B (p0 + k)) := by
        intro k hk
        by_cases q : k = n
        · rw [q]; exact c
        · exact g7 k (by omega)
      by_cases cL : isLt (B (p0 + n))
      · have ec : clt B p0 (n + 1) = clt B p0 n + 1 := by rw [clt, if_pos cL]
        unfold isLt at cL
        rw [if_neg (by omega), if_neg (by omega)]
        have e11 : (wJ s 1 4 (lbor (lbshl (s.2 1 4) 8) (B (p0 + n)))).1 1 11 = ((p0 + n : Nat) : Int) := g3
        rw [e11, w32_in (x := ((p0 + n : Nat) : Int) + 1) (by omega) (by omega), w32_in (x := x2 + 1) (by omega) (by omega)]
        have hI : CI B e p0 (n + 1) (x2 + 1) x3 (wI (wJ s 1 4 (lbor (lbshl (s.2 1 4) 8) (B (p0 + n)))) 1 11 (((p0 + n : Nat) : Int) + 1)) := by
          refine ⟨by rw [wI_f (by decide)]; exact g1, by rw [wI_f (by decide)]; exact g2, by rw [wI_at]; omega, by rw [wI_ne (by decide)]; exact g4, by rw [ec]; omega, by rw [ec]; omega, al, fun h7 hc => ?_, fun _ hc => by omega⟩
          have q := g8 (by omega) (by omega)
          have bd := E256_lt n (wsl B p0 n) (wsl_len B p0 n) (fun l hl => (wsl_mem B p0 n (clt_full B p0 n (by omega)) l hl).2)
          have pw : 256 ^ n ≤ 256 ^ 6 := Nat.pow_le_pow_right (by omega) (by omega)
          rw [wI_2, wJ_at2, q, lbshl8 (by omega), show B (p0 + n) = ((96 + (B (p0 + n) - 96).toNat : Nat) : Int) from by omega, lbor_add (by omega) (by omega), wsl, E256_snoc]
        obtain ⟨f', y2, y3, s', r1, r2, r3, r4, r5⟩ := C_run m e p0 B he d f0 (n + 1) (x2 + 1) x3 _ hI (by omega) (by omega)
        refine ⟨f', y2, y3, s', r1, r2, ?_, TFr_trans (TFr_trans TFr_j (TFr_w (by omega))) r4, ?_⟩
        · rw [er, show n + (rnp B d (p0 + (n + 1)) + 1) = n + 1 + rnp B d (p0 + (n + 1)) from by omega]; exact r3
        · rw [r5, wI_f (by decide)]; rfl
      · have ec : clt B p0 (n + 1) = clt B p0 n := by rw [clt, if_neg cL]; rfl
        have c' := c
        unfold isAl at c'
        unfold isLt at cL
        obtain ⟨f1, rfl⟩ : ∃ f1, f0 = f1 + 1 := ⟨f0 - 1, by omega⟩
        rw [if_pos (by omega), l_Tp_advance_L192_eq, if_neg (by omega), if_neg (by omega)]
        generalize hv : w32 (w32 (w32 (s.1 1 5 * 10) + B (p0 + n)) - 48) = v
        have e11 : (wI s 1 5 v).1 1 11 = ((p0 + n : Nat) : Int) := by rw [wI_f (by decide)]; exact g3
        rw [e11, w32_in (x := ((p0 + n : Nat) : Int) + 1) (by omega) (by omega), w32_in (x := x3 + 1) (by omega) (by omega)]
        have hI : CI B e p0 (n + 1) x2 (x3 + 1) (wI (wI s 1 5 v) 1 11 (((p0 + n : Nat) : Int) + 1)) := by
          refine ⟨by rw [wI_f (by decide), wI_f (by decide)]; exact g1, by rw [wI_f (by decide), wI_f (by decide)]; exact g2, by rw [wI_at]; omega, by rw [wI_ne (by decide), wI_ne (by decide)]; exact g4, by rw [ec]; omega, by rw [ec]; omega, al, fun _ hc => by omega, fun h3 hc => ?_⟩
          have q := g9 (by omega) (by omega)
          have bd := nvl_999 B p0 (n := n) (by omega) (dig_of g7 (by omega))
          rw [wI_f (by decide), wI_at, ← hv, q, nvl]
          generalize nvl B p0 n = y at bd ⊢
          clear hv g8 g9
          rw [w32_in (x := y * 10) (by omega) (by omega), w32_in (x := y * 10 + B (p0 + n)) (by omega) (by omega), w32_in (by omega) (by omega)]
          omega
        obtain ⟨f', y2, y3, s', r1, r2, r3, r4, r5⟩ := C_run m e p0 B he d f1 (n + 1) x2 (x3 + 1) _ hI (by omega) (by omega)
        refine ⟨f', y2, y3, s', r1, r2, ?_, TFr_trans (TFr_trans (TFr_w (by omega)) (TFr_w (by omega))) r4, ?_⟩
        · rw [er, show n + (rnp B d (p0 + (n + 1)) + 1) = n + 1 + rnp B d (p0 + (n + 1)) from by omega]; exact r3
        · rw [r5, wI_f (by decide), wI_f (by decide)]
    · have er : rnp B (d + 1) (p0 + n) = 0 := by rw [rnp, if_neg c]
      unfold isAl at c
      rw [er]
      obtain ⟨f1, rfl⟩ : ∃ f1, f0 = f1 + 1 := ⟨f0 - 1, by omega⟩
      refine ⟨f1, x2, x3, s, ?_, by omega, ⟨g1, g2, g3, g4, g5, g6, g7, g8, g9⟩, TFr_refl s, rfl⟩
      by_cases q : B (p0 + n) < 97
      · rw [if_pos q, l_Tp_advance_L192_eq]
        by_cases q2 : B (p0 + n) < 48
        · rw [if_pos q2]
        · rw [if_neg q2, if_pos (by omega)]
      · rw [if_neg q, if_pos (by omega), l_Tp_advance_L192_eq, if_neg (by omega), if_pos (by omega)]
