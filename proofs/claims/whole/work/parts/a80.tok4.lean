/-! ===== layer 3: tokenizer (4): the reference's loops ===== -/
def RFr (s s' : mS) : Prop := (∀ c, c ≠ 249 → s'.1 c = s.1 c) ∧ (∀ k, k ≠ 5 → k ≠ 6 → k ≠ 7 → k ≠ 8 → k ≠ 9 → s'.1 249 k = s.1 249 k) ∧ (∀ c, c ≠ 249 → s'.2 c = s.2 c)
theorem RFr_refl (s : mS) : RFr s s := ⟨fun _ _ => rfl, fun _ _ _ _ _ _ => rfl, fun _ _ => rfl⟩
theorem RFr_trans {a b c : mS} (h : RFr a b) (g : RFr b c) : RFr a c :=
  ⟨fun x hx => (g.1 x hx).trans (h.1 x hx), fun k a1 a2 a3 a4 a5 => (g.2.1 k a1 a2 a3 a4 a5).trans (h.2.1 k a1 a2 a3 a4 a5), fun x hx => (g.2.2 x hx).trans (h.2.2 x hx)⟩
theorem RFr_w {s : mS} {k : Nat} {v : Int} (hk : 5 ≤ k ∧ k ≤ 9) : RFr s (wI s 249 k v) :=
  ⟨fun c hc => wI_ne hc, fun j a1 a2 a3 a4 a5 => wI_f (by omega), fun _ _ => rfl⟩
theorem RFr_j {s : mS} {v : Int} : RFr s (wJ s 249 12 v) := ⟨fun _ _ => rfl, fun _ _ _ _ _ _ => rfl, fun _ hc => wJ_ne2 hc⟩
def goK (m n : Nat) (s : mS) : Option (Int × mS) :=
  if s.1 249 4 < s.1 249 3 ∧ s.1 249 4 ≤ s.1 249 5 then some (0, wI (wI s 249 6 (s.1 249 4)) 249 7 1) else l_R_go_L96 m n (wI s 249 6 (s.1 249 5))
theorem goK_eq (m n : Nat) (s : mS) : (if (wI s 249 6 (s.1 249 5)).1 249 4 < (wI s 249 6 (s.1 249 5)).1 249 3 then (if (wI s 249 6 (s.1 249 5)).1 249 6 < (wI s 249 6 (s.1 249 5)).1 249 4 then (l_R_go_L96 m n (wI s 249 6 (s.1 249 5))) else (some (0, wI (wI (wI s 249 6 (s.1 249 5)) 249 6 ((wI s 249 6 (s.1 249 5)).1 249 4)) 249 7 1))) else (l_R_go_L96 m n (wI s 249 6 (s.1 249 5)))) = goK m n s := by
  have e4 : (wI s 249 6 (s.1 249 5)).1 249 4 = s.1 249 4 := wI_f (by decide)
  have e3 : (wI s 249 6 (s.1 249 5)).1 249 3 = s.1 249 3 := wI_f (by decide)
  have e6 : (wI s 249 6 (s.1 249 5)).1 249 6 = s.1 249 5 := wI_at
  rw [e4, e3, e6, wI_wI]
  unfold goK
  by_cases c1 : s.1 249 4 < s.1 249 3
  · rw [if_pos c1]
    by_cases c2 : s.1 249 5 < s.1 249 4
    · rw [if_pos c2, if_neg (by omega)]
    · rw [if_neg c2, if_pos (by omega)]
  · rw [if_neg c1, if_neg (by omega)]
theorem R_go0 (m : Nat) (s : mS) : f_R_go m s = l_R_go_L0 m (m + 1) s := by rw [f_R_go_eq, l_R_go_L0_eq]
theorem R_skip (m e : Nat) (B : Nat → Int) (hB : ∀ k, k < 940 → -128 ≤ B k ∧ B k < 128) (he : e ≤ 940) : ∀ (d n p : Nat) (s : mS), s.1 249 5 = (p : Int) → s.1 249 3 = (e : Int) → (∀ k, k < 940 → s.1 250 k = B k % 256) → p + d = e → d + 2 ≤ n → ∃ n', n ≤ n' + d + 1 ∧ l_R_go_L0 m n s = goK m n' (wI s 249 5 ((skp B d p : Nat) : Int))
  | 0, n, p, s, hs, h3, hU, hp, hn => by
    obtain ⟨n0, rfl⟩ : ∃ n0, n = n0 + 1 := ⟨n - 1, by omega⟩
    refine ⟨n0, by omega, ?_⟩
    have e : skp B 0 p = p := by rw [skp]
    rw [l_R_go_L0_eq, if_neg (by omega), goK_eq, e, ← hs, wI_self]
  | d + 1, n, p, s, hs, h3, hU, hp, hn => by
    obtain ⟨n0, rfl⟩ : ∃ n0, n = n0 + 1 := ⟨n - 1, by omega⟩
    have ep : (s.1 249 5).toNat = p := by omega
    have hb := hB p (by omega)
    have hu := hU p (by omega)
    rw [l_R_go_L0_eq, if_pos (by omega), inR_pos (by omega) (by omega), inR_pos (by omega) (by omega), ep, goK_eq]
    by_cases c : isBl (B p)
    · obtain ⟨n', h1, h2⟩ := R_skip m e B hB he d n0 (p + 1) (wI s 249 5 ((p + 1 : Nat) : Int)) wI_at (by rw [wI_f (by decide)]; exact h3) (fun k hk => by rw [wI_ne (by decide)]; exact hU k hk) (by omega) (by omega)
      have e : skp B (d + 1) p = skp B d (p + 1) := by rw [skp, if_pos c]
      have e2 : w32 (s.1 249 5 + 1) = ((p + 1 : Nat) : Int) := by rw [w32_in (by omega) (by omega)]; omega
      refine ⟨n', by omega, ?_⟩
      rw [e, e2, h2, wI_wI]
      unfold isBl at c
      by_cases c1 : s.1 250 p = 32
      · rw [if_pos c1]
      · rw [if_neg c1, if_pos (by omega)]
    · have e : skp B (d + 1) p = p := by rw [skp, if_neg c]
      unfold isBl at c
      refine ⟨n0, by omega, ?_⟩
      rw [if_neg (by omega), if_neg (by omega), e, ← hs, wI_self]
theorem R_isLt (m : Nat) (c : Int) (s : mS) : f_R_isLetter m c s = some (if isLt c then 1 else 0, s) := by
  rw [f_R_isLetter_eq]
  by_cases h : isLt c
  · rw [if_pos h]; unfold isLt at h; rw [if_neg (by omega), if_neg (by omega)]
  · rw [if_neg h]; unfold isLt at h
    by_cases g : c < 97
    · rw [if_pos g]
    · rw [if_neg g, if_pos (by omega)]
theorem R_isDg (m : Nat) (c : Int) (s : mS) : f_R_isDigit m c s = some (if 48 ≤ c ∧ c ≤ 57 then 1 else 0, s) := by
  rw [f_R_isDigit_eq]
  by_cases h : 48 ≤ c ∧ c ≤ 57
  · rw [if_pos h, if_neg (by omega), if_neg (by omega)]
  · rw [if_neg h]
    by_cases g : c < 48
    · rw [if_pos g]
    · rw [if_neg g, if_pos (by omega)]
theorem isLt_mod {c : Int} (h : -128 ≤ c ∧ c < 128) : isLt (c % 256) ↔ isLt c := by unfold isLt; omega
theorem isAl_mod {c : Int} (h : isAl c) : c % 256 = c := by unfold isAl at h; omega
/-- along a run of letters and digits: the reference -/
def RI (B : Nat → Int) (e p0 n : Nat) (x2 x3 : Int) (u : mS) : Prop :=
  u.1 249 3 = (e : Int) ∧ u.1 249 6 = (p0 : Int) ∧ u.1 249 5 = ((p0 + n : Nat) : Int) ∧ (∀ k, k < 940 → u.1 250 k = B k % 256) ∧ x2 = (if isLt (B p0) then 1 else 0) ∧
  x3 = (if clt B p0 n = (if isLt (B p0) then n else 0) then 1 else 0) ∧ (∀ k, k < n → isAl (B (p0 + k))) ∧
  (n ≤ 7 → clt B p0 n = n → u.2 249 12 = (E27 (wsl B p0 n) : Int)) ∧ (n ≤ 3 → clt B p0 n = 0 → u.1 249 8 = nvl B p0 n)
def gkd (B : Nat → Int) (p0 n : Nat) : Int := if clt B p0 n = (if isLt (B p0) then n else 0) then (if isLt (B p0) then (if 7 < n then 1 else 2) else (if 3 < n then 1 else 3)) else 1
theorem R_243 (m e p0 f n : Nat) (B : Nat → Int) (x2 x3 : Int) (u : mS) (hB : ∀ k, k < 940 → -128 ≤ B k ∧ B k < 128) (he : e ≤ 940) (h : RI B e p0 n x2 x3 u) (hp : p0 + n < e) (hc : isAl (B (p0 + n))) :
    ∃ v, l_R_go_L243 m (f + 1) x2 x3 u = l_R_go_L307 m f x2 (if clt B p0 (n + 1) = (if isLt (B p0) then n + 1 else 0) then 1 else 0) (B (p0 + n)) v ∧ v.1 = u.1 ∧ (∀ c, c ≠ 249 → v.2 c = u.2 c) ∧ (n + 1 ≤ 7 → clt B p0 (n + 1) = n + 1 → v.2 249 12 = (E27 (wsl B p0 (n + 1)) : Int)) := by
  obtain ⟨g1, g2, g3, g4, g5, g6, g7, g8, g9⟩ := h
  have cl := clt_le B p0 n
  have ep : (u.1 249 5).toNat = p0 + n := by omega
  have eU : u.1 250 (p0 + n) = B (p0 + n) := by rw [g4 _ (by omega), isAl_mod hc]
  have ed : w32 (u.1 249 5 - u.1 249 6) = (n : Int) := by rw [g3, g2, w32_in (by omega) (by omega)]; omega
  have ew : n + 1 ≤ 7 → clt B p0 (n + 1) = n + 1 → w64 (w64 (w64 (27 * u.2 249 12) + B (p0 + n)) - 96) = (E27 (wsl B p0 (n + 1)) : Int) := by
    intro h7 hh
    have cL : isLt (B (p0 + n)) := clt_full B p0 (n + 1) hh n (by omega)
    have cn : clt B p0 n = n := by rw [clt, if_pos cL] at hh; omega
    have q := g8 (by omega) cn
    have bd := E27_lt n (wsl B p0 n) (wsl_len B p0 n) (fun l hl => (wsl_mem B p0 n (clt_full B p0 n cn) l hl).2)
    have pw : 27 ^ n ≤ 27 ^ 6 := Nat.pow_le_pow_right (by omega) (by omega)
    have p6 : 27 ^ 6 = 387420489 := by decide
    rw [wsl, E27_snoc, q]
    unfold isLt at cL
    generalize E27 (wsl B p0 n) = y at bd ⊢
    clear hh g8 g9 q
    rw [w64_in (x := 27 * (y : Int)) (by omega) (by omega), w64_in (x := 27 * (y : Int) + B (p0 + n)) (by omega) (by omega), w64_in (by omega) (by omega)]
    omega
  have key : ∃ v, (if (n : Int) < 7 then v = wJ u 249 12 (w64 (w64 (w64 (27 * u.2 249 12) + B (p0 + n)) - 96)) else v = u) ∧ v.1 = u.1 ∧ (∀ c, c ≠ 249 → v.2 c = u.2 c) ∧ (n + 1 ≤ 7 → clt B p0 (n + 1) = n + 1 → v.2 249 12 = (E27 (wsl B p0 (n + 1)) : Int)) := by
    by_cases c7 : (n : Int) < 7
    · exact ⟨wJ u 249 12 (w64 (w64 (w64 (27 * u.2 249 12) + B (p0 + n)) - 96)), by rw [if_pos c7], rfl, fun c hc => wJ_ne2 hc, fun h7 hh => by rw [wJ_at2]; exact ew h7 hh⟩
    · exact ⟨u, by rw [if_neg c7], rfl, fun _ _ => rfl, fun h7 _ => by omega⟩
  obtain ⟨v, k1, k2, k3, k4⟩ := key
  refine ⟨v, ?_, k2, k3, k4⟩
  rw [l_R_go_L243_eq, inR_pos (by omega) (by omega), ep, eU, R_isLt, Option.bind_some]
  dsimp only
  rw [ed]
  have fl : ∀ b : Bool, True := fun _ => trivial
  by_cases L : isLt (B p0)
  · rw [if_pos L] at g5 g6
    rw [if_pos L]
    by_cases cn : clt B p0 n = n
    · rw [if_pos cn] at g6
      rw [if_neg (show ¬ x3 = 0 from by omega)]
      by_cases cL : isLt (B (p0 + n))
      · have ec : clt B p0 (n + 1) = n + 1 := by rw [clt, if_pos cL, cn]
        rw [if_pos cL, if_pos g5.symm, if_pos ec]
        by_cases c7 : (n : Int) < 7
        · rw [if_pos c7] at k1 ⊢; rw [k1]
        · rw [if_neg c7] at k1 ⊢; rw [k1]
      · have ec : clt B p0 (n + 1) ≠ n + 1 := by rw [clt, if_neg cL]; omega
        rw [if_neg cL, if_neg (by omega), if_neg ec]
        by_cases c7 : (n : Int) < 7
        · rw [if_pos c7] at k1 ⊢; rw [k1]
        · rw [if_neg c7] at k1 ⊢; rw [k1]
    · rw [if_neg cn] at g6
      have ec : clt B p0 (n + 1) ≠ n + 1 := by rw [clt]; split <;> omega
      rw [if_pos g6, if_neg ec]
      by_cases c7 : (n : Int) < 7
      · rw [if_pos c7] at k1 ⊢; rw [k1]
      · rw [if_neg c7] at k1 ⊢; rw [k1]
  · rw [if_neg L] at g5 g6
    rw [if_neg L]
    by_cases cn : clt B p0 n = 0
    · rw [if_pos cn] at g6
      rw [if_neg (show ¬ x3 = 0 from by omega)]
      by_cases cL : isLt (B (p0 + n))
      · have ec : clt B p0 (n + 1) ≠ 0 := by rw [clt, if_pos cL]; omega
        rw [if_pos cL, if_neg (by omega), if_neg ec]
        by_cases c7 : (n : Int) < 7
        · rw [if_pos c7] at k1 ⊢; rw [k1]
        · rw [if_neg c7] at k1 ⊢; rw [k1]
      · have ec : clt B p0 (n + 1) = 0 := by rw [clt, if_neg cL]; omega
        rw [if_neg cL, if_pos g5.symm, if_pos ec]
        by_cases c7 : (n : Int) < 7
        · rw [if_pos c7] at k1 ⊢; rw [k1]
        · rw [if_neg c7] at k1 ⊢; rw [k1]
    · rw [if_neg cn] at g6
      have ec : clt B p0 (n + 1) ≠ 0 := by rw [clt]; omega
      rw [if_pos g6, if_neg ec]
      by_cases c7 : (n : Int) < 7
      · rw [if_pos c7] at k1 ⊢; rw [k1]
      · rw [if_neg c7] at k1 ⊢; rw [k1]
/-- one letter or digit -/
theorem R_step (m e p0 f n : Nat) (B : Nat → Int) (x2 x3 : Int) (u : mS) (hB : ∀ k, k < 940 → -128 ≤ B k ∧ B k < 128) (he : e ≤ 940) (h : RI B e p0 n x2 x3 u) (hp : p0 + n < e) (hc : isAl (B (p0 + n))) :
    ∃ x3' w, l_R_go_L215 m (f + 1 + 1 + 1) x2 x3 u = l_R_go_L215 m f x2 x3' w ∧ RI B e p0 (n + 1) x2 x3' w ∧ RFr u w := by
  obtain ⟨v, r1, r2, r3, r4⟩ := R_243 m e p0 (f + 1) n B x2 x3 u hB he h hp hc
  obtain ⟨g1, g2, g3, g4, g5, g6, g7, g8, g9⟩ := h
  have cl := clt_le B p0 n
  have ep : (u.1 249 5).toNat = p0 + n := by omega
  have eU : u.1 250 (p0 + n) = B (p0 + n) := by rw [g4 _ (by omega), isAl_mod hc]
  have ta : f_R_tapeAt m (u.1 249 5) u = some (B (p0 + n), u) := by rw [f_R_tapeAt_eq, if_pos (by omega), inR_pos (by omega) (by omega), ep, eU]
  have step1 : l_R_go_L215 m (f + 1 + 1 + 1) x2 x3 u = l_R_go_L243 m (f + 1 + 1) x2 x3 u := by
    rw [l_R_go_L215_eq, ta, Option.bind_some]
    dsimp only
    rw [R_isLt, Option.bind_some]
    dsimp only
    by_cases cL : isLt (B (p0 + n))
    · rw [if_pos cL, if_neg (by decide)]
    · rw [if_neg cL, if_pos rfl, ta, Option.bind_some]
      dsimp only
      rw [R_isDg, Option.bind_some]
      dsimp only
      unfold isAl at hc
      unfold isLt at cL
      rw [if_pos (show 48 ≤ B (p0 + n) ∧ B (p0 + n) ≤ 57 from by omega), if_neg (by decide)]
  have al : ∀ k, k < n + 1 → isAl (B (p0 + k)) := by
    intro k hk
    by_cases q : k = n
    · rw [q]; exact hc
    · exact g7 k (by omega)
  have v5 : v.1 249 5 = ((p0 + n : Nat) : Int) := by rw [r2]; exact g3
  have v6 : v.1 249 6 = (p0 : Int) := by rw [r2]; exact g2
  have ed : w32 (v.1 249 5 - v.1 249 6) = (n : Int) := by rw [v5, v6, w32_in (by omega) (by omega)]; omega
  have Fuv : RFr u v := ⟨fun c _ => by rw [r2], fun k _ _ _ _ _ => by rw [r2], r3⟩
  rw [step1, r1, l_R_go_L307_eq, ed]
  by_cases c3 : (n : Int) < 3
  · rw [if_pos c3]
    generalize hz : w32 (w32 (w32 (10 * v.1 249 8) + B (p0 + n)) - 48) = z
    have e5 : (wI v 249 8 z).1 249 5 = ((p0 + n : Nat) : Int) := by rw [wI_f (by decide)]; exact v5
    rw [e5, w32_in (x := ((p0 + n : Nat) : Int) + 1) (by omega) (by omega)]
    refine ⟨_, _, rfl, ⟨by rw [wI_f (by decide), wI_f (by decide), r2]; exact g1, by rw [wI_f (by decide), wI_f (by decide)]; exact v6, by rw [wI_at]; omega, fun k hk => by rw [wI_ne (by decide), wI_ne (by decide), r2]; exact g4 k hk, g5, rfl, al, fun h7 hh => r4 h7 hh, fun h3 hh => ?_⟩, RFr_trans Fuv (RFr_trans (RFr_w (by omega)) (RFr_w (by omega)))⟩
    have cn : clt B p0 n = 0 := by rw [clt] at hh; omega
    have q := g9 (by omega) cn
    have bd := nvl_999 B p0 (n := n) (by omega) (dig_of g7 cn)
    have dg := dig_of al hh n (by omega)
    rw [wI_f (by decide), wI_at, ← hz, r2, q, nvl]
    generalize nvl B p0 n = y at bd ⊢
    clear hz g8 g9 q ed r4
    rw [w32_in (x := 10 * y) (by omega) (by omega), w32_in (x := 10 * y + B (p0 + n)) (by omega) (by omega), w32_in (by omega) (by omega)]
    omega
  · rw [if_neg c3, v5, w32_in (x := ((p0 + n : Nat) : Int) + 1) (by omega) (by omega)]
    exact ⟨_, _, rfl, ⟨by rw [wI_f (by decide), r2]; exact g1, by rw [wI_f (by decide)]; exact v6, by rw [wI_at]; omega, fun k hk => by rw [wI_ne (by decide), r2]; exact g4 k hk, g5, rfl, al, fun h7 hh => r4 h7 hh, fun h3 hh => by omega⟩, RFr_trans Fuv (RFr_w (by omega))⟩
theorem R_run (m e p0 : Nat) (B : Nat → Int) (hB : ∀ k, k < 940 → -128 ≤ B k ∧ B k < 128) (he : e ≤ 940) : ∀ (d f n : Nat) (x2 x3 : Int) (u : mS), RI B e p0 n x2 x3 u → p0 + n + d = e → 3 * d + 2 ≤ f →
    ∃ y3 u', l_R_go_L215 m f x2 x3 u = some (0, wI u' 249 7 (gkd B p0 (n + rnp B d (p0 + n)))) ∧ RI B e p0 (n + rnp B d (p0 + n)) x2 y3 u' ∧ RFr u u' := by
  have stop : ∀ (f n : Nat) (x2 x3 : Int) (u : mS), RI B e p0 n x2 x3 u → (p0 + n < e → ¬ isAl (B (p0 + n))) → p0 + n ≤ e → l_R_go_L215 m (f + 1) x2 x3 u = some (0, wI u 249 7 (gkd B p0 n)) := by
    intro f n x2 x3 u h hs hp
    obtain ⟨g1, g2, g3, g4, g5, g6, g7, g8, g9⟩ := h
    have ed : w32 (u.1 249 5 - u.1 249 6) = (n : Int) := by rw [g3, g2, w32_in (by omega) (by omega)]; omega
    have ta : ∃ c, f_R_tapeAt m (u.1 249 5) u = some (c, u) ∧ ¬ isLt c ∧ ¬ (48 ≤ c ∧ c ≤ 57) := by
      by_cases q : p0 + n < e
      · have hb := hB (p0 + n) (by omega)
        have hs' := hs q
        refine ⟨u.1 250 (p0 + n), by rw [f_R_tapeAt_eq, if_pos (by omega), inR_pos (by omega) (by omega), show (u.1 249 5).toNat = p0 + n from by omega], ?_, ?_⟩
        · rw [g4 _ (by omega), isLt_mod hb]; unfold isAl at hs'; unfold isLt; omega
        · rw [g4 _ (by omega)]; unfold isAl at hs'; omega
      · exact ⟨0, by rw [f_R_tapeAt_eq, if_neg (by omega)], by decide, by decide⟩
    obtain ⟨c, t1, t2, t3⟩ := ta
    rw [l_R_go_L215_eq, t1, Option.bind_some]
    dsimp only
    rw [R_isLt, Option.bind_some]
    dsimp only
    rw [if_neg t2, if_pos rfl, t1, Option.bind_some]
    dsimp only
    rw [R_isDg, Option.bind_some]
    dsimp only
    rw [if_neg t3, if_pos rfl, ed]
    unfold gkd
    by_cases L : isLt (B p0)
    · rw [if_pos L] at g5 g6
      rw [if_pos L, if_pos L]
      by_cases cn : clt B p0 n = n
      · rw [if_pos cn] at g6
        rw [if_neg (by omega), if_neg (by omega), if_pos cn]
        by_cases c7 : 7 < n
        · rw [if_pos (by omega), if_pos c7]
        · rw [if_neg (by omega), if_neg c7, if_neg (by omega)]
      · rw [if_neg cn] at g6
        rw [if_pos g6, if_neg cn]
    · rw [if_neg L] at g5 g6
      rw [if_neg L, if_neg L]
      by_cases cn : clt B p0 n = 0
      · rw [if_pos cn] at g6
        rw [if_neg (by omega), if_pos g5, if_pos cn]
        by_cases c7 : 3 < n
        · rw [if_pos (by omega), if_pos c7]
        · rw [if_neg (by omega), if_neg c7, if_pos g5]
      · rw [if_neg cn] at g6
        rw [if_pos g6, if_neg cn]
  intro d
  induction d with
  | zero =>
    intro f n x2 x3 u h hp hf
    obtain ⟨f0, rfl⟩ : ∃ f0, f = f0 + 1 := ⟨f - 1, by omega⟩
    have er : rnp B 0 (p0 + n) = 0 := by rw [rnp]
    rw [er]
    exact ⟨x3, u, stop f0 n x2 x3 u h (fun q => by omega) (by omega), h, RFr_refl u⟩
  | succ d ih =>
    intro f n x2 x3 u h hp hf
    by_cases c : isAl (B (p0 + n))
    · obtain ⟨f0, rfl⟩ : ∃ f0, f = f0 + 1 + 1 + 1 := ⟨f - 3, by omega⟩
      obtain ⟨x3', w, r1, r2, r3⟩ := R_step m e p0 f0 n B x2 x3 u hB he h (by omega) c
      obtain ⟨y3, u', q1, q2, q3⟩ := ih f0 (n + 1) x2 x3' w r2 (by omega) (by omega)
      have er : n + rnp B (d + 1) (p0 + n) = n + 1 + rnp B d (p0 + (n + 1)) := by
        rw [rnp, if_pos c, show p0 + n + 1 = p0 + (n + 1) from by omega]; omega
      rw [er]
      exact ⟨y3, u', by rw [r1, q1], q2, RFr_trans r3 q3⟩
    · obtain ⟨f0, rfl⟩ : ∃ f0, f = f0 + 1 := ⟨f - 1, by omega⟩
      have er : rnp B (d + 1) (p0 + n) = 0 := by rw [rnp, if_neg c]
      rw [er]
      exact ⟨x3, u, stop f0 n x2 x3 u h (fun _ => c) (by omega), h, RFr_refl u⟩
