/-! ===== layer 3: ring ===== -/
def nextA (A : Row) (d : Int) : Int := if A (65 + d.toNat) = 0 then -1 else if A (6 + (A (65 + d.toNat) - 1).toNat) < A (29 + d.toNat) then -1 else A (95 + (A (65 + d.toNat) - 1).toNat)
theorem nextA_in {A : Row} (h : WF A) {d : Nat} (hd : (d : Int) < A 2) : -1 ≤ nextA A (d : Int) ∧ nextA A (d : Int) < A 2 := by
  have w2 := WFv_dead h.1
  have ho := WFv_one h.1 hd
  unfold nextA
  rw [Int.toNat_natCast]
  by_cases c : A (65 + d) = 0
  · rw [if_pos c]; omega
  · rw [if_neg c]
    by_cases c2 : A (6 + (A (65 + d) - 1).toNat) < A (29 + d)
    · rw [if_pos c2]; omega
    · rw [if_neg c2]
      rcases WFs_lier h.2.1 (b := (A (65 + d) - 1).toNat) (by omega) with q | q <;> omega
def rres (A : Row) (f : Int) : Nat → Nat → Int → Int
  | 0, _, _ => -1
  | n + 1, k, a => if a = -1 then -1 else if nextA A a = f then (k : Int) + 1 else rres A f n (k + 1) (nextA A a)
theorem rres_s (A : Row) (f : Int) (n k : Nat) (a : Int) : rres A f (n + 1) k a = if a = -1 then -1 else if nextA A a = f then (k : Int) + 1 else rres A f n (k + 1) (nextA A a) := rfl
theorem rres_m (A : Row) (f : Int) : ∀ n k : Nat, rres A f n k (-1) = -1
  | 0, _ => rfl
  | n + 1, _ => by rw [rres_s, if_pos rfl]
theorem rres_in (A : Row) (f : Int) : ∀ (n k : Nat) (a : Int), rres A f n k a = -1 ∨ ((k : Int) < rres A f n k a ∧ rres A f n k a ≤ k + n)
  | 0, _, _ => Or.inl rfl
  | n + 1, k, a => by
    rw [rres_s]
    by_cases c : a = -1
    · rw [if_pos c]; exact Or.inl rfl
    · rw [if_neg c]
      by_cases c2 : nextA A a = f
      · rw [if_pos c2]; right; omega
      · rw [if_neg c2]
        rcases rres_in A f n (k + 1) (nextA A a) with q | q
        · exact Or.inl q
        · right; omega
def rgF (A : Row) : Nat → Int → Int
  | 0, a => a
  | j + 1, a => rgF A j (nextA A a)
theorem rgF_s (A : Row) (j : Nat) (a : Int) : rgF A (j + 1) a = rgF A j (nextA A a) := rfl
theorem rgF_e (A : Row) : ∀ (j : Nat) (a : Int), rgF A (j + 1) a = nextA A (rgF A j a)
  | 0, _ => rfl
  | j + 1, a => by rw [rgF_s, rgF_e A j, ← rgF_s]
theorem C_ringL {A : Row} (h : WF A) {m : Nat} {f : Nat} (hf : (f : Int) < A 2) (hl : A (164 + f) = 2) (w : Int) : ∀ (k n i : Nat) (s : mS) (a : Nat), SR s 17 A → VR s 4 A → (a : Int) < A 2 → i + k = 12 → 2 * k < n →
    wp (l_X_ringFrom_L19 m n w (A (176 + f)) (a : Int) (i : Int) s) (fun r s' => r = rres A (f : Int) k i (a : Int) ∧ (w = 0 → s' = s) ∧ only s s' 246 247 ∧ (∀ j, j < i → s'.1 246 j = s.1 246 j) ∧ (w ≠ 0 → ∀ j : Nat, i ≤ j → (j : Int) < r → s'.1 246 j = rgF A (j - i) (a : Int))) := by
  have w0 := WFv_boxes h.1
  have w2 := WFv_dead h.1
  obtain ⟨f1, f2, f3⟩ := WFs_inb h.2.1 hf hl
  have n1 : ¬ (1 : Int) = 0 := by decide
  intro k
  induction k with
  | zero =>
    intro n i s a hs hr ha hi hn
    obtain ⟨n, rfl⟩ : ∃ n', n = n' + 1 := ⟨n - 1, by omega⟩
    rw [l_X_ringFrom_L19_eq, if_neg (by omega), wp_some]
    exact ⟨rfl, fun _ => rfl, only_rf _ _ _, fun _ _ => rfl, fun _ j h1 h2 => by omega⟩
  | succ k ih =>
    intro n i s a hs hr ha hi hn
    obtain ⟨n, rfl⟩ : ∃ n', n = n' + 1 + 1 := ⟨n - 2, by omega⟩
    have ho := WFv_one h.1 ha
    -- the second half, from any state that holds the same world
    have L39 : ∀ u : mS, SR u 17 A → VR u 4 A → wp (l_X_ringFrom_L39 m (n + 1) w (A (176 + f)) (a : Int) (i : Int) u) (fun r s' => r = rres A (f : Int) (k + 1) i (a : Int) ∧ (w = 0 → s' = u) ∧ only u s' 246 247 ∧ (∀ j, j < i + 1 → s'.1 246 j = u.1 246 j) ∧ (w ≠ 0 → ∀ j : Nat, i + 1 ≤ j → (j : Int) < r → s'.1 246 j = rgF A (j - i) (a : Int))) := by
      intro u hus hur
      have an : ¬ (a : Int) = -1 := by omega
      have eas : u.1 14 a = A (65 + a) - 1 := VR4_asks hur ha
      rw [l_X_ringFrom_L39_eq, inR_pos (by omega) (by omega), Int.toNat_natCast, eas, C_isBox hur, Option.bind_some]
      rw [rres_s, if_neg an]
      by_cases c0 : A (65 + a) = 0
      · have nx0 : nextA A (a : Int) = -1 := by unfold nextA; rw [Int.toNat_natCast, if_pos c0]
        rw [if_neg (by omega : ¬ (0 ≤ A (65 + a) - 1 ∧ A (65 + a) - 1 < A 0))]
        simp only [if_true]
        rw [wp_some, nx0, if_neg (by omega), rres_m]
        exact ⟨rfl, fun _ => rfl, only_rf _ _ _, fun _ _ => rfl, fun _ j h1 h2 => by omega⟩
      · obtain ⟨b, hb⟩ : ∃ b : Nat, A (65 + a) - 1 = (b : Int) := ⟨(A (65 + a) - 1).toNat, by omega⟩
        have hb0 : (b : Int) < A 0 := by omega
        rw [if_pos (by omega : (0 ≤ A (65 + a) - 1 ∧ A (65 + a) - 1 < A 0))]
        simp only [n1, if_false]
        rw [hb, inR_pos (by omega) (by omega), inR_pos (by omega) (by omega), inR_pos (by omega) (by omega), Int.toNat_natCast, VR4_blong hur hb0, VR4_dlong hur ha, SR17_lier hus hb0]
        by_cases c1 : A (6 + b) < A (29 + a)
        · have nx0 : nextA A (a : Int) = -1 := by unfold nextA; rw [Int.toNat_natCast, if_neg c0, hb, Int.toNat_natCast, if_pos c1]
          rw [if_pos c1, wp_some, nx0, if_neg (by omega), rres_m]
          exact ⟨rfl, fun _ => rfl, only_rf _ _ _, fun _ _ => rfl, fun _ j h1 h2 => by omega⟩
        · have nx0 : nextA A (a : Int) = A (95 + b) := by unfold nextA; rw [Int.toNat_natCast, if_neg c0, hb, Int.toNat_natCast, if_neg c1]
          rw [if_neg c1, nx0]
          have hiff : (b : Int) = A (176 + f) ↔ A (95 + b) = (f : Int) := by
            constructor
            · intro e
              rw [← e, Int.toNat_natCast] at f3; exact f3
            · intro e
              rcases WFs_lier h.2.1 hb0 with q | ⟨q1, q2, q3, q4⟩
              · omega
              · rw [e, Int.toNat_natCast] at q4; exact q4.symm
          by_cases c2 : (b : Int) = A (176 + f)
          · rw [if_pos c2, if_pos (hiff.mp c2), wp_some, w32_in (by omega) (by omega)]
            exact ⟨rfl, fun _ => rfl, only_rf _ _ _, fun _ _ => rfl, fun _ j h1 h2 => by omega⟩
          · rw [if_neg c2, if_neg (fun e => c2 (hiff.mpr e)), C_isDead hur, Option.bind_some]
            by_cases c3 : 0 ≤ A (95 + b) ∧ A (95 + b) < A 2
            · simp only [if_pos c3, n1, if_false]
              obtain ⟨e, he⟩ : ∃ e : Nat, A (95 + b) = (e : Int) := ⟨(A (95 + b)).toNat, by omega⟩
              rw [he, s1w i (by omega)]
              refine wp_mono (ih n (i + 1) u e hus hur (by omega) (by omega) (by omega)) ?_
              intro r s' ⟨g1, g2, g3, g4, g5⟩
              refine ⟨g1, g2, g3, g4, fun hw j h1 h2 => ?_⟩
              rw [g5 hw j h1 h2, show j - i = (j - (i + 1)) + 1 from by omega, rgF_s, nx0, he]
            · simp only [if_neg c3, if_true]
              rw [wp_some]
              have hm1 : A (95 + b) = -1 := by rcases WFs_lier h.2.1 hb0 with q | q <;> omega
              rw [hm1, rres_m]
              exact ⟨rfl, fun _ => rfl, only_rf _ _ _, fun _ _ => rfl, fun _ j h1 h2 => by omega⟩
    rw [l_X_ringFrom_L19_eq, if_pos (by omega)]
    by_cases cw : w = 0
    · rw [if_pos cw]
      refine wp_mono (L39 s hs hr) ?_
      intro r s' ⟨g1, g2, g3, g4, g5⟩
      exact ⟨g1, g2, g3, fun j hj => g4 j (by omega), fun hw => absurd cw hw⟩
    · rw [if_neg cw, inR_pos (by omega) (by omega), Int.toNat_natCast]
      refine wp_mono (L39 (wI s 246 i (a : Int)) (SR_keep hs (fun c _ _ => wI_ne (by omega))) (VR_keep hr (fun c _ _ => wI_ne (by omega)))) ?_
      intro r s' ⟨g1, g2, g3, g4, g5⟩
      refine ⟨g1, fun hw => absurd hw cw, only_tr (only_wI (by omega) (by omega)) g3, fun j hj => ?_, fun hw j h1 h2 => ?_⟩
      · rw [g4 j (by omega), wI_f (by omega)]
      · by_cases hj : j = i
        · subst hj; rw [g4 j (by omega), wI_at, Nat.sub_self]; rfl
        · exact g5 hw j (by omega) h2
theorem R_next {s : mS} {A : Row} (hA : s.1 251 = A) (h : WF A) (m : Nat) {d : Nat} (hd : (d : Int) < A 2) : f_R_nextIn m (d : Int) s = some (nextA A (d : Int), s) := by
  have w0 := WFv_boxes h.1
  have w2 := WFv_dead h.1
  have ho := WFv_one h.1 hd
  rw [f_R_nextIn_eq, hA, ix65 (by omega), ix65n (by omega), w32_in (x := A (65 + d) - 1) (by omega) (by omega)]
  unfold nextA
  rw [Int.toNat_natCast]
  by_cases c0 : A (65 + d) = 0
  · rw [if_pos (by omega), if_pos c0]
  · obtain ⟨b, hb⟩ : ∃ b : Nat, A (65 + d) - 1 = (b : Int) := ⟨(A (65 + d) - 1).toNat, by omega⟩
    rw [if_neg (by omega), if_neg c0, hb, R_fits hA m (by omega) (by omega), Option.bind_some, hA, ix95 (by omega), ix95n (by omega), Int.toNat_natCast]
    have n1 : ¬ (1 : Int) = 0 := by decide
    by_cases c1 : A (6 + b) < A (29 + d)
    · simp only [if_pos c1, if_true]
    · simp only [if_neg c1, n1, if_false]
theorem R_tellL {m : Nat} {c : Nat} (hc : c ≤ 12) : ∀ (k n i : Nat) (s : mS), i + k = c → k < n →
    wp (l_R_ring_L75 m n (c : Int) (i : Int) s) (fun r s' => r = (c : Int) ∧ s'.2 = s.2 ∧ (∀ x, x ≠ 264 → s'.1 x = s.1 x) ∧ (∀ j, j < i → s'.1 264 j = s.1 264 j) ∧ ∀ j, i ≤ j → j < c → s'.1 264 j = s.1 263 j) := by
  intro k
  induction k with
  | zero =>
    intro n i s hi hn
    obtain ⟨n, rfl⟩ : ∃ n', n = n' + 1 := ⟨n - 1, by omega⟩
    rw [l_R_ring_L75_eq, if_neg (by omega), wp_some]
    exact ⟨rfl, rfl, fun _ _ => rfl, fun _ _ => rfl, fun j h1 h2 => by omega⟩
  | succ k ih =>
    intro n i s hi hn
    obtain ⟨n, rfl⟩ : ∃ n', n = n' + 1 := ⟨n - 1, by omega⟩
    rw [l_R_ring_L75_eq, if_pos (by omega), inR_pos (by omega) (by omega), inR_pos (by omega) (by omega), Int.toNat_natCast, s1w i (by omega)]
    refine wp_mono (ih n (i + 1) (wI s 264 i (s.1 263 i)) (by omega) (by omega)) ?_
    intro r s' ⟨g1, g2, g3, g4, g5⟩
    refine ⟨g1, g2, fun x hx => by rw [g3 x hx, wI_ne hx], fun j hj => by rw [g4 j (by omega), wI_f (by omega)], fun j h1 h2 => ?_⟩
    by_cases hj : j = i
    · subst hj; rw [g4 j (by omega), wI_at]
    · rw [g5 j (by omega) h2, wI_ne (by decide)]
theorem R_ringL {A : Row} (h : WF A) {m : Nat} {f : Nat} (hf : (f : Int) < A 2) : ∀ (k n i : Nat) (s : mS) (a : Int), s.1 251 = A → -1 ≤ a → a < A 2 → a = rgF A i (f : Int) → (∀ j, j < i → s.1 263 j = rgF A j (f : Int)) → i + k = 12 → k + 15 < n →
    wp (l_R_ring_L33 m n (f : Int) (i : Int) a s) (fun r s' => r = rres A (f : Int) k i a ∧ s'.2 = s.2 ∧ (∀ x, x ≠ 249 → x ≠ 263 → x ≠ 264 → s'.1 x = s.1 x) ∧ (∀ q, q ≠ 32 → s'.1 249 q = s.1 249 q) ∧ (r = -1 → s'.1 249 32 = s.1 249 32 ∧ s'.1 264 = s.1 264) ∧ (r ≠ -1 → s'.1 249 32 = r ∧ ∀ j : Nat, (j : Int) < r → s'.1 264 j = rgF A j (f : Int))) := by
  have w2 := WFv_dead h.1
  intro k
  induction k with
  | zero =>
    intro n i s a hA a0 a1 ea hR hi hn
    obtain ⟨n, rfl⟩ : ∃ n', n = n' + 1 := ⟨n - 1, by omega⟩
    have e : l_R_ring_L33 m (n + 1) (f : Int) (i : Int) a s = some (-1, s) := by
      rw [l_R_ring_L33_eq]
      by_cases c : a = -1
      · rw [if_pos c]
      · rw [if_neg c, if_pos (by omega)]
    rw [e, wp_some]
    exact ⟨rfl, rfl, fun _ _ _ _ => rfl, fun _ _ => rfl, fun _ => ⟨rfl, rfl⟩, fun hh => absurd rfl hh⟩
  | succ k ih =>
    intro n i s a hA a0 a1 ea hR hi hn
    obtain ⟨n, rfl⟩ : ∃ n', n = n' + 1 := ⟨n - 1, by omega⟩
    rw [l_R_ring_L33_eq, rres_s]
    by_cases c : a = -1
    · rw [if_pos c, if_pos c, wp_some]
      exact ⟨rfl, rfl, fun _ _ _ _ => rfl, fun _ _ => rfl, fun _ => ⟨rfl, rfl⟩, fun hh => absurd rfl hh⟩
    · obtain ⟨d, rfl⟩ : ∃ d : Nat, a = (d : Int) := ⟨a.toNat, by omega⟩
      have hA' : (wI s 263 i (d : Int)).1 251 = A := by rw [wI_ne (by decide)]; exact hA
      have ni := nextA_in h a1
      rw [if_neg c, if_neg (by omega), if_neg c, inR_pos (by omega) (by omega), Int.toNat_natCast, R_next hA' h m a1, Option.bind_some, s1w i (by omega)]
      have row : ∀ j, j < i + 1 → (wI s 263 i (d : Int)).1 263 j = rgF A j (f : Int) := by
        intro j hj
        by_cases e : j = i
        · subst e; rw [wI_at]; exact ea
        · rw [wI_f e]; exact hR j (by omega)
      by_cases c2 : nextA A (d : Int) = (f : Int)
      · rw [if_pos c2, if_pos c2]
        refine wp_mono (R_tellL (m := m) (c := i + 1) (by omega) (i + 1) n 0 (wI (wI s 263 i (d : Int)) 249 32 ((i + 1 : Nat) : Int)) (by omega) (by omega)) ?_
        intro r s' ⟨g1, g2, g3, g4, g5⟩
        refine ⟨by rw [g1]; rfl, g2, fun x h1 h2 h3 => by rw [g3 x h3, wI_ne h1, wI_ne h2], fun q hq => by rw [g3 249 (by decide), wI_f hq, wI_ne (by decide)], fun hh => by omega, fun _ => ⟨by rw [g3 249 (by decide), wI_at, g1], fun j hj => ?_⟩⟩
        rw [g5 j (by omega) (by omega), wI_ne (by decide)]
        exact row j (by omega)
      · rw [if_neg c2, if_neg c2]
        refine wp_mono (ih n (i + 1) (wI s 263 i (d : Int)) (nextA A (d : Int)) hA' ni.1 ni.2 (by rw [rgF_e, ← ea]) row (by omega) (by omega)) ?_
        intro r s' ⟨g1, g2, g3, g4, g5, g6⟩
        exact ⟨g1, g2, fun x h1 h2 h3 => by rw [g3 x h1 h2 h3, wI_ne h2], fun q hq => by rw [g4 q hq, wI_ne (by decide)], fun hh => ⟨by rw [(g5 hh).1, wI_ne (by decide)], by rw [(g5 hh).2, wI_ne (by decide)]⟩, g6⟩
/-- rows of the ring alone have changed -/
theorem Inv_ring {s s2 : mS} (h : Inv s) (h1 : ∀ c, c ≠ 0 → c ≠ 246 → c ≠ 249 → c ≠ 263 → c ≠ 264 → s2.1 c = s.1 c) (h2 : s2.2 = s.2) (h3 : ∀ k, k ≠ 15 → s2.1 0 k = s.1 0 k) (h4 : ∀ k, k ≠ 0 → k ≠ 32 → s2.1 249 k = s.1 249 k) (hM : pRing s2) : Inv s2 := by
  obtain ⟨g1, g2, g3, g4, g5, g6, g7, g8, g9, g10⟩ := h
  have e : ∀ c, c ≠ 0 → c ≠ 246 → c ≠ 249 → c ≠ 263 → c ≠ 264 → s2.1 c = s.1 c := h1
  refine ⟨?_, pTape_keep g2 (by rw [e 1 (by omega) (by omega) (by omega) (by omega) (by omega)]) (e _ (by omega) (by omega) (by omega) (by omega) (by omega)) (h4 _ (by omega) (by omega)) (e _ (by omega) (by omega) (by omega) (by omega) (by omega)), pMisc_keep g3 (h3 _ (by omega)) (h3 _ (by omega)) (h3 _ (by omega)) (h4 _ (by omega) (by omega)) (h4 _ (by omega) (by omega)) (h4 _ (by omega) (by omega)), hM, pTag_keep g5 (h3 _ (by omega)) (h4 _ (by omega) (by omega)) (e _ (by omega) (by omega) (by omega) (by omega) (by omega)) (e _ (by omega) (by omega) (by omega) (by omega) (by omega)), pTold_keep g6 (h3 _ (by omega)) (h4 _ (by omega) (by omega)) (e _ (by omega) (by omega) (by omega) (by omega) (by omega)) (e _ (by omega) (by omega) (by omega) (by omega) (by omega)), pMatch_keep g7 (h4 _ (by omega) (by omega)) (e _ (by omega) (by omega) (by omega) (by omega) (by omega)) (e _ (by omega) (by omega) (by omega) (by omega) (by omega)),
    pImg_keep g8 (fun c _ _ => e c (by omega) (by omega) (by omega) (by omega) (by omega)) (fun c _ _ => by rw [h2]) (e _ (by omega) (by omega) (by omega) (by omega) (by omega)) (by rw [h2]) (e _ (by omega) (by omega) (by omega) (by omega) (by omega)), pImg_keep g9 (fun c _ _ => e c (by omega) (by omega) (by omega) (by omega) (by omega)) (fun c _ _ => by rw [h2]) (e _ (by omega) (by omega) (by omega) (by omega) (by omega)) (by rw [h2]) (e _ (by omega) (by omega) (by omega) (by omega) (by omega)), pPast_keep g10 (e _ (by omega) (by omega) (by omega) (by omega) (by omega)) (h4 _ (by omega) (by omega)) (fun i _ k _ => by rw [pastRow_keep (s := s) (s' := s2) (e _ (by omega) (by omega) (by omega) (by omega) (by omega)) (e _ (by omega) (by omega) (by omega) (by omega) (by omega))]) (fun c _ _ => e c (by omega) (by omega) (by omega) (by omega) (by omega))⟩
  rw [e 251 (by omega) (by omega) (by omega) (by omega) (by omega), h2]
  exact World_keep g1 (fun c _ _ => e c (by omega) (by omega) (by omega) (by omega) (by omega)) (fun c _ _ => by rw [h2]) (fun c _ _ => e c (by omega) (by omega) (by omega) (by omega) (by omega)) (fun c _ _ => e c (by omega) (by omega) (by omega) (by omega) (by omega))
theorem S_ring {m : Nat} (hm : 1000 ≤ m) (x : Int) : Sim (f_X_ring m x) (f_R_ring m x) := by
  intro s h
  obtain ⟨⟨hW, hr, hS, -, -⟩, -⟩ := id h
  have w2 := WFv_dead hW.1
  have n1 : ¬ (1 : Int) = 0 := by decide
  have hth : ∀ u : mS, u.1 251 = s.1 251 → (wI u 249 0 0).1 251 = s.1 251 := fun u hu => by rw [th_ne u 0 (by decide), hu]
  by_cases c : 0 ≤ x ∧ x < s.1 251 2
  · obtain ⟨f, rfl⟩ : ∃ d : Nat, x = (d : Int) := ⟨x.toNat, by omega⟩
    have hf : (f : Int) < s.1 251 2 := c.2
    have hX : f_X_ring m (f : Int) s = if s.1 251 (164 + f) = 2 then ((f_X_ringFrom m (f : Int) 0 s).bind fun p1 => (if p1.1 = (-1) then (some (p1.1, p1.2)) else ((f_X_ringFrom m (f : Int) 1 p1.2).bind fun p2 => (some (p1.1, wI p2.2 0 15 p1.1))))) else some (-1, s) := by
      rw [f_X_ring_eq, C_isDead hr, Option.bind_some]
      simp only [if_pos c, n1, if_false]
      rw [inR_pos (by omega) (by omega), Int.toNat_natCast, SR17_how hS hf]
    have hR : ∀ u : mS, u.1 251 = s.1 251 → f_R_ring m (f : Int) u = if s.1 251 (164 + f) = 2 then l_R_ring_L33 m m (f : Int) 0 (f : Int) (wI u 249 0 0) else some (-1, wI u 249 0 0) := by
      intro u hu
      rw [f_R_ring_eq, R_isDead (hth u hu) hW.1, Option.bind_some]
      simp only [if_pos c, n1, if_false]
      rw [hth u hu, ix164 (by omega), ix164n (by omega)]
    by_cases c2 : s.1 251 (164 + f) = 2
    · obtain ⟨r, sa, a1, a2, a3, -, -⟩ := C_ringL hW (m := m) hf c2 0 12 m 0 s f hS hr hf (by omega) (by omega)
      have a3' := a3 rfl
      subst a3'
      rw [show ((0 : Nat) : Int) = 0 from rfl] at a1
      have q1 : f_X_ringFrom m (f : Int) 0 sa = some (r, sa) := by rw [f_X_ringFrom_eq, inR_pos (by omega) (by omega), Int.toNat_natCast, SR17_inb hS hf]; exact a1
      obtain ⟨r2, sb, b1, b2, -, b4, -, b6⟩ := C_ringL hW (m := m) hf c2 1 12 m 0 sa f hS hr hf (by omega) (by omega)
      rw [show ((0 : Nat) : Int) = 0 from rfl] at b1
      have q2 : f_X_ringFrom m (f : Int) 1 sa = some (r2, sb) := by rw [f_X_ringFrom_eq, inR_pos (by omega) (by omega), Int.toNat_natCast, SR17_inb hS hf]; exact b1
      have er : r2 = r := by rw [a2, b2]
      rw [if_pos c2, q1, Option.bind_some] at hX
      have bnd := rres_in (sa.1 251) (f : Int) 12 0 (f : Int)
      rw [← a2] at bnd
      by_cases c3 : r = -1
      · simp only [c3, if_true] at hX
        obtain ⟨r3, sc, d1, d2, d3, d4, d5, d6, -⟩ := R_ringL hW (m := m) hf 12 m 0 (wI sa 249 0 0) (f : Int) (hth sa rfl) (by omega) hf rfl (fun j hj => by omega) (by omega) (by omega)
        rw [show ((0 : Nat) : Int) = 0 from rfl] at d1
        have e3 : r3 = -1 := by rw [d2, ← a2]; exact c3
        have d6' := d6 e3
        refine ⟨-1, sa, sc, hX, by rw [hR sa rfl, if_pos c2, d1, e3], ?_⟩
        obtain ⟨m1, m2, m3, m4⟩ := h.2.2.2.1
        refine Inv_ring h (fun c x y z w v => by rw [d4 c z w v, wI_ne z]) (by rw [d3]; rfl) (fun k hk => by rw [d4 0 (by decide) (by decide) (by decide), wI_ne (by decide)]) (fun k x y => by rw [d5 k y, th_f _ _ x]) (pRing_keep h.2.2.2.1 ?_ ?_ ?_ ?_)
        · rw [d4 0 (by decide) (by decide) (by decide), wI_ne (by decide)]
        · rw [d6'.1, th_f _ _ (by decide)]
        · rw [d4 246 (by decide) (by decide) (by decide), wI_ne (by decide)]
        · rw [d6'.2, wI_ne (by decide)]
      · simp only [c3, if_false] at hX
        rw [q2, Option.bind_some] at hX
        have e51 : (wI sb 0 15 r).1 251 = sa.1 251 := by rw [wI_ne (by decide), b4.1 251 (by omega)]
        obtain ⟨r3, sc, d1, d2, d3, d4, d5, -, d7⟩ := R_ringL hW (m := m) hf 12 m 0 (wI (wI sb 0 15 r) 249 0 0) (f : Int) (hth _ e51) (by omega) hf rfl (fun j hj => by omega) (by omega) (by omega)
        rw [show ((0 : Nat) : Int) = 0 from rfl] at d1
        have e3 : r3 = r := by rw [d2, ← a2]
        have d7' := d7 (by rw [e3]; exact c3)
        refine ⟨r, _, sc, hX, by rw [hR _ e51, if_pos c2, d1, e3], ?_⟩
        refine Inv_ring h (fun c x y z w v => by rw [d4 c z w v, wI_ne z, wI_ne x, b4.1 c (by omega)]) (by rw [d3]; show sb.2 = sa.2; exact b4.2) (fun k hk => by rw [d4 0 (by decide) (by decide) (by decide), wI_ne (by decide), wI_f hk, b4.1 0 (by omega)]) (fun k x y => by rw [d5 k y, th_f _ _ x, wI_ne (by decide), b4.1 249 (by omega)]) ⟨?_, ?_, ?_, fun k hk => ?_⟩
        · rw [d4 0 (by decide) (by decide) (by decide), wI_ne (by decide), wI_at, d7'.1, e3]
        · rw [d7'.1, e3]; omega
        · rw [d7'.1, e3]; omega
        · rw [d7'.1] at hk
          rw [d7'.2 k hk, d4 246 (by decide) (by decide) (by decide), wI_ne (by decide), wI_ne (by decide)]
          have := b6 n1 k (by omega) (by omega)
          rw [this, Nat.sub_zero]
    · rw [if_neg c2] at hX
      exact ⟨-1, s, wI s 249 0 0, hX, by rw [hR s rfl, if_neg c2], Inv_thrown h 0⟩
  · refine ⟨-1, s, wI s 249 0 0, ?_, ?_, Inv_thrown h 0⟩
    · rw [f_X_ring_eq, C_isDead hr, Option.bind_some]; simp only [if_neg c, if_true]
    · rw [f_R_ring_eq, R_isDead (hth s rfl) hW.1, Option.bind_some]; simp only [if_neg c, if_true]
