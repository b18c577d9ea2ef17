/-! ===== written by gen_a56.py: draws ===== -/
def nx (x : Int) : Int := w32 (w32 (x * 1103515245) + 12345)
def dr (x n : Int) : Int := Int.tmod (bushr (nx x) 8) n
theorem dr_in (x : Int) {n : Int} (h : 0 < n) : 0 ≤ dr x n ∧ dr x n < n := by
  have := (bushr_nn (x := nx x) (k := 8) (by omega) (by omega)).1
  exact ⟨Int.tmod_nonneg _ this, Int.tmod_lt_of_pos _ h⟩
def doL (A : Row) (d b : Nat) : Row := if whyLend A d b = 0 then lends A d b else A
def doY (A : Row) (d p : Nat) : Row := if whyLay A d p = 0 then lays A d p else A
def doW (A : Row) (d e : Nat) : Row := if whySwap A d e = 0 then swaps A d e else A
def doM (A : Row) (b : Nat) : Row := if whyMend A b = 0 then mends A b else A
/-- an act keeps what is told, and the day -/
def sameV (A B : Row) : Prop := ∀ k, k < 86 ∨ 224 ≤ k → B k = A k
theorem sameV_rf (A : Row) : sameV A A := fun _ _ => rfl
theorem doL_ok {A : Row} (h : WF A) {d b : Nat} (hd : (d : Int) < A 2) (hb : (b : Int) < A 0) : WF (doL A d b) ∧ sameV A (doL A d b) := by
  have w0 := WFv_boxes h.1
  have w2 := WFv_dead h.1
  unfold doL
  by_cases c : whyLend A d b = 0
  · rw [if_pos c]
    refine ⟨WF_lends h hd hb c, fun k hk => ?_⟩
    unfold lends; rw [if_neg (by omega), if_neg (by omega), if_neg (by omega), if_neg (by omega), if_neg (by omega), if_neg (by omega), if_neg (by omega), if_neg (by omega)]
  · rw [if_neg c]; exact ⟨h, sameV_rf A⟩
theorem doY_ok {A : Row} (h : WF A) {d p : Nat} (hd : (d : Int) < A 2) (hp : (p : Int) < A 1) : WF (doY A d p) ∧ sameV A (doY A d p) := by
  have w0 := WFv_boxes h.1
  have w1 := WFv_plots h.1
  have w2 := WFv_dead h.1
  unfold doY
  by_cases c : whyLay A d p = 0
  · rw [if_pos c]
    refine ⟨WF_lays h hd hp c, fun k hk => ?_⟩
    have c1 : A (164 + d) = 2 := by unfold whyLay at c; grind
    have hx := WFs_inb h.2.1 hd c1
    unfold lays; rw [if_neg (by omega), if_neg (by omega), if_neg (by omega), if_neg (by omega), if_neg (by omega), if_neg (by omega), if_neg (by omega), if_neg (by omega)]
  · rw [if_neg c]; exact ⟨h, sameV_rf A⟩
theorem doW_ok {A : Row} (h : WF A) {d e : Nat} (hd : (d : Int) < A 2) (he : (e : Int) < A 2) (hde : d ≠ e) : WF (doW A d e) ∧ sameV A (doW A d e) := by
  have w0 := WFv_boxes h.1
  have w2 := WFv_dead h.1
  unfold doW
  by_cases c : whySwap A d e = 0
  · rw [if_pos c]
    refine ⟨WF_swaps h hd he hde c, fun k hk => ?_⟩
    have c1 : A (164 + d) = 2 := by unfold whySwap at c; grind
    have c2 : A (164 + e) = 2 := by unfold whySwap at c; grind
    have hx := WFs_inb h.2.1 hd c1
    have hx2 := WFs_inb h.2.1 he c2
    unfold swaps; rw [if_neg (by omega), if_neg (by omega), if_neg (by omega), if_neg (by omega)]
  · rw [if_neg c]; exact ⟨h, sameV_rf A⟩
theorem doM_ok {A : Row} (h : WF A) {b : Nat} (hb : (b : Int) < A 0) : WF (doM A b) ∧ sameV A (doM A b) := by
  have w0 := WFv_boxes h.1
  unfold doM
  by_cases c : whyMend A b = 0
  · rw [if_pos c]
    refine ⟨WF_mends h hb, fun k hk => ?_⟩
    unfold mends; rw [if_neg (by omega)]
  · rw [if_neg c]; exact ⟨h, sameV_rf A⟩
def actD (A : Row) (x : Int) : Row × Int :=
  if dr x 8 < 3 then (if A 2 = 0 ∨ A 0 = 0 then (A, nx x) else (doL A (dr (nx x) (A 2)).toNat (dr (nx (nx x)) (A 0)).toNat, nx (nx (nx x))))
  else if dr x 8 = 3 ∨ dr x 8 = 4 then (if A 2 = 0 ∨ A 1 = 0 then (A, nx x) else (doY A (dr (nx x) (A 2)).toNat (dr (nx (nx x)) (A 1)).toNat, nx (nx (nx x))))
  else if dr x 8 = 5 then (if A 0 = 0 then (A, nx x) else (doM A (dr (nx x) (A 0)).toNat, nx (nx x)))
  else if dr x 8 = 6 then (if A 2 = 0 then (A, nx x) else (if dr (nx x) (A 2) = dr (nx (nx x)) (A 2) then A else doW A (dr (nx x) (A 2)).toNat (dr (nx (nx x)) (A 2)).toNat, nx (nx (nx x))))
  else (A, nx x)
theorem actD_ok {A : Row} (h : WF A) (x : Int) : WF (actD A x).1 ∧ sameV A (actD A x).1 := by
  have w0 := WFv_boxes h.1
  have w1 := WFv_plots h.1
  have w2 := WFv_dead h.1
  unfold actD
  by_cases c1 : dr x 8 < 3
  · rw [if_pos c1]
    by_cases z : A 2 = 0 ∨ A 0 = 0
    · rw [if_pos z]; exact ⟨h, sameV_rf A⟩
    · rw [if_neg z]
      have q1 := dr_in (nx x) (n := A 2) (by omega)
      have q2 := dr_in (nx (nx x)) (n := A 0) (by omega)
      exact doL_ok h (by omega) (by omega)
  · rw [if_neg c1]
    by_cases c2 : dr x 8 = 3 ∨ dr x 8 = 4
    · rw [if_pos c2]
      by_cases z : A 2 = 0 ∨ A 1 = 0
      · rw [if_pos z]; exact ⟨h, sameV_rf A⟩
      · rw [if_neg z]
        have q1 := dr_in (nx x) (n := A 2) (by omega)
        have q2 := dr_in (nx (nx x)) (n := A 1) (by omega)
        exact doY_ok h (by omega) (by omega)
    · rw [if_neg c2]
      by_cases c3 : dr x 8 = 5
      · rw [if_pos c3]
        by_cases z : A 0 = 0
        · rw [if_pos z]; exact ⟨h, sameV_rf A⟩
        · rw [if_neg z]
          have q1 := dr_in (nx x) (n := A 0) (by omega)
          exact doM_ok h (by omega)
      · rw [if_neg c3]
        by_cases c4 : dr x 8 = 6
        · rw [if_pos c4]
          by_cases z : A 2 = 0
          · rw [if_pos z]; exact ⟨h, sameV_rf A⟩
          · rw [if_neg z]
            have q1 := dr_in (nx x) (n := A 2) (by omega)
            have q2 := dr_in (nx (nx x)) (n := A 2) (by omega)
            by_cases z2 : dr (nx x) (A 2) = dr (nx (nx x)) (A 2)
            · rw [if_pos z2]; exact ⟨h, sameV_rf A⟩
            · rw [if_neg z2]; exact doW_ok h (by omega) (by omega) (by omega)
        · rw [if_neg c4]; exact ⟨h, sameV_rf A⟩
theorem dayA_hi {A : Row} (hn : A 2 ≤ 12) {k : Nat} (hk : 224 ≤ k) : dayA A k = A k := by
  rw [dayA_eq]; unfold comes; rw [tickA_lo hn (i := 2) (by omega), if_neg (by omega)]; unfold tickA
  rw [if_neg (by omega), if_neg (by omega), if_neg (by omega), if_neg (by omega), if_neg (by omega)]
/-- n days drawn -/
def drawsA : Nat → Row × Int → Row × Int
  | 0, p => p
  | n + 1, p => drawsA n (dayA (actD p.1 p.2).1, (actD p.1 p.2).2)
theorem WF_draws : ∀ (n : Nat) (A : Row) (x : Int), WF A → A 85 + n ≤ 400 → WF (drawsA n (A, x)).1 ∧ (drawsA n (A, x)).1 85 = A 85 + n ∧ ∀ k, k < 85 ∨ 224 ≤ k → (drawsA n (A, x)).1 k = A k
  | 0, A, x, h, _ => ⟨h, by show A 85 = A 85 + 0; omega, fun _ _ => rfl⟩
  | n + 1, A, x, h, h4 => by
    obtain ⟨a1, a2⟩ := actD_ok h x
    have hn := (WFv_dead a1.1).2
    have e85 := a2 85 (by omega)
    have hd := dayA_day hn
    obtain ⟨b1, b2, b3⟩ := WF_draws n (dayA (actD A x).1) (actD A x).2 (WF_dayA a1 (by omega)) (by rw [hd]; omega)
    refine ⟨b1, ?_, fun k hk => ?_⟩
    · show (drawsA n (dayA (actD A x).1, (actD A x).2)).1 85 = _
      rw [b2, hd, e85]; omega
    · show (drawsA n (dayA (actD A x).1, (actD A x).2)).1 k = _
      rw [b3 k hk]
      rcases hk with hk | hk
      · rw [dayA_lo hn hk, a2 k (by omega)]
      · rw [← a2 k (by omega)]
        exact dayA_hi hn hk
/-! the class -/
theorem C_draw {s : mS} (m : Nat) {n : Int} (h : 0 < n) : f_Dr_draw m n s = some (dr (s.1 245 0) n, wI s 245 0 (nx (s.1 245 0))) := by
  rw [f_Dr_draw_eq, if_neg (by omega), if_neg (by omega), wI_at]; rfl
theorem C_act_17 {s : mS} {A : Row} (hs : SR s 17 A) (hr : VR s 4 A) (h : WF A) {m : Nat} (hm : 10000 ≤ m) :
    wp (f_Dr_actOnce_245_4_17 m s) (fun _ s' => SR s' 17 (actD A (s.1 245 0)).1 ∧ s'.1 245 0 = (actD A (s.1 245 0)).2 ∧ (∀ c, ¬ (17 ≤ c ∧ c < 30) → c ≠ 245 → s'.1 c = s.1 c) ∧ s'.2 = s.2) := by
  have w0 := WFv_boxes h.1
  have w1 := WFv_plots h.1
  have w2 := WFv_dead h.1
  obtain ⟨n0, hn0⟩ : ∃ n, m = n + 1 + 1 := ⟨m - 2, by omega⟩
  generalize hx : s.1 245 0 = x
  have x8 := dr_in x (n := 8) (by omega)
  -- states with another seed
  have sS : ∀ (u : mS) (v : Int), SR u 17 A → SR (wI u 245 0 v) 17 A := fun u v hu => SR_keep hu (fun c _ _ => wI_ne (by omega))
  have sV : ∀ (u : mS) (v : Int), VR u 4 A → VR (wI u 245 0 v) 4 A := fun u v hu => VR_keep hu (fun c _ _ => wI_ne (by omega))
  have d1 := C_draw (s := s) m (n := 8) (by omega)
  rw [hx] at d1
  have s1S := sS s (nx x) hs
  have s1V := sV s (nx x) hr
  have s1x : (wI s 245 0 (nx x)).1 245 0 = nx x := wI_at
  have s1c : ∀ c, c ≠ 245 → (wI s 245 0 (nx x)).1 c = s.1 c := fun c hc => wI_ne hc
  have s12 : (wI s 245 0 (nx x)).2 = s.2 := rfl
  generalize wI s 245 0 (nx x) = s1 at d1 s1S s1V s1x s1c s12
  have e0 : s1.1 4 0 = A 0 := VR4_boxes s1V
  have e1 : s1.1 4 1 = A 1 := VR4_plots s1V
  have e2 : s1.1 4 2 = A 2 := VR4_dead s1V
  -- what happens when nothing is done
  have idle : ∀ r : Int, (actD A x) = (A, nx x) → wp (some (r, s1)) (fun _ s' => SR s' 17 (actD A x).1 ∧ s'.1 245 0 = (actD A x).2 ∧ (∀ c, ¬ (17 ≤ c ∧ c < 30) → c ≠ 245 → s'.1 c = s.1 c) ∧ s'.2 = s.2) := by
    intro r hq; rw [wp_some, hq]; exact ⟨s1S, s1x, fun c _ hc => s1c c hc, s12⟩
  -- a second draw, a third
  have dd : ∀ n : Int, 0 < n → f_Dr_draw m n s1 = some (dr (nx x) n, wI s1 245 0 (nx (nx x))) := by intro n hn; have := C_draw (s := s1) m hn; rw [s1x] at this; exact this
  have s2x : (wI s1 245 0 (nx (nx x))).1 245 0 = nx (nx x) := wI_at
  have s2S := sS s1 (nx (nx x)) s1S
  have s2V := sV s1 (nx (nx x)) s1V
  have s2c : ∀ c, c ≠ 245 → (wI s1 245 0 (nx (nx x))).1 c = s.1 c := fun c hc => by rw [wI_ne hc, s1c c hc]
  have s22 : (wI s1 245 0 (nx (nx x))).2 = s.2 := s12
  generalize wI s1 245 0 (nx (nx x)) = s2 at dd s2x s2S s2V s2c s22
  have ddd : ∀ n : Int, 0 < n → f_Dr_draw m n s2 = some (dr (nx (nx x)) n, wI s2 245 0 (nx (nx (nx x)))) := by intro n hn; have := C_draw (s := s2) m hn; rw [s2x] at this; exact this
  have s3x : (wI s2 245 0 (nx (nx (nx x)))).1 245 0 = nx (nx (nx x)) := wI_at
  have s3S := sS s2 (nx (nx (nx x))) s2S
  have s3V := sV s2 (nx (nx (nx x))) s2V
  have s3c : ∀ c, c ≠ 245 → (wI s2 245 0 (nx (nx (nx x)))).1 c = s.1 c := fun c hc => by rw [wI_ne hc, s2c c hc]
  have s32 : (wI s2 245 0 (nx (nx (nx x)))).2 = s.2 := s22
  generalize wI s2 245 0 (nx (nx (nx x))) = s3 at ddd s3x s3S s3V s3c s32
  have f0 : s2.1 4 0 = A 0 := VR4_boxes s2V
  have f1 : s2.1 4 1 = A 1 := VR4_plots s2V
  have f2 : s2.1 4 2 = A 2 := VR4_dead s2V
  have fin : ∀ (B : Row) (y : Int) (u : mS) (o : Option (Int × mS)) (w : Int), actD A x = (if w = 0 then B else A, y) → u.1 245 0 = y → (∀ c, c ≠ 245 → u.1 c = s.1 c) → u.2 = s.2 → wp o (fun r s' => r = w ∧ SR s' 17 (if r = 0 then B else A) ∧ only u s' 17 30) →
      wp (o.bind fun p => some (0, p.2)) (fun _ s' => SR s' 17 (actD A x).1 ∧ s'.1 245 0 = (actD A x).2 ∧ (∀ c, ¬ (17 ≤ c ∧ c < 30) → c ≠ 245 → s'.1 c = s.1 c) ∧ s'.2 = s.2) := by
    intro B y u o w hq hy hc h2 ho
    obtain ⟨r, s', ho, hr, hS, hO⟩ := ho
    rw [ho, Option.bind_some, wp_some, hq]
    rw [hr] at hS
    exact ⟨hS, by rw [hO.1 245 (by omega)]; exact hy, fun c h1 h2 => by rw [hO.1 c (by omega), hc c h2], by rw [hO.2, h2]⟩
  have L136 : ∀ k, dr x 8 ≠ 5 ∨ A 0 = 0 → ¬ (dr x 8 < 3 ∧ A 2 ≠ 0 ∧ A 0 ≠ 0) → ¬ ((dr x 8 = 3 ∨ dr x 8 = 4) ∧ A 2 ≠ 0 ∧ A 1 ≠ 0) → wp (l_Dr_actOnce_245_4_17_L136 m (k + 1) (dr x 8) s1) (fun _ s' => SR s' 17 (actD A x).1 ∧ s'.1 245 0 = (actD A x).2 ∧ (∀ c, ¬ (17 ≤ c ∧ c < 30) → c ≠ 245 → s'.1 c = s.1 c) ∧ s'.2 = s.2) := by
    intro k h5 h3 h4
    rw [l_Dr_actOnce_245_4_17_L136_eq, e2]
    by_cases c6 : dr x 8 = 6
    · rw [if_pos c6]
      by_cases z : 0 < A 2
      · rw [if_pos z, dd _ z, Option.bind_some]
        simp only [f2]
        rw [ddd _ z, Option.bind_some]
        have q1 := dr_in (nx x) z
        have q2 := dr_in (nx (nx x)) z
        by_cases z2 : dr (nx x) (A 2) = dr (nx (nx x)) (A 2)
        · rw [if_pos z2, wp_some]
          have hq : actD A x = (A, nx (nx (nx x))) := by unfold actD; rw [if_neg (by omega), if_neg (by omega), if_neg (by omega), if_pos c6, if_neg (by omega), if_pos z2]
          rw [hq]; exact ⟨s3S, s3x, fun c _ hc => s3c c hc, s32⟩
        · rw [if_neg z2]
          obtain ⟨d, hd⟩ : ∃ d : Nat, dr (nx x) (A 2) = (d : Int) := ⟨(dr (nx x) (A 2)).toNat, by omega⟩
          obtain ⟨e, he⟩ : ∃ d : Nat, dr (nx (nx x)) (A 2) = (d : Int) := ⟨(dr (nx (nx x)) (A 2)).toNat, by omega⟩
          simp only [hd, he]
          refine fin (swaps A d e) (nx (nx (nx x))) s3 _ (whySwap A d e) ?_ s3x s3c s32 (C_swap_17 s3S s3V h.1 h.2.1 (by omega) (by omega) (by omega))
          unfold actD; rw [if_neg (by omega), if_neg (by omega), if_neg (by omega), if_pos c6, if_neg (by omega), if_neg z2, hd, he]; rfl
      · rw [if_neg z]
        refine idle 0 ?_
        unfold actD; rw [if_neg (by omega), if_neg (by omega), if_neg (by omega), if_pos c6, if_pos (by omega)]
    · rw [if_neg c6]
      refine idle 0 ?_
      unfold actD
      by_cases y1 : dr x 8 < 3
      · rw [if_pos y1, if_pos (by omega)]
      · rw [if_neg y1]
        by_cases y2 : dr x 8 = 3 ∨ dr x 8 = 4
        · rw [if_pos y2, if_pos (by omega)]
        · rw [if_neg y2]
          by_cases y3 : dr x 8 = 5
          · rw [if_pos y3, if_pos (by omega)]
          · rw [if_neg y3, if_neg c6]
  have mend : dr x 8 = 5 → 0 < A 0 → wp ((f_Dr_draw m (A 0) s1).bind fun p1 => ((f_St_mendIt_17 m p1.1 p1.2).bind fun p2 => (some (0, p2.2)))) (fun _ s' => SR s' 17 (actD A x).1 ∧ s'.1 245 0 = (actD A x).2 ∧ (∀ c, ¬ (17 ≤ c ∧ c < 30) → c ≠ 245 → s'.1 c = s.1 c) ∧ s'.2 = s.2) := by
    intro c5 z
    rw [dd _ z, Option.bind_some]
    have q1 := dr_in (nx x) z
    obtain ⟨b, hb⟩ : ∃ d : Nat, dr (nx x) (A 0) = (d : Int) := ⟨(dr (nx x) (A 0)).toNat, by omega⟩
    simp only [hb]
    refine fin (mends A b) (nx (nx x)) s2 _ (whyMend A b) ?_ s2x s2c s22 (C_mend_17 s2S h.1 (by omega) m)
    unfold actD; rw [if_neg (by omega), if_neg (by omega), if_pos c5, if_neg (by omega), hb]; rfl
  have tail5 : ∀ k, ¬ (dr x 8 < 3 ∧ A 2 ≠ 0 ∧ A 0 ≠ 0) → ¬ ((dr x 8 = 3 ∨ dr x 8 = 4) ∧ A 2 ≠ 0 ∧ A 1 ≠ 0) → wp (if dr x 8 = 5 then (if 0 < A 0 then ((f_Dr_draw m (A 0) s1).bind fun p1 => ((f_St_mendIt_17 m p1.1 p1.2).bind fun p2 => (some (0, p2.2)))) else (l_Dr_actOnce_245_4_17_L136 m (k + 1) (dr x 8) s1)) else (l_Dr_actOnce_245_4_17_L136 m (k + 1) (dr x 8) s1)) (fun _ s' => SR s' 17 (actD A x).1 ∧ s'.1 245 0 = (actD A x).2 ∧ (∀ c, ¬ (17 ≤ c ∧ c < 30) → c ≠ 245 → s'.1 c = s.1 c) ∧ s'.2 = s.2) := by
    intro k h3 h4
    by_cases c5 : dr x 8 = 5
    · rw [if_pos c5]
      by_cases z : 0 < A 0
      · rw [if_pos z]; exact mend c5 z
      · rw [if_neg z]; exact L136 k (Or.inr (by omega)) h3 h4
    · rw [if_neg c5]; exact L136 k (Or.inl c5) h3 h4
  have L65 : ∀ k, (dr x 8 = 3 ∨ dr x 8 = 4) → wp (l_Dr_actOnce_245_4_17_L65 m (k + 1 + 1) (dr x 8) s1) (fun _ s' => SR s' 17 (actD A x).1 ∧ s'.1 245 0 = (actD A x).2 ∧ (∀ c, ¬ (17 ≤ c ∧ c < 30) → c ≠ 245 → s'.1 c = s.1 c) ∧ s'.2 = s.2) := by
    intro k h34
    rw [l_Dr_actOnce_245_4_17_L65_eq, e2, e1, e0]
    by_cases z : 0 < A 2
    · rw [if_pos z]
      by_cases z1 : 0 < A 1
      · rw [if_pos z1, dd _ z, Option.bind_some]
        simp only [f1]
        rw [ddd _ z1, Option.bind_some]
        have q1 := dr_in (nx x) z
        have q2 := dr_in (nx (nx x)) z1
        obtain ⟨d, hd⟩ : ∃ d : Nat, dr (nx x) (A 2) = (d : Int) := ⟨(dr (nx x) (A 2)).toNat, by omega⟩
        obtain ⟨e, he⟩ : ∃ d : Nat, dr (nx (nx x)) (A 1) = (d : Int) := ⟨(dr (nx (nx x)) (A 1)).toNat, by omega⟩
        simp only [hd, he]
        refine fin (lays A d e) (nx (nx (nx x))) s3 _ (whyLay A d e) ?_ s3x s3c s32 (C_lay_17 s3S s3V h.1 h.2.1 (by omega) (by omega) (by omega))
        unfold actD; rw [if_neg (by omega), if_pos h34, if_neg (by omega), hd, he]; rfl
      · rw [if_neg z1]
        exact tail5 k (by omega) (by omega)
    · rw [if_neg z]
      exact tail5 k (by omega) (by omega)
  rw [f_Dr_actOnce_245_4_17_eq, d1, Option.bind_some]
  simp only [e0, e1, e2]
  have em : l_Dr_actOnce_245_4_17_L136 m m = l_Dr_actOnce_245_4_17_L136 m (n0 + 1 + 1) := by rw [← hn0]
  have em2 : l_Dr_actOnce_245_4_17_L65 m m = l_Dr_actOnce_245_4_17_L65 m (n0 + 1 + 1) := by rw [← hn0]
  rw [em, em2]
  by_cases c1 : 2 < dr x 8
  · rw [if_pos c1]
    by_cases c3 : dr x 8 = 3
    · rw [if_pos c3]; exact L65 n0 (Or.inl c3)
    · rw [if_neg c3]
      by_cases c4 : dr x 8 = 4
      · rw [if_pos c4]; exact L65 n0 (Or.inr c4)
      · rw [if_neg c4]; exact tail5 (n0 + 1) (by omega) (by omega)
  · rw [if_neg c1]
    have c3 : ¬ dr x 8 = 3 := by omega
    have c4 : ¬ dr x 8 = 4 := by omega
    by_cases z : 0 < A 2
    · rw [if_pos z]
      by_cases z1 : 0 < A 0
      · rw [if_pos z1, dd _ z, Option.bind_some]
        simp only [f0]
        rw [ddd _ z1, Option.bind_some]
        have q1 := dr_in (nx x) z
        have q2 := dr_in (nx (nx x)) z1
        obtain ⟨d, hd⟩ : ∃ d : Nat, dr (nx x) (A 2) = (d : Int) := ⟨(dr (nx x) (A 2)).toNat, by omega⟩
        obtain ⟨e, he⟩ : ∃ d : Nat, dr (nx (nx x)) (A 0) = (d : Int) := ⟨(dr (nx (nx x)) (A 0)).toNat, by omega⟩
        simp only [hd, he]
        refine fin (lends A d e) (nx (nx (nx x))) s3 _ (whyLend A d e) ?_ s3x s3c s32 (C_lend_17 s3S s3V h.1 h.2.1 (by omega) (by omega) (by omega))
        unfold actD; rw [if_pos (by omega), if_neg (by omega), hd, he]; rfl
      · rw [if_neg z1, if_neg c3, if_neg c4]; exact tail5 (n0 + 1) (by omega) (by omega)
    · rw [if_neg z, if_neg c3, if_neg c4]; exact tail5 (n0 + 1) (by omega) (by omega)
theorem C_drawsL_17 {m : Nat} (hm : 10000 ≤ m) (x1 : Int) (hx1 : x1 ≤ 400) : ∀ (k n : Nat) (x5 : Int) (s : mS) (A : Row), SR s 17 A → VR s 4 A → WF A → 0 ≤ x5 → x5 ≤ x1 → (min (x1 - x5) (400 - A 85)).toNat = k → k < n →
    wp (l_Dr_live_245_4_17_L8 m n x1 x5 s) (fun r s' => r = x5 + k ∧ SR s' 17 (drawsA k (A, s.1 245 0)).1 ∧ (∀ c, ¬ (17 ≤ c ∧ c < 30) → c ≠ 245 → s'.1 c = s.1 c) ∧ s'.2 = s.2) := by
  intro k
  induction k with
  | zero =>
    intro n x5 s A hs hr h h0 h1 hk hkn
    have hdy := WFs_day h.2.1
    obtain ⟨n, rfl⟩ : ∃ n', n = n' + 1 := ⟨n - 1, by omega⟩
    rw [l_Dr_live_245_4_17_L8_eq, SR17_day hs]
    by_cases c : x5 < x1
    · rw [if_pos c, if_neg (by omega), wp_some]; exact ⟨by omega, hs, fun _ _ _ => rfl, rfl⟩
    · rw [if_neg c, wp_some]; exact ⟨by omega, hs, fun _ _ _ => rfl, rfl⟩
  | succ k ih =>
    intro n x5 s A hs hr h h0 h1 hk hkn
    have hdy := WFs_day h.2.1
    obtain ⟨n, rfl⟩ : ∃ n', n = n' + 1 := ⟨n - 1, by omega⟩
    rw [l_Dr_live_245_4_17_L8_eq, SR17_day hs, if_pos (by omega), if_pos (by omega)]
    obtain ⟨r1, sa, a1, a2, a3, a4, a5⟩ := C_act_17 hs hr h hm
    obtain ⟨b1, b2⟩ := actD_ok h (s.1 245 0)
    have hn2 := (WFv_dead b1.1).2
    have e85 := b2 85 (by omega)
    rw [a1, Option.bind_some]
    have hra : VR sa 4 (actD A (s.1 245 0)).1 := VR_cg (VR_keep hr (fun c x y => a4 c (by omega) (by omega))) h.1 (fun k hk => b2 k (by omega))
    obtain ⟨r2, sb, c1, c2, c3, c4⟩ := C_days_17 a2 hra b1.1 b1.2.1 hm (n := 1) (by omega) (by omega)
    have em : (min 1 (400 - (actD A (s.1 245 0)).1 85)) = 1 := by rw [e85]; omega
    rw [em] at c2 c3
    rw [c1, Option.bind_some]
    show wp (l_Dr_live_245_4_17_L8 m n x1 (w32 (x5 + 1)) sb) _
    have e1 : w32 (x5 + 1) = x5 + 1 := w32_in (by omega) (by omega)
    rw [e1]
    have hd1 : daysA (1 : Int).toNat (actD A (s.1 245 0)).1 = dayA (actD A (s.1 245 0)).1 := rfl
    rw [hd1] at c3
    have hrb : VR sb 4 (dayA (actD A (s.1 245 0)).1) := VR_cg (VR_keep hra (fun c x y => c4.1 c (by omega))) b1.1 (fun k hk => dayA_lo hn2 hk)
    have e245 : sb.1 245 0 = (actD A (s.1 245 0)).2 := by rw [c4.1 245 (by omega), a3]
    refine wp_mono (ih n (x5 + 1) sb _ c3 hrb (WF_dayA b1 (by omega)) (by omega) (by omega) (by rw [dayA_day hn2, e85]; omega) (by omega)) ?_
    intro r s' ⟨g1, g2, g3, g4⟩
    rw [e245] at g2
    refine ⟨by omega, g2, fun c x y => ?_, by rw [g4, c4.2, a5]⟩
    rw [g3 c x y, c4.1 c (by omega), a4 c x y]
theorem C_draws_17 {s : mS} {A : Row} (hs : SR s 17 A) (hr : VR s 4 A) (h : WF A) {m : Nat} (hm : 10000 ≤ m) {n : Int} (h0 : 0 ≤ n) (h1 : n ≤ 400) (x : Int) :
    wp (f_Dr_live_245_4_17 m n x s) (fun r s' => r = min n (400 - A 85) ∧ SR s' 17 (drawsA (min n (400 - A 85)).toNat (A, x)).1 ∧ (∀ c, ¬ (17 ≤ c ∧ c < 30) → c ≠ 245 → s'.1 c = s.1 c) ∧ s'.2 = s.2) := by
  have hdy := WFs_day h.2.1
  rw [f_Dr_live_245_4_17_eq]
  refine wp_mono (C_drawsL_17 hm n h1 (min n (400 - A 85)).toNat m 0 (wI s 245 0 x) A (SR_keep hs (fun c _ _ => wI_ne (by omega))) (VR_keep hr (fun c _ _ => wI_ne (by omega))) h (by omega) (by omega) (by omega) (by omega)) ?_
  intro r s' ⟨b1, b2, b3, b4⟩
  rw [wI_at] at b2
  exact ⟨by omega, b2, fun c x y => by rw [b3 c x y, wI_ne y], b4⟩

theorem C_act_206 {s : mS} {A : Row} (hs : SR s 206 A) (hr : VR s 4 A) (h : WF A) {m : Nat} (hm : 10000 ≤ m) :
    wp (f_Dr_actOnce_245_4_206 m s) (fun _ s' => SR s' 206 (actD A (s.1 245 0)).1 ∧ s'.1 245 0 = (actD A (s.1 245 0)).2 ∧ (∀ c, ¬ (206 ≤ c ∧ c < 219) → c ≠ 245 → s'.1 c = s.1 c) ∧ s'.2 = s.2) := by
  have w0 := WFv_boxes h.1
  have w1 := WFv_plots h.1
  have w2 := WFv_dead h.1
  obtain ⟨n0, hn0⟩ : ∃ n, m = n + 1 + 1 := ⟨m - 2, by omega⟩
  generalize hx : s.1 245 0 = x
  have x8 := dr_in x (n := 8) (by omega)
  -- states with another seed
  have sS : ∀ (u : mS) (v : Int), SR u 206 A → SR (wI u 245 0 v) 206 A := fun u v hu => SR_keep hu (fun c _ _ => wI_ne (by omega))
  have sV : ∀ (u : mS) (v : Int), VR u 4 A → VR (wI u 245 0 v) 4 A := fun u v hu => VR_keep hu (fun c _ _ => wI_ne (by omega))
  have d1 := C_draw (s := s) m (n := 8) (by omega)
  rw [hx] at d1
  have s1S := sS s (nx x) hs
  have s1V := sV s (nx x) hr
  have s1x : (wI s 245 0 (nx x)).1 245 0 = nx x := wI_at
  have s1c : ∀ c, c ≠ 245 → (wI s 245 0 (nx x)).1 c = s.1 c := fun c hc => wI_ne hc
  have s12 : (wI s 245 0 (nx x)).2 = s.2 := rfl
  generalize wI s 245 0 (nx x) = s1 at d1 s1S s1V s1x s1c s12
  have e0 : s1.1 4 0 = A 0 := VR4_boxes s1V
  have e1 : s1.1 4 1 = A 1 := VR4_plots s1V
  have e2 : s1.1 4 2 = A 2 := VR4_dead s1V
  -- what happens when nothing is done
  have idle : ∀ r : Int, (actD A x) = (A, nx x) → wp (some (r, s1)) (fun _ s' => SR s' 206 (actD A x).1 ∧ s'.1 245 0 = (actD A x).2 ∧ (∀ c, ¬ (206 ≤ c ∧ c < 219) → c ≠ 245 → s'.1 c = s.1 c) ∧ s'.2 = s.2) := by
    intro r hq; rw [wp_some, hq]; exact ⟨s1S, s1x, fun c _ hc => s1c c hc, s12⟩
  -- a second draw, a third
  have dd : ∀ n : Int, 0 < n → f_Dr_draw m n s1 = some (dr (nx x) n, wI s1 245 0 (nx (nx x))) := by intro n hn; have := C_draw (s := s1) m hn; rw [s1x] at this; exact this
  have s2x : (wI s1 245 0 (nx (nx x))).1 245 0 = nx (nx x) := wI_at
  have s2S := sS s1 (nx (nx x)) s1S
  have s2V := sV s1 (nx (nx x)) s1V
  have s2c : ∀ c, c ≠ 245 → (wI s1 245 0 (nx (nx x))).1 c = s.1 c := fun c hc => by rw [wI_ne hc, s1c c hc]
  have s22 : (wI s1 245 0 (nx (nx x))).2 = s.2 := s12
  generalize wI s1 245 0 (nx (nx x)) = s2 at dd s2x s2S s2V s2c s22
  have ddd : ∀ n : Int, 0 < n → f_Dr_draw m n s2 = some (dr (nx (nx x)) n, wI s2 245 0 (nx (nx (nx x)))) := by intro n hn; have := C_draw (s := s2) m hn; rw [s2x] at this; exact this
  have s3x : (wI s2 245 0 (nx (nx (nx x)))).1 245 0 = nx (nx (nx x)) := wI_at
  have s3S := sS s2 (nx (nx (nx x))) s2S
  have s3V := sV s2 (nx (nx (nx x))) s2V
  have s3c : ∀ c, c ≠ 245 → (wI s2 245 0 (nx (nx (nx x)))).1 c = s.1 c := fun c hc => by rw [wI_ne hc, s2c c hc]
  have s32 : (wI s2 245 0 (nx (nx (nx x)))).2 = s.2 := s22
  generalize wI s2 245 0 (nx (nx (nx x))) = s3 at ddd s3x s3S s3V s3c s32
  have f0 : s2.1 4 0 = A 0 := VR4_boxes s2V
  have f1 : s2.1 4 1 = A 1 := VR4_plots s2V
  have f2 : s2.1 4 2 = A 2 := VR4_dead s2V
  have fin : ∀ (B : Row) (y : Int) (u : mS) (o : Option (Int × mS)) (w : Int), actD A x = (if w = 0 then B else A, y) → u.1 245 0 = y → (∀ c, c ≠ 245 → u.1 c = s.1 c) → u.2 = s.2 → wp o (fun r s' => r = w ∧ SR s' 206 (if r = 0 then B else A) ∧ only u s' 206 219) →
      wp (o.bind fun p => some (0, p.2)) (fun _ s' => SR s' 206 (actD A x).1 ∧ s'.1 245 0 = (actD A x).2 ∧ (∀ c, ¬ (206 ≤ c ∧ c < 219) → c ≠ 245 → s'.1 c = s.1 c) ∧ s'.2 = s.2) := by
    intro B y u o w hq hy hc h2 ho
    obtain ⟨r, s', ho, hr, hS, hO⟩ := ho
    rw [ho, Option.bind_some, wp_some, hq]
    rw [hr] at hS
    exact ⟨hS, by rw [hO.1 245 (by omega)]; exact hy, fun c h1 h2 => by rw [hO.1 c (by omega), hc c h2], by rw [hO.2, h2]⟩
  have L136 : ∀ k, dr x 8 ≠ 5 ∨ A 0 = 0 → ¬ (dr x 8 < 3 ∧ A 2 ≠ 0 ∧ A 0 ≠ 0) → ¬ ((dr x 8 = 3 ∨ dr x 8 = 4) ∧ A 2 ≠ 0 ∧ A 1 ≠ 0) → wp (l_Dr_actOnce_245_4_206_L136 m (k + 1) (dr x 8) s1) (fun _ s' => SR s' 206 (actD A x).1 ∧ s'.1 245 0 = (actD A x).2 ∧ (∀ c, ¬ (206 ≤ c ∧ c < 219) → c ≠ 245 → s'.1 c = s.1 c) ∧ s'.2 = s.2) := by
    intro k h5 h3 h4
    rw [l_Dr_actOnce_245_4_206_L136_eq, e2]
    by_cases c6 : dr x 8 = 6
    · rw [if_pos c6]
      by_cases z : 0 < A 2
      · rw [if_pos z, dd _ z, Option.bind_some]
        simp only [f2]
        rw [ddd _ z, Option.bind_some]
        have q1 := dr_in (nx x) z
        have q2 := dr_in (nx (nx x)) z
        by_cases z2 : dr (nx x) (A 2) = dr (nx (nx x)) (A 2)
        · rw [if_pos z2, wp_some]
          have hq : actD A x = (A, nx (nx (nx x))) := by unfold actD; rw [if_neg (by omega), if_neg (by omega), if_neg (by omega), if_pos c6, if_neg (by omega), if_pos z2]
          rw [hq]; exact ⟨s3S, s3x, fun c _ hc => s3c c hc, s32⟩
        · rw [if_neg z2]
          obtain ⟨d, hd⟩ : ∃ d : Nat, dr (nx x) (A 2) = (d : Int) := ⟨(dr (nx x) (A 2)).toNat, by omega⟩
          obtain ⟨e, he⟩ : ∃ d : Nat, dr (nx (nx x)) (A 2) = (d : Int) := ⟨(dr (nx (nx x)) (A 2)).toNat, by omega⟩
          simp only [hd, he]
          refine fin (swaps A d e) (nx (nx (nx x))) s3 _ (whySwap A d e) ?_ s3x s3c s32 (C_swap_206 s3S s3V h.1 h.2.1 (by omega) (by omega) (by omega))
          unfold actD; rw [if_neg (by omega), if_neg (by omega), if_neg (by omega), if_pos c6, if_neg (by omega), if_neg z2, hd, he]; rfl
      · rw [if_neg z]
        refine idle 0 ?_
        unfold actD; rw [if_neg (by omega), if_neg (by omega), if_neg (by omega), if_pos c6, if_pos (by omega)]
    · rw [if_neg c6]
      refine idle 0 ?_
      unfold actD
      by_cases y1 : dr x 8 < 3
      · rw [if_pos y1, if_pos (by omega)]
      · rw [if_neg y1]
        by_cases y2 : dr x 8 = 3 ∨ dr x 8 = 4
        · rw [if_pos y2, if_pos (by omega)]
        · rw [if_neg y2]
          by_cases y3 : dr x 8 = 5
          · rw [if_pos y3, if_pos (by omega)]
          · rw [if_neg y3, if_neg c6]
  have mend : dr x 8 = 5 → 0 < A 0 → wp ((f_Dr_draw m (A 0) s1).bind fun p1 => ((f_St_mendIt_206 m p1.1 p1.2).bind fun p2 => (some (0, p2.2)))) (fun _ s' => SR s' 206 (actD A x).1 ∧ s'.1 245 0 = (actD A x).2 ∧ (∀ c, ¬ (206 ≤ c ∧ c < 219) → c ≠ 245 → s'.1 c = s.1 c) ∧ s'.2 = s.2) := by
    intro c5 z
    rw [dd _ z, Option.bind_some]
    have q1 := dr_in (nx x) z
    obtain ⟨b, hb⟩ : ∃ d : Nat, dr (nx x) (A 0) = (d : Int) := ⟨(dr (nx x) (A 0)).toNat, by omega⟩
    simp only [hb]
    refine fin (mends A b) (nx (nx x)) s2 _ (whyMend A b) ?_ s2x s2c s22 (C_mend_206 s2S h.1 (by omega) m)
    unfold actD; rw [if_neg (by omega), if_neg (by omega), if_pos c5, if_neg (by omega), hb]; rfl
  have tail5 : ∀ k, ¬ (dr x 8 < 3 ∧ A 2 ≠ 0 ∧ A 0 ≠ 0) → ¬ ((dr x 8 = 3 ∨ dr x 8 = 4) ∧ A 2 ≠ 0 ∧ A 1 ≠ 0) → wp (if dr x 8 = 5 then (if 0 < A 0 then ((f_Dr_draw m (A 0) s1).bind fun p1 => ((f_St_mendIt_206 m p1.1 p1.2).bind fun p2 => (some (0, p2.2)))) else (l_Dr_actOnce_245_4_206_L136 m (k + 1) (dr x 8) s1)) else (l_Dr_actOnce_245_4_206_L136 m (k + 1) (dr x 8) s1)) (fun _ s' => SR s' 206 (actD A x).1 ∧ s'.1 245 0 = (actD A x).2 ∧ (∀ c, ¬ (206 ≤ c ∧ c < 219) → c ≠ 245 → s'.1 c = s.1 c) ∧ s'.2 = s.2) := by
    intro k h3 h4
    by_cases c5 : dr x 8 = 5
    · rw [if_pos c5]
      by_cases z : 0 < A 0
      · rw [if_pos z]; exact mend c5 z
      · rw [if_neg z]; exact L136 k (Or.inr (by omega)) h3 h4
    · rw [if_neg c5]; exact L136 k (Or.inl c5) h3 h4
  have L65 : ∀ k, (dr x 8 = 3 ∨ dr x 8 = 4) → wp (l_Dr_actOnce_245_4_206_L65 m (k + 1 + 1) (dr x 8) s1) (fun _ s' => SR s' 206 (actD A x).1 ∧ s'.1 245 0 = (actD A x).2 ∧ (∀ c, ¬ (206 ≤ c ∧ c < 219) → c ≠ 245 → s'.1 c = s.1 c) ∧ s'.2 = s.2) := by
    intro k h34
    rw [l_Dr_actOnce_245_4_206_L65_eq, e2, e1, e0]
    by_cases z : 0 < A 2
    · rw [if_pos z]
      by_cases z1 : 0 < A 1
      · rw [if_pos z1, dd _ z, Option.bind_some]
        simp only [f1]
        rw [ddd _ z1, Option.bind_some]
        have q1 := dr_in (nx x) z
        have q2 := dr_in (nx (nx x)) z1
        obtain ⟨d, hd⟩ : ∃ d : Nat, dr (nx x) (A 2) = (d : Int) := ⟨(dr (nx x) (A 2)).toNat, by omega⟩
        obtain ⟨e, he⟩ : ∃ d : Nat, dr (nx (nx x)) (A 1) = (d : Int) := ⟨(dr (nx (nx x)) (A 1)).toNat, by omega⟩
        simp only [hd, he]
        refine fin (lays A d e) (nx (nx (nx x))) s3 _ (whyLay A d e) ?_ s3x s3c s32 (C_lay_206 s3S s3V h.1 h.2.1 (by omega) (by omega) (by omega))
        unfold actD; rw [if_neg (by omega), if_pos h34, if_neg (by omega), hd, he]; rfl
      · rw [if_neg z1]
        exact tail5 k (by omega) (by omega)
    · rw [if_neg z]
      exact tail5 k (by omega) (by omega)
  rw [f_Dr_actOnce_245_4_206_eq, d1, Option.bind_some]
  simp only [e0, e1, e2]
  have em : l_Dr_actOnce_245_4_206_L136 m m = l_Dr_actOnce_245_4_206_L136 m (n0 + 1 + 1) := by rw [← hn0]
  have em2 : l_Dr_actOnce_245_4_206_L65 m m = l_Dr_actOnce_245_4_206_L65 m (n0 + 1 + 1) := by rw [← hn0]
  rw [em, em2]
  by_cases c1 : 2 < dr x 8
  · rw [if_pos c1]
    by_cases c3 : dr x 8 = 3
    · rw [if_pos c3]; exact L65 n0 (Or.inl c3)
    · rw [if_neg c3]
      by_cases c4 : dr x 8 = 4
      · rw [if_pos c4]; exact L65 n0 (Or.inr c4)
      · rw [if_neg c4]; exact tail5 (n0 + 1) (by omega) (by omega)
  · rw [if_neg c1]
    have c3 : ¬ dr x 8 = 3 := by omega
    have c4 : ¬ dr x 8 = 4 := by omega
    by_cases z : 0 < A 2
    · rw [if_pos z]
      by_cases z1 : 0 < A 0
      · rw [if_pos z1, dd _ z, Option.bind_some]
        simp only [f0]
        rw [ddd _ z1, Option.bind_some]
        have q1 := dr_in (nx x) z
        have q2 := dr_in (nx (nx x)) z1
        obtain ⟨d, hd⟩ : ∃ d : Nat, dr (nx x) (A 2) = (d : Int) := ⟨(dr (nx x) (A 2)).toNat, by omega⟩
        obtain ⟨e, he⟩ : ∃ d : Nat, dr (nx (nx x)) (A 0) = (d : Int) := ⟨(dr (nx (nx x)) (A 0)).toNat, by omega⟩
        simp only [hd, he]
        refine fin (lends A d e) (nx (nx (nx x))) s3 _ (whyLend A d e) ?_ s3x s3c s32 (C_lend_206 s3S s3V h.1 h.2.1 (by omega) (by omega) (by omega))
        unfold actD; rw [if_pos (by omega), if_neg (by omega), hd, he]; rfl
      · rw [if_neg z1, if_neg c3, if_neg c4]; exact tail5 (n0 + 1) (by omega) (by omega)
    · rw [if_neg z, if_neg c3, if_neg c4]; exact tail5 (n0 + 1) (by omega) (by omega)
theorem C_drawsL_206 {m : Nat} (hm : 10000 ≤ m) (x1 : Int) (hx1 : x1 ≤ 400) : ∀ (k n : Nat) (x5 : Int) (s : mS) (A : Row), SR s 206 A → VR s 4 A → WF A → 0 ≤ x5 → x5 ≤ x1 → (min (x1 - x5) (400 - A 85)).toNat = k → k < n →
    wp (l_Dr_live_245_4_206_L8 m n x1 x5 s) (fun r s' => r = x5 + k ∧ SR s' 206 (drawsA k (A, s.1 245 0)).1 ∧ (∀ c, ¬ (206 ≤ c ∧ c < 219) → c ≠ 245 → s'.1 c = s.1 c) ∧ s'.2 = s.2) := by
  intro k
  induction k with
  | zero =>
    intro n x5 s A hs hr h h0 h1 hk hkn
    have hdy := WFs_day h.2.1
    obtain ⟨n, rfl⟩ : ∃ n', n = n' + 1 := ⟨n - 1, by omega⟩
    rw [l_Dr_live_245_4_206_L8_eq, SR206_day hs]
    by_cases c : x5 < x1
    · rw [if_pos c, if_neg (by omega), wp_some]; exact ⟨by omega, hs, fun _ _ _ => rfl, rfl⟩
    · rw [if_neg c, wp_some]; exact ⟨by omega, hs, fun _ _ _ => rfl, rfl⟩
  | succ k ih =>
    intro n x5 s A hs hr h h0 h1 hk hkn
    have hdy := WFs_day h.2.1
    obtain ⟨n, rfl⟩ : ∃ n', n = n' + 1 := ⟨n - 1, by omega⟩
    rw [l_Dr_live_245_4_206_L8_eq, SR206_day hs, if_pos (by omega), if_pos (by omega)]
    obtain ⟨r1, sa, a1, a2, a3, a4, a5⟩ := C_act_206 hs hr h hm
    obtain ⟨b1, b2⟩ := actD_ok h (s.1 245 0)
    have hn2 := (WFv_dead b1.1).2
    have e85 := b2 85 (by omega)
    rw [a1, Option.bind_some]
    have hra : VR sa 4 (actD A (s.1 245 0)).1 := VR_cg (VR_keep hr (fun c x y => a4 c (by omega) (by omega))) h.1 (fun k hk => b2 k (by omega))
    obtain ⟨r2, sb, c1, c2, c3, c4⟩ := C_days_206 a2 hra b1.1 b1.2.1 hm (n := 1) (by omega) (by omega)
    have em : (min 1 (400 - (actD A (s.1 245 0)).1 85)) = 1 := by rw [e85]; omega
    rw [em] at c2 c3
    rw [c1, Option.bind_some]
    show wp (l_Dr_live_245_4_206_L8 m n x1 (w32 (x5 + 1)) sb) _
    have e1 : w32 (x5 + 1) = x5 + 1 := w32_in (by omega) (by omega)
    rw [e1]
    have hd1 : daysA (1 : Int).toNat (actD A (s.1 245 0)).1 = dayA (actD A (s.1 245 0)).1 := rfl
    rw [hd1] at c3
    have hrb : VR sb 4 (dayA (actD A (s.1 245 0)).1) := VR_cg (VR_keep hra (fun c x y => c4.1 c (by omega))) b1.1 (fun k hk => dayA_lo hn2 hk)
    have e245 : sb.1 245 0 = (actD A (s.1 245 0)).2 := by rw [c4.1 245 (by omega), a3]
    refine wp_mono (ih n (x5 + 1) sb _ c3 hrb (WF_dayA b1 (by omega)) (by omega) (by omega) (by rw [dayA_day hn2, e85]; omega) (by omega)) ?_
    intro r s' ⟨g1, g2, g3, g4⟩
    rw [e245] at g2
    refine ⟨by omega, g2, fun c x y => ?_, by rw [g4, c4.2, a5]⟩
    rw [g3 c x y, c4.1 c (by omega), a4 c x y]
theorem C_draws_206 {s : mS} {A : Row} (hs : SR s 206 A) (hr : VR s 4 A) (h : WF A) {m : Nat} (hm : 10000 ≤ m) {n : Int} (h0 : 0 ≤ n) (h1 : n ≤ 400) (x : Int) :
    wp (f_Dr_live_245_4_206 m n x s) (fun r s' => r = min n (400 - A 85) ∧ SR s' 206 (drawsA (min n (400 - A 85)).toNat (A, x)).1 ∧ (∀ c, ¬ (206 ≤ c ∧ c < 219) → c ≠ 245 → s'.1 c = s.1 c) ∧ s'.2 = s.2) := by
  have hdy := WFs_day h.2.1
  rw [f_Dr_live_245_4_206_eq]
  refine wp_mono (C_drawsL_206 hm n h1 (min n (400 - A 85)).toNat m 0 (wI s 245 0 x) A (SR_keep hs (fun c _ _ => wI_ne (by omega))) (VR_keep hr (fun c _ _ => wI_ne (by omega))) h (by omega) (by omega) (by omega) (by omega)) ?_
  intro r s' ⟨b1, b2, b3, b4⟩
  rw [wI_at] at b2
  exact ⟨by omega, b2, fun c x y => by rw [b3 c x y, wI_ne y], b4⟩

