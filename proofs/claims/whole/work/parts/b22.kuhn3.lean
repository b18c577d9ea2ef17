/-! ===== layer 3: match (3): the most, by the class ===== -/
theorem C_fillA_244 (m : Nat) (v : Int) : ∀ (d n k : Nat) (s : mS), k + d = 9 → d + 1 ≤ n → ∃ s', l_Ja_fill_244_L5 m n v (k : Int) 9 s = some (0, s') ∧ (∀ j, s'.1 244 j = if k ≤ j ∧ j < 9 then v else s.1 244 j) ∧ (∀ x, x ≠ 244 → s'.1 x = s.1 x) ∧ s'.2 = s.2
  | 0, n, k, s, hk, hn => by
    obtain ⟨n0, rfl⟩ : ∃ n0, n = n0 + 1 := ⟨n - 1, by omega⟩
    rw [l_Ja_fill_244_L5_eq, if_neg (by omega)]
    exact ⟨s, rfl, fun j => by rw [if_neg (by omega)], fun _ _ => rfl, rfl⟩
  | d + 1, n, k, s, hk, hn => by
    obtain ⟨n0, rfl⟩ : ∃ n0, n = n0 + 1 := ⟨n - 1, by omega⟩
    rw [l_Ja_fill_244_L5_eq, if_pos (by omega), inR_pos (by omega) (by omega), w32_in (by omega) (by omega), Int.toNat_natCast, show (k : Int) + 1 = ((k + 1 : Nat) : Int) from by omega]
    obtain ⟨s', r1, r2, r3, r4⟩ := C_fillA_244 m v d n0 (k + 1) (wI s 244 k v) (by omega) (by omega)
    refine ⟨s', r1, fun j => ?_, fun x hx => by rw [r3 x hx, wI_ne hx], r4⟩
    rw [r2 j]
    by_cases q : j = k
    · subst q; rw [if_neg (by omega), wI_at, if_pos (by omega)]
    · by_cases q2 : k + 1 ≤ j ∧ j < 9
      · rw [if_pos q2, if_pos (by omega)]
      · rw [if_neg q2, wI_f q, if_neg (by omega)]
/-- the box that one holds -/
def own (O : Row) (i : Nat) : Nat → Option Nat
  | 0 => none
  | k + 1 => if O k = (i : Int) then some k else own O i k
theorem own_some {O : Row} {i : Nat} : ∀ k b, own O i k = some b → b < k ∧ O b = (i : Int)
  | 0, b, h => by cases h
  | k + 1, b, h => by
    rw [own] at h
    by_cases c : O k = (i : Int)
    · rw [if_pos c] at h
      have : k = b := Option.some.inj h
      subst this
      exact ⟨by omega, c⟩
    · rw [if_neg c] at h
      have := own_some k b h
      exact ⟨by omega, this.2⟩
theorem own_none {O : Row} {i : Nat} : ∀ k, own O i k = none → ∀ b, b < k → O b ≠ (i : Int)
  | 0, _, b, hb => by omega
  | k + 1, h, b, hb => by
    rw [own] at h
    by_cases c : O k = (i : Int)
    · rw [if_pos c] at h; cases h
    · rw [if_neg c] at h
      by_cases q : b = k
      · rw [q]; exact c
      · exact own_none k h b (by omega)
theorem ct_zero {p : Nat → Bool} : ∀ n, (∀ i, i < n → p i = false) → ct p n = 0
  | 0, _ => rfl
  | n + 1, h => by rw [ct_s, ct_zero n (fun i hi => h i (by omega)), h n (by omega)]; rfl
theorem ct_pos {p : Nat → Bool} {b : Nat} (hb : p b = true) : ∀ n, b < n → 1 ≤ ct p n
  | 0, h => by omega
  | n + 1, h => by
    rw [ct_s]
    by_cases e : b = n
    · subst e; rw [if_pos hb]; omega
    · have := ct_pos hb n (by omega); omega
theorem ct_one {p : Nat → Bool} {n b b1 : Nat} (h : ct p n ≤ 1) (hb : b < n) (hb1 : b1 < n) (p1 : p b = true) (p2 : p b1 = true) : b = b1 := by
  by_cases e : b = b1
  · exact e
  · exfalso
    have q := ct_sub (p := p) (q := fun i => p i && !decide (i = b)) (fun i hh => by rw [Bool.and_eq_true] at hh; exact hh.1) b p1 (fun i hne hp => by rw [hp, decide_eq_false hne]; rfl) (by rw [decide_eq_true rfl]; cases p b <;> rfl) n hb
    have := ct_pos (p := fun i => p i && !decide (i = b)) (b := b1) (by rw [p2, decide_eq_false (fun z => e z.symm)]; rfl) n hb1
    omega
/-- who has one, who could not: the class's search, so far -/
def KI (C : Nat → Nat) (first gone j : Nat) (O : Row) (D X : Nat → Bool) : Prop :=
  VO O ∧ (∀ i, i < 12 → cn O i = if D i = true then 1 else 0) ∧ (∀ i, D i = true → first ≤ i ∧ i < j) ∧ (∀ b e : Nat, b < 9 → O b = (e : Int) → (C e).testBit b = true ∧ gone.testBit b = false) ∧
  clo C O gone (fun b => X b = true) ∧ (∀ i, first ≤ i → i < j → D i = false → ∀ b, b < 9 → (C i).testBit b = true → gone.testBit b = true ∨ X b = true)
theorem K_value {C : Nat → Nat} {first gone : Nat} {O : Row} {D X : Nat → Bool} (hf : first ≤ 12) (h : KI C first gone 12 O D X) : ct D 12 = mxM C (12 - first) first gone := by
  obtain ⟨h1, h2, h3, h4, h5, h6⟩ := h
  have uniq : ∀ e b b1 : Nat, e < 12 → b < 9 → b1 < 9 → O b = (e : Int) → O b1 = (e : Int) → b = b1 := by
    intro e b b1 he hb hb1 o1 o2
    refine ct_one (p := fun b => decide (O b = (e : Int))) (n := 9) ?_ hb hb1 (decide_eq_true o1) (decide_eq_true o2)
    have := h2 e he
    unfold cn at this
    rw [this]; split <;> omega
  have Dof : ∀ e b : Nat, e < 12 → b < 9 → O b = (e : Int) → D e = true := by
    intro e b he hb ho
    have := h2 e he
    have q := ct_pos (p := fun b => decide (O b = (e : Int))) (b := b) (decide_eq_true ho) 9 hb
    unfold cn at this
    cases w : D e with
    | true => rfl
    | false => rw [w, if_neg (by decide)] at this; omega
  have Down : ∀ i, D i = true → ∃ b, own O i 9 = some b := by
    intro i hi
    have r := h3 i hi
    cases w : own O i 9 with
    | some b => exact ⟨b, rfl⟩
    | none =>
      exfalso
      have z := own_none 9 w
      have := h2 i (by omega)
      unfold cn at this
      rw [if_pos hi, ct_zero 9 (fun b hb => decide_eq_false (z b hb))] at this
      omega
  apply Nat.le_antisymm
  · -- what it found is a way to give them
    have isM1 : isM C first (12 - first) gone (fun i => own O i 9) := by
      refine ⟨fun i b a1 a2 a3 => ?_, fun i i' b a1 a2 a3 a4 a5 a6 => ?_⟩
      · obtain ⟨q1, q2⟩ := own_some 9 b a3
        exact ⟨q1, h4 b i q1 q2⟩
      · have q1 := (own_some 9 b a5).2
        have q2 := (own_some 9 b a6).2
        omega
    have ub := mx_ub C (12 - first) first gone _ isM1
    rw [szM_ct, show first + (12 - first) = 12 from by omega] at ub
    refine Nat.le_trans (ct_le2 (fun i hi hD => ?_)) ub
    obtain ⟨b, hb⟩ := Down i hD
    rw [decide_eq_true (h3 i hD).1, hb]; rfl
  · -- no way gives more
    obtain ⟨μ, m1, m2⟩ := mx_at C (12 - first) first gone
    rw [← m2, szM_ct, show first + (12 - first) = 12 from by omega]
    obtain ⟨ox, hox⟩ : ∃ ox : Nat → Bool, ox = fun i => match own O i 9 with | some b => X b | none => false := ⟨_, rfl⟩
    have oxT : ∀ i, ox i = true → ∃ b, b < 9 ∧ O b = (i : Int) ∧ X b = true := by
      intro i hi
      rw [hox] at hi
      dsimp only at hi
      cases w : own O i 9 with
      | none => rw [w] at hi; cases hi
      | some b => rw [w] at hi; exact ⟨b, (own_some 9 b w).1, (own_some 9 b w).2, hi⟩
    have split1 := ct_split (fun i => decide (first ≤ i) && (μ i).isSome) (fun i => !D i || ox i) 12
    have split2 := ct_split D ox 12
    have c1 : ct (fun i => (decide (first ≤ i) && (μ i).isSome) && (!D i || ox i)) 12 ≤ ct X 9 := by
      refine ct_inj (f := fun i => (μ i).getD 0) 12 X (fun i hi hp => ?_) (fun i i' hi hi' hp hp' he => ?_)
      · rw [Bool.and_eq_true, Bool.and_eq_true, Bool.or_eq_true] at hp
        obtain ⟨⟨a1, a2⟩, a3⟩ := hp
        have f1 := of_decide_eq_true a1
        obtain ⟨b, hb⟩ := Option.isSome_iff_exists.mp a2
        obtain ⟨b9, bC, bg⟩ := m1.1 i b f1 (by omega) hb
        have e : (μ i).getD 0 = b := by rw [hb]; rfl
        rw [e]
        refine ⟨b9, ?_⟩
        rcases a3 with a3 | a3
        · have nD : D i = false := by cases w : D i with
            | false => rfl
            | true => rw [w] at a3; cases a3
          rcases h6 i f1 hi nD b b9 bC with w | w
          · rw [bg] at w; cases w
          · exact w
        · obtain ⟨b0, z1, z2, z3⟩ := oxT i a3
          obtain ⟨e0, y1, y2, y3⟩ := h5 b0 z1 z3
          have ee : e0 = i := by omega
          rw [ee] at y3
          rcases y3 b b9 bC with w | w
          · rw [bg] at w; cases w
          · exact w
      · rw [Bool.and_eq_true, Bool.and_eq_true] at hp hp'
        obtain ⟨b, hb⟩ := Option.isSome_iff_exists.mp hp.1.2
        obtain ⟨b', hb'⟩ := Option.isSome_iff_exists.mp hp'.1.2
        rw [hb, hb'] at he
        have eb : b = b' := he
        subst eb
        exact m1.2 i i' b (of_decide_eq_true hp.1.1) (by omega) (of_decide_eq_true hp'.1.1) (by omega) hb hb'
    have c2 : ct X 9 ≤ ct (fun i => D i && ox i) 12 := by
      refine ct_inj (f := fun b => (O b).toNat) 9 _ (fun b hb hX => ?_) (fun b b' hb hb' hX hX' he => ?_)
      · obtain ⟨e, e1, e2, _⟩ := h5 b hb hX
        have et : (O b).toNat = e := by rw [e2]; rfl
        rw [et]
        refine ⟨e1, ?_⟩
        have dd := Dof e b e1 hb e2
        obtain ⟨b1, w⟩ := Down e dd
        have w2 := own_some 9 b1 w
        have : b = b1 := uniq e b b1 e1 hb w2.1 e2 w2.2
        rw [dd, hox]
        dsimp only
        rw [w, ← this]
        show (true && X b) = true
        rw [hX]; rfl
      · obtain ⟨e, e1, e2, _⟩ := h5 b hb hX
        obtain ⟨e', e1', e2', _⟩ := h5 b' hb' hX'
        exact uniq e b b' e1 hb hb' e2 (by omega)
    have c3 : ct (fun i => (decide (first ≤ i) && (μ i).isSome) && !(!D i || ox i)) 12 ≤ ct (fun i => D i && !ox i) 12 := by
      refine ct_le2 (fun i _ hp => ?_)
      rw [Bool.and_eq_true] at hp
      have := hp.2
      cases w : D i <;> cases v : ox i <;> rw [w, v] at this <;> first | rfl | cases this
    omega
/-- one after the other -/
theorem K_loop {m : Nat} (hm : 10000 ≤ m) {C : Nat → Nat} (hC : ∀ j, C j < 512) {first gone : Nat} (hg : gone < 512) : ∀ (e n j : Nat) (many : Nat) (O : Row) (D X : Nat → Bool) (s : mS), j + e = 12 → e + 1 ≤ n → first ≤ j → KI C first gone j O D X → many = ct D 12 → s.1 244 = O → (∀ i, i < 12 → s.1 243 i = (C i : Int)) →
    ∃ s', l_Mt_mostFrom_L13 m n (gone : Int) (many : Int) (j : Int) s = some ((mxM C (12 - first) first gone : Int), s') ∧ FM s s' := by
  intro e
  induction e with
  | zero =>
    intro n j many O D X s hj hn hf hK hmn hO hs
    obtain ⟨n, rfl⟩ : ∃ g, n = g + 1 := ⟨n - 1, by omega⟩
    have j12 : j = 12 := by omega
    subst j12
    refine ⟨s, ?_, FM_refl s⟩
    rw [l_Mt_mostFrom_L13_eq, if_neg (by decide), hmn, K_value hf hK]
  | succ e ih =>
    intro n j many O D X s hj hn hf hK hmn hO hs
    obtain ⟨n, rfl⟩ : ∃ g, n = g + 1 := ⟨n - 1, by omega⟩
    obtain ⟨h1, h2, h3, h4, h5, h6⟩ := hK
    have ml : many ≤ 12 := by rw [hmn]; exact ct_le D 12
    have ul : un gone ≤ 9 := ct_le _ 9
    have ms : MS C gone O (wI s 241 3 (gone : Int)) := ⟨wI_at, by rw [wI_ne (by decide)]; exact hO, fun i hi => by rw [wI_ne (by decide)]; exact hs i hi⟩
    obtain ⟨r, s2, T2, O2, y1, y2, y3, y4, y5, y6, y7⟩ := K_finds (m := m) (by omega) hC 64 j 0 gone O (wI s 241 3 (gone : Int)) (by omega) hg ms h1 (by omega) (by omega)
    rw [show ((0 : Nat) : Int) = 0 from rfl] at y1
    rw [l_Mt_mostFrom_L13_eq, if_pos (by omega), y1, Option.bind_some]
    dsimp only
    have Dj : D j = false := by cases w : D j with
      | false => rfl
      | true => have := h3 j w; omega
    rw [w32_in (x := (j : Int) + 1) (by omega) (by omega), show (j : Int) + 1 = ((j + 1 : Nat) : Int) from by omega]
    rcases y7 with ⟨rr, z1, z2, z3⟩ | ⟨rr, z1, z2, z3, z4⟩
    · -- no box for this one
      subst rr
      subst z1
      rw [if_pos rfl]
      obtain ⟨X2, hX2⟩ : ∃ X2 : Nat → Bool, ∀ b, X2 b = (X b || (T2.testBit b && !gone.testBit b)) := ⟨fun b => X b || (T2.testBit b && !gone.testBit b), fun _ => rfl⟩
      have hK2 : KI C first gone (j + 1) O2 D X2 := by
        refine ⟨h1, h2, fun i hi => by have := h3 i hi; omega, h4, fun b hb hX0 => ?_, fun i a1 a2 a3 b hb hc => ?_⟩
        · have hX : X2 b = true := hX0
          rw [hX2, Bool.or_eq_true] at hX
          rcases hX with hX | hX
          · obtain ⟨e1, e2, e3, e4⟩ := h5 b hb hX
            refine ⟨e1, e2, e3, fun b' q1 q2 => ?_⟩
            rcases e4 b' q1 q2 with w | w
            · exact Or.inl w
            · right
              have w' : X b' = true := w
              show X2 b' = true
              rw [hX2, w']; rfl
          · rw [Bool.and_eq_true] at hX
            obtain ⟨e1, e2, e3, e4⟩ := z3 b hb hX.1 (by cases w : gone.testBit b with
              | false => rfl
              | true => rw [w] at hX; cases hX.2)
            refine ⟨e1, e2, e3, fun b' q1 q2 => ?_⟩
            cases w : gone.testBit b' with
            | true => exact Or.inl rfl
            | false => right; show X2 b' = true; rw [hX2, e4 b' q1 q2, w]; cases X b' <;> rfl
        · by_cases q : i = j
          · rw [q] at hc
            cases w : gone.testBit b with
            | true => exact Or.inl rfl
            | false => right; rw [hX2, z2 b hb hc, w]; cases X b <;> rfl
          · rcases h6 i a1 (by omega) a3 b hb hc with w | w
            · exact Or.inl w
            · right; rw [hX2, w]; rfl
      obtain ⟨s', w1, w2⟩ := ih n (j + 1) many O2 D _ s2 (by omega) (by omega) (by omega) hK2 hmn y2.2.1 y2.2.2
      exact ⟨s', w1, FM_trans FM_t (FM_trans y3 w2)⟩
    · -- a box is found
      subst rr
      have ct1 := ct_sub (p := fun i => D i || decide (i = j)) (q := D) (fun i hi => by rw [hi]; rfl) j (by rw [decide_eq_true rfl, Bool.or_true]) (fun i hne hp => by rw [decide_eq_false hne, Bool.or_false] at hp; exact hp) Dj 12 (by omega)
      rw [if_neg (by decide), w32_in (x := (many : Int) + 1) (by omega) (by omega), show (many : Int) + 1 = ((many + 1 : Nat) : Int) from by omega]
      obtain ⟨w0, w0'⟩ := z4 (fun b => X b = true) h5
      obtain ⟨D2, hD2⟩ : ∃ D2 : Nat → Bool, ∀ i, D2 i = (D i || decide (i = j)) := ⟨fun i => D i || decide (i = j), fun _ => rfl⟩
      have ct2 : ct D2 12 = ct D 12 + 1 := by rw [ct_congr (q := fun i => D i || decide (i = j)) 12 (fun i _ => hD2 i)]; exact ct1
      have hK2 : KI C first gone (j + 1) O2 D2 X := by
        refine ⟨y6, fun i hi => ?_, fun i hi => ?_, fun b e hb ho => ?_, fun b hb hX => ?_, fun i a1 a2 a3 b hb hc => ?_⟩
        · rw [z3 i hi, h2 i hi, hD2]
          by_cases q : i = j
          · rw [q, Dj, if_neg (show ¬ false = true by decide), if_pos rfl, decide_eq_true rfl]
            first | rfl | done
          · rw [if_neg q, decide_eq_false q, Bool.or_false, Nat.add_zero]
        · rw [hD2, Bool.or_eq_true] at hi
          rcases hi with hi | hi
          · have := h3 i hi; omega
          · have := of_decide_eq_true hi; omega
        · rcases z2 b hb with q | ⟨e1, e2, e3, e4, e5⟩
          · exact h4 b e hb (by rw [← q]; exact ho)
          · have : e1 = e := by omega
            rw [← this]; exact ⟨e4, e5⟩
        · obtain ⟨e1, e2, e3, e4⟩ := h5 b hb hX
          exact ⟨e1, e2, by rw [w0' b hb hX]; exact e3, e4⟩
        · rw [hD2, Bool.or_eq_false_iff] at a3
          have := of_decide_eq_false a3.2
          exact h6 i a1 (by omega) a3.1 b hb hc
      obtain ⟨s', w1, w2⟩ := ih n (j + 1) (many + 1) O2 _ X s2 (by omega) (by omega) (by omega) hK2 (by omega) y2.2.1 y2.2.2
      exact ⟨s', w1, FM_trans FM_t (FM_trans y3 w2)⟩
theorem C_most {m : Nat} (hm : 10000 ≤ m) {C : Nat → Nat} (hC : ∀ j, C j < 512) {first gone : Nat} (hf : first ≤ 12) (hg : gone < 512) {s : mS} (hs : ∀ i, i < 12 → s.1 243 i = (C i : Int)) :
    ∃ s', f_Mt_mostFrom m (first : Int) (gone : Int) s = some ((mxM C (12 - first) first gone : Int), s') ∧ FM s s' := by
  obtain ⟨s1, r1, r2, r3, r4⟩ := C_fillA_244 m (-1) 9 m 0 s (by omega) (by omega)
  have o1 : ∀ b, b < 9 → s1.1 244 b = -1 := fun b hb => by rw [r2 b, if_pos (by omega)]
  have hK : KI C first gone first (s1.1 244) (fun _ => false) (fun _ => false) := by
    refine ⟨fun b hb => Or.inl (o1 b hb), fun i hi => ?_, fun i hi => ?_, fun b e hb ho => ?_, fun b hb hX => ?_, fun i a1 a2 => by omega⟩
    · rw [if_neg (show ¬ false = true by decide)]
      unfold cn
      exact ct_zero 9 (fun b hb => decide_eq_false (by rw [o1 b hb]; omega))
    · cases hi
    · rw [o1 b hb] at ho; omega
    · cases hX
  obtain ⟨s', w1, w2⟩ := K_loop hm hC hg (12 - first) m first 0 (s1.1 244) (fun _ => false) (fun _ => false) s1 (by omega) (by omega) (Nat.le_refl _) hK (by rw [ct_zero 12 (fun _ _ => rfl)]) rfl (fun i hi => by rw [r3 243 (by decide)]; exact hs i hi)
  refine ⟨s', ?_, FM_trans ⟨fun c _ q => r3 c q, fun k _ => by rw [r3 241 (by decide)], r4⟩ w2⟩
  rw [f_Mt_mostFrom_eq, f_Ja_fill_244_eq]
  rw [show l_Ja_fill_244_L5 m m (-1) 0 9 s = l_Ja_fill_244_L5 m m (-1) ((0 : Nat) : Int) 9 s from rfl, r1, Option.bind_some]
  exact w1
