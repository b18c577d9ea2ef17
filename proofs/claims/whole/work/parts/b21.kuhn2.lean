/-! ===== layer 3: match (2): the class looks for a box ===== -/
theorem ct_up {p q : Nat → Bool} (x : Nat) (h : ∀ b, b ≠ x → q b = p b) : ∀ n, x < n → ct q n + (if p x then 1 else 0) = ct p n + (if q x then 1 else 0)
  | 0, h0 => by omega
  | n + 1, h0 => by
    rw [ct_s, ct_s]
    by_cases e : x = n
    · subst e
      rw [ct_congr x (fun i hi => h i (by omega))]; omega
    · have ih := ct_up x h n (by omega)
      rw [h n (fun z => e z.symm)]; omega
def un (T : Nat) : Nat := ct (fun b => !T.testBit b) 9
theorem un_set {T x : Nat} (hx : x < 9) (h : T.testBit x = false) : un T = un (T ||| 2 ^ x) + 1 := by
  unfold un
  have this : ct (fun b => !(T ||| 2 ^ x).testBit b) 9 + (if (!T.testBit x) = true then 1 else 0) = ct (fun b => !T.testBit b) 9 + (if (!(T ||| 2 ^ x).testBit x) = true then 1 else 0) := ct_up (p := fun b => !T.testBit b) (q := fun b => !(T ||| 2 ^ x).testBit b) x (fun b hb => by rw [testBit_set, decide_eq_false (fun z => hb z.symm), Bool.or_false]) 9 hx
  rw [if_pos (show (!T.testBit x) = true from by rw [h]; rfl), if_neg (show ¬ (!(T ||| 2 ^ x).testBit x) = true from by rw [testBit_set, h, decide_eq_true rfl]; decide)] at this
  omega
theorem un_mono {T T' : Nat} (h : ∀ b, T.testBit b = true → T'.testBit b = true) : un T' ≤ un T := by
  unfold un
  refine ct_le2 (fun i _ hp => ?_)
  cases q : T.testBit i with
  | false => rfl
  | true => rw [h i q] at hp; cases hp
/-- how many boxes one holds -/
def cn (O : Row) (j : Nat) : Nat := ct (fun b => decide (O b = (j : Int))) 9
theorem cn_up {O : Row} {x : Nat} (hx : x < 9) (v : Int) (j : Nat) : cn (up O x v) j + (if O x = (j : Int) then 1 else 0) = cn O j + (if v = (j : Int) then 1 else 0) := by
  unfold cn
  have := ct_up (p := fun b => decide (O b = (j : Int))) (q := fun b => decide (up O x v b = (j : Int))) x (fun b hb => by rw [up_ne hb]) 9 hx
  rw [up_eq] at this
  have e1 : (if (decide (O x = (j : Int))) = true then 1 else 0) = (if O x = (j : Int) then (1 : Nat) else 0) := by
    by_cases c : O x = (j : Int)
    · rw [if_pos c, if_pos (decide_eq_true c)]
    · rw [if_neg c, if_neg (by rw [decide_eq_false c]; decide)]
  have e2 : (if (decide (v = (j : Int))) = true then 1 else 0) = (if v = (j : Int) then (1 : Nat) else 0) := by
    by_cases c : v = (j : Int)
    · rw [if_pos c, if_pos (decide_eq_true c)]
    · rw [if_neg c, if_neg (by rw [decide_eq_false c]; decide)]
  rw [e1, e2] at this
  exact this
def MS (C : Nat → Nat) (T : Nat) (O : Row) (s : mS) : Prop := s.1 241 3 = (T : Int) ∧ s.1 244 = O ∧ ∀ j, j < 12 → s.1 243 j = (C j : Int)
def VO (O : Row) : Prop := ∀ b, b < 9 → O b = -1 ∨ ∃ e : Nat, e < 12 ∧ O b = (e : Int)
def FM (s s' : mS) : Prop := (∀ c, c ≠ 241 → c ≠ 244 → s'.1 c = s.1 c) ∧ (∀ k, k ≠ 3 → s'.1 241 k = s.1 241 k) ∧ s'.2 = s.2
theorem FM_refl (s : mS) : FM s s := ⟨fun _ _ _ => rfl, fun _ _ => rfl, rfl⟩
theorem FM_trans {a b c : mS} (h : FM a b) (g : FM b c) : FM a c := ⟨fun x p q => (g.1 x p q).trans (h.1 x p q), fun k p => (g.2.1 k p).trans (h.2.1 k p), g.2.2.trans h.2.2⟩
theorem FM_t {s : mS} {v : Int} : FM s (wI s 241 3 v) := ⟨fun c p _ => wI_ne p, fun k p => wI_f p, rfl⟩
theorem FM_o {s : mS} {b : Nat} {v : Int} : FM s (wI s 244 b v) := ⟨fun c _ p => wI_ne p, fun k _ => by rw [wI_ne (by decide)], rfl⟩
/-- boxes that are all owned, whose owners could have no others (but T) -/
def clo (C : Nat → Nat) (O : Row) (T : Nat) (X : Nat → Prop) : Prop := ∀ b, b < 9 → X b → ∃ e : Nat, e < 12 ∧ O b = (e : Int) ∧ ∀ b', b' < 9 → (C e).testBit b' = true → T.testBit b' = true ∨ X b'
def FR (C : Nat → Nat) (d T : Nat) (O : Row) (s : mS) (x : Option (Int × mS)) : Prop :=
  ∃ (r : Int) (s' : mS) (T' : Nat) (O' : Row), x = some (r, s') ∧ MS C T' O' s' ∧ FM s s' ∧ T' < 512 ∧ (∀ b, T.testBit b = true → T'.testBit b = true) ∧ VO O' ∧
  ((r = 0 ∧ O' = O ∧ (∀ b, b < 9 → (C d).testBit b = true → T'.testBit b = true) ∧ (∀ b, b < 9 → T'.testBit b = true → T.testBit b = false → ∃ e : Nat, e < 12 ∧ O b = (e : Int) ∧ ∀ b', b' < 9 → (C e).testBit b' = true → T'.testBit b' = true)) ∨
   (r = 1 ∧ (∀ b, b < 9 → T.testBit b = true → O' b = O b) ∧ (∀ b, b < 9 → O' b = O b ∨ ∃ e : Nat, e < 12 ∧ O' b = (e : Int) ∧ (C e).testBit b = true ∧ T.testBit b = false) ∧ (∀ j, j < 12 → cn O' j = cn O j + if j = d then 1 else 0) ∧
     (∀ X : Nat → Prop, clo C O T X → (∃ b, b < 9 ∧ (C d).testBit b = true ∧ T.testBit b = false ∧ ¬ X b) ∧ ∀ b, b < 9 → X b → O' b = O b)))
theorem wI_row {s : mS} {c k : Nat} {v : Int} {O : Row} (h : s.1 c = O) : (wI s c k v).1 c = up O k v := by
  funext j
  rw [wI_1, h]
  unfold up
  by_cases q : j = k
  · rw [if_pos ⟨rfl, q⟩, if_pos q]
  · rw [if_neg (fun z => q z.2), if_neg q]
theorem K_finds {m : Nat} (hm : 100 ≤ m) {C : Nat → Nat} (hC : ∀ j, C j < 512) : ∀ (D d a2 T : Nat) (O : Row) (s : mS), d < 12 → T < 512 → MS C T O s → VO O → un T + 1 ≤ D → a2 + un T ≤ 9 → FR C d T O s (f_Mt_finds m D (d : Int) (a2 : Int) s) := by
  intro D
  induction D with
  | zero => intro d a2 T O s h1 h2 h3 h4 h5 h6; omega
  | succ D IH =>
    intro d a2 T O s hd hT hs hO hD ha
    rw [f_Mt_finds_eq, if_neg (by omega), if_pos (by omega), if_neg (by omega)]
    -- the loop
    have loop : ∀ (e n x Tc : Nat) (sc : mS), x + e = 9 → e + 1 ≤ n → Tc < 512 → MS C Tc O sc → FM s sc → (∀ b, T.testBit b = true → Tc.testBit b = true) → (∀ b, b < x → (C d).testBit b = true → Tc.testBit b = true) → (∀ b, b < 9 → Tc.testBit b = true → T.testBit b = false → ∃ e : Nat, e < 12 ∧ O b = (e : Int) ∧ ∀ b', b' < 9 → (C e).testBit b' = true → Tc.testBit b' = true) → FR C d T O s (l_Mt_finds_L20 m D n (d : Int) (a2 : Int) (x : Int) sc) := by
      intro e
      induction e with
      | zero =>
        intro n x Tc sc hx hn hTc hsc hF hsub A1 A2
        obtain ⟨n, rfl⟩ : ∃ g, n = g + 1 := ⟨n - 1, by omega⟩
        rw [l_Mt_finds_L20_eq, if_neg (by omega)]
        exact ⟨0, sc, Tc, O, rfl, hsc, hF, hTc, hsub, hO, Or.inl ⟨rfl, rfl, fun b hb hc => A1 b (by omega) hc, A2⟩⟩
      | succ e ih =>
        intro n x Tc sc hx hn hTc hsc hF hsub A1 A2
        obtain ⟨n, rfl⟩ : ∃ g, n = g + 1 := ⟨n - 1, by omega⟩
        have hCd := hC d
        rw [l_Mt_finds_L20_eq, if_pos (by omega), inR_pos (by omega) (by omega), Int.toNat_natCast, hsc.2.2 d hd, bit_nat (by omega) (by omega), hsc.1, bit_nat (by omega) (by omega), w32_in (x := (x : Int) + 1) (by omega) (by omega), show (x : Int) + 1 = ((x + 1 : Nat) : Int) from by omega]
        by_cases cb : (C d).testBit x = true
        rotate_left
        · rw [if_neg cb, if_pos rfl]
          exact ih n (x + 1) Tc sc (by omega) (by omega) hTc hsc hF hsub (fun b hb hc => by
            by_cases q : b = x
            · rw [q] at hc; exact absurd hc cb
            · exact A1 b (by omega) hc) A2
        rw [if_pos cb, if_neg (by decide)]
        by_cases tb : Tc.testBit x = true
        · rw [if_pos tb, if_neg (by decide)]
          exact ih n (x + 1) Tc sc (by omega) (by omega) hTc hsc hF hsub (fun b hb hc => by
            by_cases q : b = x
            · rw [q]; exact tb
            · exact A1 b (by omega) hc) A2
        have tb' : Tc.testBit x = false := by cases q : Tc.testBit x with
          | false => rfl
          | true => exact absurd q tb
        have tx : T.testBit x = false := by cases q : T.testBit x with
          | false => rfl
          | true => rw [hsub x q] at tb'; cases tb'
        have p9 : 2 ^ x < 2 ^ 9 := Nat.pow_lt_pow_right (by decide) (by omega)
        have T1b : (Tc ||| 2 ^ x) < 2 ^ 9 := Nat.or_lt_two_pow (by omega) (by omega)
        rw [if_neg tb, if_pos rfl, bshl_nat (by omega), bor_nat (by omega) (by omega), inR_pos (i := (x : Int)) (by omega) (by omega), Int.toNat_natCast x]
        have uT := un_mono hsub
        have uS := un_set (T := Tc) (x := x) (by omega) tb'
        obtain ⟨T1, hT1⟩ : ∃ T1, T1 = Tc ||| 2 ^ x := ⟨_, rfl⟩
        rw [← hT1] at uS T1b ⊢
        have t1 : ∀ b, T1.testBit b = (Tc.testBit b || decide (x = b)) := fun b => by rw [hT1, testBit_set]
        have t1x : T1.testBit x = true := by rw [t1, decide_eq_true rfl, Bool.or_true]
        have t1s : ∀ b, Tc.testBit b = true → T1.testBit b = true := fun b hb => by rw [t1, hb]; rfl
        have t1n : ∀ b, b ≠ x → T1.testBit b = Tc.testBit b := fun b hb => by rw [t1, decide_eq_false (fun z => hb z.symm), Bool.or_false]
        have ms1 : MS C T1 O (wI sc 241 3 (T1 : Int)) := ⟨wI_at, by rw [wI_ne (by decide)]; exact hsc.2.1, fun j hj => by rw [wI_ne (by decide)]; exact hsc.2.2 j hj⟩
        have fm1 : FM s (wI sc 241 3 (T1 : Int)) := FM_trans hF FM_t
        rw [ms1.2.1]
        rcases hO x (by omega) with ho | ⟨eo, eo12, ho⟩
        · -- the box is no one's
          rw [if_pos ho, inR_pos (i := (x : Int)) (by omega) (by omega)]
          refine ⟨1, _, T1, up O x (d : Int), rfl, ⟨by rw [wI_ne (by decide)]; exact ms1.1, wI_row ms1.2.1, fun j hj => by rw [wI_ne (by decide)]; exact ms1.2.2 j hj⟩, FM_trans fm1 FM_o, by omega, fun b hb => t1s b (hsub b hb), fun b hb => ?_, Or.inr ⟨rfl, fun b hb hTb => ?_, fun b hb => ?_, fun j hj => ?_, fun X hX => ?_⟩⟩
          · by_cases q : b = x
            · rw [q, up_eq]; exact Or.inr ⟨d, hd, rfl⟩
            · rw [up_ne q]; exact hO b hb
          · rw [up_ne (fun q => by rw [q, tx] at hTb; cases hTb)]
          · by_cases q : b = x
            · right; rw [q, up_eq]; exact ⟨d, hd, rfl, cb, tx⟩
            · left; rw [up_ne q]
          · have := cn_up (O := O) (x := x) (by omega) (d : Int) j
            rw [if_neg (show ¬ O x = (j : Int) by omega)] at this
            by_cases q : j = d
            · rw [if_pos (show (d : Int) = (j : Int) by omega)] at this; rw [if_pos q]; omega
            · rw [if_neg (show ¬ (d : Int) = (j : Int) by omega)] at this; rw [if_neg q]; omega
          · have nx : ¬ X x := fun q => by
              obtain ⟨z, z1, z2, _⟩ := hX x (by omega) q
              omega
            exact ⟨⟨x, by omega, cb, tx, nx⟩, fun b hb hb2 => by rw [up_ne (fun q => by rw [q] at hb2; exact nx hb2)]⟩
        · -- its owner looks for another
          rw [if_neg (show ¬ O x = -1 by omega), inR_pos (i := (x : Int)) (by omega) (by omega), ho, w32_in (by omega) (by omega), show (a2 : Int) + 1 = ((a2 + 1 : Nat) : Int) from by omega]
          obtain ⟨r, s2, T2, O2, y1, y2, y3, y4, y5, y6, y7⟩ := IH eo (a2 + 1) T1 O (wI sc 241 3 (T1 : Int)) eo12 (by omega) ms1 hO (by omega) (by omega)
          rw [y1, Option.bind_some]
          dsimp only
          rcases y7 with ⟨rr, z1, z2, z3⟩ | ⟨rr, z1, z2, z3, z4⟩
          · -- in vain
            subst rr
            subst z1
            rw [if_pos rfl]
            refine ih n (x + 1) T2 s2 (by omega) (by omega) y4 y2 (FM_trans fm1 y3) (fun b hb => y5 b (t1s b (hsub b hb))) (fun b hb hc => ?_) (fun b hb hb2 hb3 => ?_)
            · by_cases q : b = x
              · rw [q]; exact y5 x t1x
              · exact y5 b (t1s b (A1 b (by omega) hc))
            · by_cases q : T1.testBit b = true
              · by_cases q2 : b = x
                · rw [q2]; exact ⟨eo, eo12, ho, z2⟩
                · rw [t1n b q2] at q
                  obtain ⟨e1, e2, e3, e4⟩ := A2 b hb q hb3
                  exact ⟨e1, e2, e3, fun b' h1 h2 => y5 b' (t1s b' (e4 b' h1 h2))⟩
              · exact z3 b hb hb2 (by cases w : T1.testBit b with
                  | false => rfl
                  | true => exact absurd w q)
          · -- it found one
            subst rr
            rw [if_neg (by decide), inR_pos (i := (x : Int)) (by omega) (by omega)]
            have o2x : O2 x = (eo : Int) := by rw [z1 x (by omega) t1x, ho]
            refine ⟨1, _, T2, up O2 x (d : Int), rfl, ⟨by rw [wI_ne (by decide)]; exact y2.1, wI_row y2.2.1, fun j hj => by rw [wI_ne (by decide)]; exact y2.2.2 j hj⟩, FM_trans fm1 (FM_trans y3 FM_o), y4, fun b hb => y5 b (t1s b (hsub b hb)), fun b hb => ?_, Or.inr ⟨rfl, fun b hb hTb => ?_, fun b hb => ?_, fun j hj => ?_, fun X hX => ?_⟩⟩
            · by_cases q : b = x
              · rw [q, up_eq]; exact Or.inr ⟨d, hd, rfl⟩
              · rw [up_ne q]; exact y6 b hb
            · rw [up_ne (fun q => by rw [q, tx] at hTb; cases hTb)]
              exact z1 b hb (t1s b (hsub b hTb))
            · by_cases q : b = x
              · right; rw [q, up_eq]; exact ⟨d, hd, rfl, cb, tx⟩
              · rw [up_ne q]
                rcases z2 b hb with w | ⟨e1, e2, e3, e4, e5⟩
                · exact Or.inl w
                · right
                  refine ⟨e1, e2, e3, e4, ?_⟩
                  cases w : T.testBit b with
                  | false => rfl
                  | true => rw [t1s b (hsub b w)] at e5; cases e5
            · have c1 := cn_up (O := O2) (x := x) (by omega) (d : Int) j
              have c2 := z3 j hj
              rw [o2x] at c1
              by_cases q1 : j = eo
              · rw [if_pos (show (eo : Int) = (j : Int) by omega)] at c1
                rw [if_pos q1] at c2
                by_cases q : j = d
                · rw [if_pos (show (d : Int) = (j : Int) by omega)] at c1; rw [if_pos q]; omega
                · rw [if_neg (show ¬ (d : Int) = (j : Int) by omega)] at c1; rw [if_neg q]; omega
              · rw [if_neg (show ¬ (eo : Int) = (j : Int) by omega)] at c1
                rw [if_neg q1] at c2
                by_cases q : j = d
                · rw [if_pos (show (d : Int) = (j : Int) by omega)] at c1; rw [if_pos q]; omega
                · rw [if_neg (show ¬ (d : Int) = (j : Int) by omega)] at c1; rw [if_neg q]; omega
            · have hX1 : clo C O T1 X := fun b hb hb2 => by
                obtain ⟨e1, e2, e3, e4⟩ := hX b hb hb2
                refine ⟨e1, e2, e3, fun b' h1 h2 => ?_⟩
                rcases e4 b' h1 h2 with w | w
                · exact Or.inl (t1s b' (hsub b' w))
                · exact Or.inr w
              obtain ⟨⟨b', g1, g2, g3, g4⟩, g5⟩ := z4 X hX1
              have nx : ¬ X x := fun q => by
                obtain ⟨e1, e2, e3, e4⟩ := hX x (by omega) q
                have ee : e1 = eo := by omega
                rw [ee] at e4
                rcases e4 b' g1 g2 with w | w
                · rw [t1s b' (hsub b' w)] at g3; cases g3
                · exact g4 w
              exact ⟨⟨x, by omega, cb, tx, nx⟩, fun b hb hb2 => by rw [up_ne (fun q => by rw [q] at hb2; exact nx hb2)]; exact g5 b hb hb2⟩
    exact loop 9 m 0 T s (by omega) (by omega) hT hs (FM_refl s) (fun _ h => h) (fun b hb => by omega) (fun b _ h1 h2 => by rw [h1] at h2; cases h2)
