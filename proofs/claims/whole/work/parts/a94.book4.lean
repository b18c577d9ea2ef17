/-! ===== layer 3: book ===== -/
theorem bind2 (X : Option (Int × mS)) (Y K : mS → Option (Int × mS)) : (X.bind fun p0 => (if p0.1 = 0 then (some (0, p0.2)) else ((Y p0.2).bind fun p1 => (if p1.1 = 0 then (some (0, p1.2)) else K p1.2)))) = ((X.bind fun p0 => (if p0.1 = 0 then some ((0 : Int), p0.2) else ((Y p0.2).bind fun p1 => (if p1.1 = 0 then some ((0 : Int), p1.2) else some ((1 : Int), p1.2))))).bind fun q => (if q.1 = 0 then some (0, q.2) else K q.2)) := by
  cases X with
  | none => rfl
  | some p =>
    obtain ⟨r, s⟩ := p
    rw [Option.bind_some, Option.bind_some]
    dsimp only
    by_cases c : r = 0
    · rw [if_pos c, if_pos c]; rfl
    · rw [if_neg c, if_neg c]
      cases Y s with
      | none => rfl
      | some q =>
        obtain ⟨r2, s2⟩ := q
        rw [Option.bind_some, Option.bind_some]
        dsimp only
        by_cases c2 : r2 = 0
        · rw [if_pos c2, if_pos c2]; rfl
        · rw [if_neg c2, if_neg c2]; rfl
theorem B_loop {m : Nat} (hm : 10000 ≤ m) (lv : Int) : ∀ (d nc nr n : Nat) (a : Int) (s u : mS), TokG a s u → BR n s u → n ≤ 40 → s.1 1 8 + 1 ≤ a + d → d + 1 ≤ nc → d + 1 ≤ nr →
    (∃ (n' : Nat) (s' u' : mS) (nr' : Nat), l_Bk_readFrom_L7 m nc (n : Int) s = some (0, s') ∧ l_R_book_L30 m nr lv u = ((f_R_save_249_256 m 0 u').bind fun p0 => (l_R_book_L78 m nr' lv 0 0 p0.2)) ∧ nr ≤ nr' + d + 1 ∧ n' ≤ 40 ∧ BR n' s' u' ∧ s'.1 1 6 = 0 ∧ u'.1 249 10 = 0 ∧ KC s s' ∧ KR u u') ∨
    (∃ s' u', l_Bk_readFrom_L7 m nc (n : Int) s = some (0, s') ∧ l_R_book_L30 m nr lv u = some (-2 - s'.1 1 7, u') ∧ Flt s' u' ∧ KC s s' ∧ KR u u') := by
  intro d
  induction d with
  | zero =>
    intro nc nr n a s u g h hn hd hnc hnr
    have := g.2.2.1
    omega
  | succ d ih =>
    intro nc nr n a s u g h hn hd hnc hnr
    obtain ⟨nc, rfl⟩ : ∃ n, nc = n + 1 := ⟨nc - 1, by omega⟩
    obtain ⟨nr, rfl⟩ : ∃ n, nr = n + 1 := ⟨nr - 1, by omega⟩
    have kk : u.1 249 7 = 0 ↔ s.1 1 2 = 0 := by
      rcases g.1.2.1 with q | q | ⟨q1, _, q3⟩ | q | q
      · omega
      · omega
      · rw [q1, q3]; split <;> omega
      · omega
      · omega
    rw [l_Bk_readFrom_L7_eq, l_R_book_L30_eq, if_pos (show (n : Int) < 940 from by omega)]
    by_cases ce : s.1 1 2 = 0
    · left
      rw [if_pos ce, if_pos (kk.mpr ce)]
      exact ⟨n, s, u, nr, rfl, rfl, by omega, hn, h, g.2.2.2.2.1, g.2.2.2.2.2, KC_refl s, KR_refl u⟩
    · obtain ⟨r, s1, u1, r1, r2, r3, r4, r5⟩ := B_line hm hn g h
      have hb : _ = (FB m s).bind fun q => (if q.1 = 0 then some (0, q.2) else l_Bk_readFrom_L7 m nc (w32 ((n : Int) + 1)) (wI q.2 237 0 (w32 ((q.2.1 237 0) + 1)))) := bind2 (f_Bk_readLine m s) (fun t => f_Tp_takeSign m 59 t) (fun t => l_Bk_readFrom_L7 m nc (w32 ((n : Int) + 1)) (wI t 237 0 (w32 ((t.1 237 0) + 1))))
      rw [if_neg ce, if_neg (fun q => ce (kk.mp q)), hb, r1, Option.bind_some, r2, Option.bind_some]
      clear hb
      dsimp only
      rcases r5 with ⟨rr, g1, f1⟩ | ⟨rr, fl⟩
      · subst rr
        obtain ⟨⟨f1, n40⟩, f2⟩ := f1
        rw [if_neg (show ¬ (1 : Int) = 0 by decide), if_neg (show ¬ (1 : Int) = 0 by decide), f1.2.1, f1.2.2.1, w32_in (by omega) (by omega), show (n : Int) + 1 = ((n + 1 : Nat) : Int) from by omega]
        have e8 : (wI s1 237 0 ((n + 1 : Nat) : Int)).1 1 8 = s.1 1 8 := by
          rw [wI_ne (by decide), g1.1.1.1, r4.2.2 3 (by omega), ← g.1.1.1]
        have g2 : TokG (a + 1) (wI s1 237 0 ((n + 1 : Nat) : Int)) (wI u1 249 39 ((n + 1 : Nat) : Int)) := TokG_cg g1 (wI_ne (by decide)) (wI_ne (by decide)) rfl (fun k hk => wI_f (by omega)) (wI_ne (by decide)) rfl
        have h2 : BR (n + 1) (wI s1 237 0 ((n + 1 : Nat) : Int)) (wI u1 249 39 ((n + 1 : Nat) : Int)) := by
          refine ⟨RV_cg f1.1 (wI_ne (by decide)) (fun _ _ _ => rfl) (wI_ne (by decide)) rfl, wI_at, wI_at, fun k hk => ?_⟩
          have q : LN s1 u1 k := by
            by_cases q : k = n
            · rw [q]; exact f2
            · exact f1.2.2.2 k (by omega)
          exact LN_cg q (by rw [wI_ne (by decide)]) (by rw [wI_ne (by decide)]) (by rw [wI_ne (by decide)]) (by rw [wI_ne (by decide)]) (by rw [wI_ne (by decide)]) (by rw [wI_ne (by decide)]) (wI_ne (by decide))
        have k1 : KC s (wI s1 237 0 ((n + 1 : Nat) : Int)) := KC_trans r3 (KC_w (by omega) (by omega))
        have k2 : KR u (wI u1 249 39 ((n + 1 : Nat) : Int)) := KR_trans r4 (KR_f (by omega))
        rcases ih nc nr (n + 1) (a + 1) _ _ g2 h2 (by omega) (by rw [e8]; omega) (by omega) (by omega) with ⟨n', s3, u3, nr', z1, z2, z3, z4, z5, z6, z7, z8, z9⟩ | ⟨s3, u3, z1, z2, z3, z4, z5⟩
        · left
          exact ⟨n', s3, u3, nr', z1, z2, by omega, z4, z5, z6, z7, KC_trans k1 z8, KR_trans k2 z9⟩
        · right
          exact ⟨s3, u3, z1, z2, z3, KC_trans k1 z4, KR_trans k2 z5⟩
      · right
        subst rr
        have f7 := fl.2.2
        rw [if_pos rfl, if_pos rfl, ← f7.1, w32_in (by omega) (by omega)]
        exact ⟨s1, u1, rfl, rfl, fl, r3, r4⟩
theorem B_read {m : Nat} (hm : 10000 ≤ m) (lv : Int) {s u : mS} (h : PT s u) (hv : RV s u) :
    (∃ (n' : Nat) (s' u' : mS) (nr' : Nat), ((f_Tp_open m 400 s).bind fun p0 => f_Bk_readFrom m p0.2) = some (0, s') ∧ ((f_R_begin m 400 u).bind fun p1 => (l_R_book_L30 m m lv (wI p1.2 249 39 0))) = ((f_R_save_249_256 m 0 u').bind fun p0 => (l_R_book_L78 m nr' lv 0 0 p0.2)) ∧ 1000 ≤ nr' ∧ n' ≤ 40 ∧ BR n' s' u' ∧ s'.1 1 6 = 0 ∧ u'.1 249 10 = 0 ∧ KO s s' ∧ KP u u') ∨
    (∃ s' u', ((f_Tp_open m 400 s).bind fun p0 => f_Bk_readFrom m p0.2) = some (0, s') ∧ ((f_R_begin m 400 u).bind fun p1 => (l_R_book_L30 m m lv (wI p1.2 249 39 0))) = some (-2 - s'.1 1 7, u') ∧ Flt s' u' ∧ KO s s' ∧ KP u u') := by
  obtain ⟨s1, u1, r1, r2, r3, r4, r5, r6, r7, r8, r9, r10⟩ := T_open hm h (L := 400) (by decide) (by decide)
  have g : TokG 0 (wI s1 237 0 ((0 : Nat) : Int)) (wI u1 249 39 ((0 : Nat) : Int)) := TokG_cg r3 (wI_ne (by decide)) (wI_ne (by decide)) rfl (fun k hk => wI_f (by omega)) (wI_ne (by decide)) rfl
  have hb : BR 0 (wI s1 237 0 ((0 : Nat) : Int)) (wI u1 249 39 ((0 : Nat) : Int)) := by
    refine ⟨RV_cg hv ?_ (fun c x y => ?_) ?_ ?_, wI_at, wI_at, fun k hk => by omega⟩
    · rw [wI_ne (by decide), r8 4 (by decide)]
    · rw [wI_2, r9 c (by omega)]
    · rw [wI_ne (by decide), r6 251 (by decide)]
    · rw [wI_2, r7 257 (by decide)]
  have e8 := g.1.1.2.2.1
  have e8' := g.1.1.2.1
  have ko : KO s (wI s1 237 0 ((0 : Nat) : Int)) := KO_tr r4 (KC_w (by omega) (by omega))
  have kp : KP u (wI u1 249 39 ((0 : Nat) : Int)) := KP_tr r5 (KR_f (by omega))
  have hC : ((f_Tp_open m 400 s).bind fun p0 => f_Bk_readFrom m p0.2) = l_Bk_readFrom_L7 m m ((0 : Nat) : Int) (wI s1 237 0 ((0 : Nat) : Int)) := by
    rw [r1, Option.bind_some, f_Bk_readFrom_eq]; rfl
  have hR : ((f_R_begin m 400 u).bind fun p1 => (l_R_book_L30 m m lv (wI p1.2 249 39 0))) = l_R_book_L30 m m lv (wI u1 249 39 ((0 : Nat) : Int)) := by
    rw [r2, Option.bind_some]; rfl
  rw [hC, hR]
  rcases B_loop hm lv ((wI s1 237 0 ((0 : Nat) : Int)).1 1 8 + 1).toNat m m 0 0 _ _ g hb (by omega) (by omega) (by omega) (by omega) with ⟨n', s', u', nr, z1, z2, z3, z4, z5, z6, z7, z8, z9⟩ | ⟨s', u', z1, z2, z3, z4, z5⟩
  · left
    exact ⟨n', s', u', nr, z1, z2, by omega, z4, z5, z6, z7, KO_tr ko z8, KP_tr kp z9⟩
  · right
    exact ⟨s', u', z1, z2, z3, KO_tr ko z4, KP_tr kp z5⟩
