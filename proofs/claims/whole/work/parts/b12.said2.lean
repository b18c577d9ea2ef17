/-! ===== layer 3: said (2): the class; put together ===== -/
theorem C_compares (m : Nat) {s : mS} {S V : Row} (h32 : s.1 32 = S) (h33 : s.1 33 = V) {k : Nat} (hk : k < 40) (v : Int) : f_Sn_compares m v (k : Int) s = some (if (if S k = 60 then decide (v < V k) else if S k = 61 then decide (v = V k) else decide (V k < v)) = true then 1 else 0, s) := by
  rw [f_Sn_compares_eq, inR_pos (by omega) (by omega), inR_pos (by omega) (by omega), inR_pos (by omega) (by omega), inR_pos (by omega) (by omega), inR_pos (by omega) (by omega), Int.toNat_natCast, h32, h33]
  by_cases c : S k = 60
  · rw [if_pos c, if_pos c]
    by_cases d : v < V k
    · rw [if_pos d, if_pos (decide_eq_true d)]
    · rw [if_neg d, if_neg (by rw [decide_eq_false d]; decide)]
  · rw [if_neg c, if_neg c]
    by_cases c1 : S k = 61
    · rw [if_pos c1, if_pos c1]
      by_cases d : v = V k
      · rw [if_pos d, if_pos (decide_eq_true d)]
      · rw [if_neg d, if_neg (by rw [decide_eq_false d]; decide)]
    · rw [if_neg c1, if_neg c1]
      by_cases d : V k < v
      · rw [if_pos d, if_pos (decide_eq_true d)]
      · rw [if_neg d, if_neg (by rw [decide_eq_false d]; decide)]
theorem b01 {s : mS} (b : Bool) {F : Option (Int × mS)} (h : F = some (if b = true then 1 else 0, s)) : (F.bind fun p0 => (if p0.1 = 0 ∨ p0.1 = 1 then some (p0.1, p0.2) else none)) = some (if b = true then 1 else 0, s) := by
  rw [h, Option.bind_some]; cases b <;> rfl
theorem C_isSo {m : Nat} {s : mS} {A P S V : Row} (hs : SR s 17 A) (hr : VR s 4 A) (hW : WF A) (h31 : s.1 31 = P) (h32 : s.1 32 = S) (h33 : s.1 33 = V) {st : Nat → Nat} {k : Nat} (hk : k < 40) (pn : PN P S V A st k) (h3 : 3 ≤ P k) {d : Nat} (hd : (d : Int) < A 2) : f_Sn_isSo m (k : Int) (d : Int) s = some (if lfv A (P k) (S k) (V k) d = true then 1 else 0, s) := by
  have W2 := WFv_dead hW.1
  have W0 := WFv_boxes hW.1
  have cmp := fun v => C_compares m h32 h33 hk v
  rw [f_Sn_isSo_eq, inR_pos (i := (k : Int)) (by omega) (by omega), Int.toNat_natCast k, h31]
  unfold PN at pn
  rcases pn with ⟨a, _⟩ | ⟨a, _⟩ | ⟨a, b, c, e, f1⟩ | ⟨a, b, c, e, f1, f2⟩ | ⟨a, b, c, e, f1, f2⟩ | ⟨a, b, c, e, f1, f2, f3, f4, f5⟩
  · omega
  · rcases a with a | a <;> omega
  · rw [if_pos a, inR_pos (by omega) (by omega), inR_pos (by omega) (by omega), Int.toNat_natCast, SR17_how hs hd, h33]
    unfold lfv
    rw [if_pos a]
    by_cases c : A (164 + d) = V k
    · rw [if_pos c, if_pos (decide_eq_true c)]
    · rw [if_neg c, if_neg (by rw [decide_eq_false c]; decide)]
  · rw [if_neg (show ¬ P k = 3 by omega), if_pos a, inR_pos (by omega) (by omega), inR_pos (by omega) (by omega), Int.toNat_natCast, SR17_inb hs hd, h33]
    unfold lfv
    rw [if_neg (show ¬ P k = 3 by omega), if_pos a]
    by_cases c : A (176 + d) = V k
    · rw [if_pos c, if_pos (decide_eq_true c)]
    · rw [if_neg c, if_neg (by rw [decide_eq_false c]; decide)]
  · have wk := hW.1.2.2.2.2.2.2.2.2.1 d hd
    obtain ⟨x, hx⟩ : ∃ x : Nat, A (53 + d) = (x : Int) := ⟨(A (53 + d)).toNat, by omega⟩
    obtain ⟨v, hv'⟩ : ∃ v : Nat, V k = (v : Int) := ⟨(V k).toNat, by omega⟩
    rw [if_neg (show ¬ P k = 3 by omega), if_neg (show ¬ P k = 4 by omega), if_pos a, inR_pos (by omega) (by omega), h33, hv']
    unfold lfv
    rw [if_neg (show ¬ P k = 3 by omega), if_neg (show ¬ P k = 4 by omega), if_pos a, hx, Int.toNat_natCast, Int.toNat_natCast]
    refine b01 _ ?_
    rw [f_Vs_areKin_4_eq, if_neg (by omega), inR_pos (by omega) (by omega), Int.toNat_natCast, VR4_kin hr hd, hx, bit_nat (by omega) (by omega)]
    cases x.testBit v <;> rfl
  · unfold lfv vcmp
    rw [if_neg (show ¬ P k = 3 by omega), if_neg (show ¬ P k = 4 by omega), if_neg (show ¬ P k = 5 by omega), if_neg (show ¬ P k = 3 by omega), if_neg (show ¬ P k = 4 by omega), if_neg (show ¬ P k = 5 by omega)]
    have vv : P k = 6 ∨ P k = 7 ∨ P k = 8 ∨ P k = 9 := by omega
    rcases vv with v | v | v | v
    · rw [if_pos v, inR_pos (by omega) (by omega), Int.toNat_natCast, VR4_dlong hr hd, if_pos v]
      exact b01 _ (cmp _)
    · rw [if_neg (show ¬ P k = 6 by omega), if_pos v, inR_pos (by omega) (by omega), Int.toNat_natCast, SR17_wait hs hd, if_neg (show ¬ P k = 6 by omega), if_pos v]
      exact b01 _ (cmp _)
    · rw [if_neg (show ¬ P k = 6 by omega), if_neg (show ¬ P k = 7 by omega), if_pos v, inR_pos (by omega) (by omega), Int.toNat_natCast, SR17_lain hs hd, if_neg (show ¬ P k = 6 by omega), if_neg (show ¬ P k = 7 by omega), if_pos v]
      exact b01 _ (cmp _)
    · rw [if_neg (show ¬ P k = 6 by omega), if_neg (show ¬ P k = 7 by omega), if_neg (show ¬ P k = 8 by omega), if_neg (show ¬ P k = 6 by omega), if_neg (show ¬ P k = 7 by omega), if_neg (show ¬ P k = 8 by omega)]
      exact b01 _ (cmp _)
theorem C_thoseL {m : Nat} {s : mS} {A : Row} (hr : VR s 4 A) (hn : A 2 ≤ 12) {k : Nat} (f : Nat → Bool) (hf : ∀ d : Nat, (d : Int) < A 2 → f_Sn_isSo m (k : Int) (d : Int) s = some (if f d = true then 1 else 0, s)) : ∀ (e n j : Nat), (j : Int) + e = A 2 → e + 1 ≤ n → l_Sn_thoseBy_L6 m n (k : Int) ((mk f j : Nat) : Int) (j : Int) s = some (((mk f (j + e) : Nat) : Int), s)
  | 0, n, j, hj, hen => by
    obtain ⟨n, rfl⟩ : ∃ g, n = g + 1 := ⟨n - 1, by omega⟩
    rw [l_Sn_thoseBy_L6_eq, VR4_dead hr, if_neg (by omega), Nat.add_zero]
  | e + 1, n, j, hj, hen => by
    obtain ⟨n, rfl⟩ : ∃ g, n = g + 1 := ⟨n - 1, by omega⟩
    rw [l_Sn_thoseBy_L6_eq, VR4_dead hr, if_pos (by omega), hf j (by omega), Option.bind_some]
    dsimp only
    rw [w32_in (x := (j : Int) + 1) (by omega) (by omega), show (j : Int) + 1 = ((j + 1 : Nat) : Int) from by omega, show j + (e + 1) = j + 1 + e from by omega]
    by_cases b : f j = true
    · rw [if_pos b, if_neg (by decide), mk_step (by omega) b]
      exact C_thoseL hr hn f hf e n (j + 1) (by omega) (by omega)
    · rw [if_neg b, if_pos rfl, mk_skip (by cases hq : f j; rfl; exact absurd hq b)]
      exact C_thoseL hr hn f hf e n (j + 1) (by omega) (by omega)
/-- what lies on the class's heap of sets: the pieces of the first k parts, one on the other -/
def Stk (σ : Nat → Int) (st : Nat → Nat) (M : Nat → Int) : Nat → Nat → Prop
  | 0, k => k = 0
  | x + 1, k => 1 ≤ k ∧ σ x = M (k - 1) ∧ Stk σ st M x (st (k - 1))
theorem Stk_cg {σ σ' : Nat → Int} {st : Nat → Nat} {M : Nat → Int} : ∀ (x k : Nat), Stk σ st M x k → (∀ j, j < x → σ' j = σ j) → Stk σ' st M x k
  | 0, k, h, _ => h
  | x + 1, k, h, e => ⟨h.1, by rw [e x (by omega)]; exact h.2.1, Stk_cg x _ h.2.2 (fun j hj => e j (by omega))⟩
theorem st_le {P S V A : Row} {st : Nat → Nat} : ∀ (n i : Nat), i < n → (∀ j, j ≤ i → PN P S V A st j) → st i ≤ i
  | 0, i, hn, _ => by omega
  | n + 1, i, hn, h => by
    have pn := h i (by omega)
    unfold PN at pn
    rcases pn with ⟨_, _, b, _, e⟩ | ⟨_, b, c, d, _, _, e⟩ | ⟨_, _, _, _, e⟩ | ⟨_, _, _, _, _, e⟩ | ⟨_, _, _, _, _, e⟩ | ⟨_, _, _, _, _, _, _, _, e⟩
    · have := st_le n (i - 1) (by omega) (fun j hj => h j (by omega)); omega
    · have := st_le n (st (i - 1) - 1) (by omega) (fun j hj => h j (by omega)); omega
    · omega
    · omega
    · omega
    · omega
theorem Stk_le {P S V A : Row} {st : Nat → Nat} {σ M : Nat → Int} {N : Nat} (h : ∀ j, j < N → PN P S V A st j) : ∀ (x k : Nat), k ≤ N → Stk σ st M x k → x ≤ k
  | 0, k, _, _ => by omega
  | x + 1, k, hk, hs => by
    have l := st_le k (k - 1) (by have := hs.1; omega) (fun j hj => h j (by have := hs.1; omega))
    have := Stk_le h x (st (k - 1)) (by have := hs.1; omega) hs.2.2
    have := hs.1
    omega
theorem mk_or (p q : Nat → Bool) (n : Nat) : mk p n ||| mk q n = mk (fun i => p i || q i) n := by
  apply Nat.eq_of_testBit_eq
  intro i
  rw [Nat.testBit_or, mk_bit, mk_bit, mk_bit]
  cases decide (i < n) <;> simp
theorem mk_not (p : Nat → Bool) (n : Nat) : mk p n ^^^ (2 ^ n - 1) = mk (fun i => !p i) n := by
  apply Nat.eq_of_testBit_eq
  intro i
  rw [Nat.testBit_xor, mk_bit, mk_bit, Nat.testBit_two_pow_sub_one]
  cases decide (i < n) <;> cases p i <;> rfl
theorem C_saidL {m : Nat} (hm : 10000 ≤ m) {A P S V : Row} {st : Nat → Nat} {N : Nat} (hW : WF A) (n40 : N ≤ 40) (n1 : 1 ≤ N) (hpn : ∀ j, j < N → PN P S V A st j) (hst : st (N - 1) = 0) (M : Nat → Int) (hM : ∀ i, i < N → M i = ((mk (fun d => hv P S V A st d (i + 1) i) (A 2).toNat : Nat) : Int)) :
    ∀ (e n x k : Nat) (s : mS), k + e = N → 3 * e + 1 ≤ n → SR s 17 A → VR s 4 A → s.1 30 1 = (N : Int) → s.1 31 = P → s.1 32 = S → s.1 33 = V → Stk (s.1 34) st M x k → ∃ s', l_Sn_saidOf_L5 m n (x : Int) (k : Int) s = some (M (N - 1), s') ∧ (∀ c, c ≠ 34 → s'.1 c = s.1 c) ∧ s'.2 = s.2 := by
  have W2 := WFv_dead hW.1
  intro e
  induction e with
  | zero =>
    intro n x k s hk hn hs hr h30 h31 h32 h33 hS
    obtain ⟨n, rfl⟩ : ∃ g, n = g + 1 := ⟨n - 1, by omega⟩
    have hx : x = 1 := by
      cases x with
      | zero => have : k = 0 := hS; omega
      | succ y =>
        have h2 := hS.2.2
        rw [show k - 1 = N - 1 from by omega, hst] at h2
        cases y with
        | zero => rfl
        | succ z => have := h2.1; omega
    subst hx
    refine ⟨s, ?_, fun _ _ => rfl, rfl⟩
    rw [l_Sn_saidOf_L5_eq, h30, if_neg (by omega), if_pos (by decide), hS.2.1, show k - 1 = N - 1 from by omega]
  | succ e ih =>
    intro n x k s hk hn hs hr h30 h31 h32 h33 hS
    obtain ⟨n, rfl⟩ : ∃ g, n = g + 1 + 1 + 1 := ⟨n - 3, by omega⟩
    have xk := Stk_le hpn x k (by omega) hS
    have pn := hpn k (by omega)
    have kk : w32 ((k : Int) + 1) = ((k + 1 : Nat) : Int) := by rw [w32_in (by omega) (by omega)]; rfl
    have fuel : ∀ i j : Nat, i < j → j ≤ k → ∀ d, hv P S V A st d j i = hv P S V A st d (i + 1) i := fun i j h1 h2 d => hv_fuel d (i + 1) i j (i + 1) (by omega) h1 (by omega) (fun l hl => hpn l (by omega))
    have mb : ∀ (p : Nat → Bool), mk p (A 2).toNat < 4096 := fun p => by
      have l := mk_lt p (A 2).toNat
      have l2 : 2 ^ (A 2).toNat ≤ 2 ^ 12 := Nat.pow_le_pow_right (by omega) (by omega)
      omega
    -- the new set at a place, and on
    have go : ∀ (n' x' q : Nat) (v : Int), n ≤ n' → v = M k → Stk (fun j => if j = q then v else s.1 34 j) st M x' (k + 1) → ∃ s', l_Sn_saidOf_L5 m n' (x' : Int) ((k + 1 : Nat) : Int) (wI s 34 q v) = some (M (N - 1), s') ∧ (∀ c, c ≠ 34 → s'.1 c = s.1 c) ∧ s'.2 = s.2 := by
      intro n' x' q v hnn hv' hS'
      have e34 : (wI s 34 q v).1 34 = fun j => if j = q then v else s.1 34 j := by
        funext j
        rw [wI_1]
        by_cases c : j = q
        · rw [if_pos ⟨rfl, c⟩, if_pos c]
        · rw [if_neg (fun z => c z.2), if_neg c]
      obtain ⟨s', r1, r2, r3⟩ := ih n' x' (k + 1) (wI s 34 q v) (by omega) (by omega) (SR_keep hs (fun c _ _ => wI_ne (by omega))) (VR_keep hr (fun c _ _ => wI_ne (by omega))) (by rw [wI_ne (by decide)]; exact h30) (by rw [wI_ne (by decide)]; exact h31) (by rw [wI_ne (by decide)]; exact h32) (by rw [wI_ne (by decide)]; exact h33) (by rw [e34]; exact hS')
      exact ⟨s', r1, fun c hc => by rw [r2 c hc, wI_ne hc], r3⟩
    rw [l_Sn_saidOf_L5_eq, h30, if_pos (by omega), inR_pos (i := (k : Int)) (by omega) (by omega), Int.toNat_natCast k, h31, kk]
    rcases PN_cases pn with ⟨a, b⟩ | ⟨a, b, c, d⟩ | ⟨a, b, c⟩
    · -- not
      clear kk
      cases x with
      | zero => have : k = 0 := hS; omega
      | succ y =>
        have ey : w32 (((y + 1 : Nat) : Int) - 1) = ((y : Nat) : Int) := by rw [w32_in (by omega) (by omega)]; omega
        rw [if_pos a, if_pos (by omega), ey]
        clear ey
        have pl : 2 ^ (A 2).toNat < 2147483648 := pow31 (by omega)
        have pp : 0 < 2 ^ (A 2).toNat := Nat.pow_pos (by omega)
        have all : f_Vs_allDead m s = some (((2 ^ (A 2).toNat - 1 : Nat) : Int), s) := by
          rw [f_Vs_allDead_eq, VR4_dead hr, show A 2 = (((A 2).toNat : Nat) : Int) from by omega, bshl_nat (by omega), Int.toNat_natCast, w32_in (by omega) (by omega)]
          refine congrArg (fun z => some (z, s)) ?_
          omega
        rw [inR_pos (by omega) (by omega), all, Option.bind_some]
        dsimp only
        rw [inR_pos (by omega) (by omega), Int.toNat_natCast, hS.2.1, hM (k - 1) (by omega), bxor_nat (by have := mb (fun d => hv P S V A st d (k - 1 + 1) (k - 1)); omega) (by omega), mk_not]
        have em : ((mk (fun i => !hv P S V A st i (k - 1 + 1) (k - 1)) (A 2).toNat : Nat) : Int) = M k := by
          rw [hM k (by omega)]
          refine congrArg (fun z : Nat => (z : Int)) (mk_congr (fun d _ => ?_))
          rw [show k - 1 + 1 = k from by omega, hv, if_pos a]
        refine go (n + 1 + 1) (y + 1) y _ (by omega) em ?_
        · refine ⟨by omega, (if_pos rfl).trans (by rw [Nat.add_sub_cancel]; exact em), ?_⟩
          · have e2 : st k = st (k - 1) := by
              unfold PN at pn
              rcases pn with ⟨_, _, _, _, z⟩ | ⟨z, _⟩ | ⟨z, _⟩ | ⟨z, _⟩ | ⟨z, _⟩ | ⟨z, _⟩
              · exact z
              · rcases z with z | z <;> omega
              · omega
              · omega
              · omega
              · omega
            rw [Nat.add_sub_cancel, e2]
            exact Stk_cg _ _ hS.2.2 (fun j hj => if_neg (by omega))
    · -- and, or
      have PNst : st k = st (st (k - 1) - 1) := by
        unfold PN at pn
        rcases pn with ⟨z, _⟩ | ⟨_, _, _, _, _, _, z⟩ | ⟨z, _⟩ | ⟨z, _⟩ | ⟨z, _⟩ | ⟨z, _⟩
        · omega
        · exact z
        · omega
        · omega
        · omega
        · omega
      cases x with
      | zero => have : k = 0 := hS; omega
      | succ y =>
        cases y with
        | zero => have : st (k - 1) = 0 := hS.2.2; omega
        | succ z =>
          have top : s.1 34 (z + 1) = M (k - 1) := hS.2.1
          have nxt : s.1 34 z = M (st (k - 1) - 1) := hS.2.2.2.1
          have low := hS.2.2.2.2
          have e1 : w32 (((z + 1 + 1 : Nat) : Int) + (-1)) = ((z + 1 : Nat) : Int) := by clear kk; rw [w32_in (by omega) (by omega)]; omega
          have e2 : w32 (((z + 1 : Nat) : Int) - 1) = ((z : Nat) : Int) := by clear kk e1; rw [w32_in (by omega) (by omega)]; omega
          have b1 := mb (fun d => hv P S V A st d (k - 1 + 1) (k - 1))
          have b2 := mb (fun d => hv P S V A st d (st (k - 1) - 1 + 1) (st (k - 1) - 1))
          rw [if_neg (show ¬ P k = 0 by clear kk e1 e2; omega), l_Sn_saidOf_L46_eq, inR_pos (i := (k : Int)) (by clear kk e1 e2; omega) (by clear kk e1 e2; omega), Int.toNat_natCast k, h31, e1, e2, kk]
          rcases a with a | a
          · clear kk e1 e2
            rw [if_pos a, if_pos (by omega), inR_pos (i := ((z : Nat) : Int)) (by omega) (by omega), inR_pos (i := ((z + 1 : Nat) : Int)) (by omega) (by omega), inR_pos (i := ((z : Nat) : Int)) (by omega) (by omega), Int.toNat_natCast z, Int.toNat_natCast (z + 1), top, nxt, hM (k - 1) (by omega), hM (st (k - 1) - 1) (by omega), band_nat (by omega) (by omega), mk_and]
            have em : M k = ((mk (fun i => hv P S V A st i (st (k - 1) - 1 + 1) (st (k - 1) - 1) && hv P S V A st i (k - 1 + 1) (k - 1)) (A 2).toNat : Nat) : Int) := by
              rw [hM k (by omega)]
              refine congrArg (fun z : Nat => (z : Int)) (mk_congr (fun d _ => ?_))
              rw [hv, if_neg (show ¬ P k = 0 by omega), if_pos a, fuel (st (k - 1) - 1) k (by omega) (by omega), show k - 1 + 1 = k from by omega]
            exact go (n + 1) (z + 1) z _ (by omega) em.symm ⟨by omega, (if_pos rfl).trans (by rw [Nat.add_sub_cancel]; exact em.symm), by rw [Nat.add_sub_cancel, PNst]; exact Stk_cg _ _ low (fun j hj => if_neg (by omega))⟩
          · rw [if_neg (show ¬ P k = 1 by clear kk e1 e2; omega), l_Sn_saidOf_L85_eq, inR_pos (i := (k : Int)) (by clear kk e1 e2; omega) (by clear kk e1 e2; omega), Int.toNat_natCast k, h31, e1, e2, kk]
            clear kk e1 e2
            rw [if_pos a, if_pos (by omega), inR_pos (i := ((z : Nat) : Int)) (by omega) (by omega), inR_pos (i := ((z + 1 : Nat) : Int)) (by omega) (by omega), inR_pos (i := ((z : Nat) : Int)) (by omega) (by omega), Int.toNat_natCast z, Int.toNat_natCast (z + 1), top, nxt, hM (k - 1) (by omega), hM (st (k - 1) - 1) (by omega), bor_nat (by omega) (by omega), mk_or]
            have em : M k = ((mk (fun i => hv P S V A st i (st (k - 1) - 1 + 1) (st (k - 1) - 1) || hv P S V A st i (k - 1 + 1) (k - 1)) (A 2).toNat : Nat) : Int) := by
              rw [hM k (by omega)]
              refine congrArg (fun z : Nat => (z : Int)) (mk_congr (fun d _ => ?_))
              rw [hv, if_neg (show ¬ P k = 0 by omega), if_neg (show ¬ P k = 1 by omega), if_pos a, fuel (st (k - 1) - 1) k (by omega) (by omega), show k - 1 + 1 = k from by omega]
            exact go n (z + 1) z _ (by omega) em.symm ⟨by omega, (if_pos rfl).trans (by rw [Nat.add_sub_cancel]; exact em.symm), by rw [Nat.add_sub_cancel, PNst]; exact Stk_cg _ _ low (fun j hj => if_neg (by omega))⟩
    · -- a plain one
      have sk : st k = k := c
      have em : M k = ((mk (fun d => lfv A (P k) (S k) (V k) d) (A 2).toNat : Nat) : Int) := by
        rw [hM k (by clear kk; omega)]
        refine congrArg (fun z : Nat => (z : Int)) (mk_congr (fun d _ => ?_))
        rw [hv, if_neg (show ¬ P k = 0 by clear kk; omega), if_neg (show ¬ P k = 1 by clear kk; omega), if_neg (show ¬ P k = 2 by clear kk; omega)]
      have tb : f_Sn_thoseBy m (k : Int) s = some (M k, s) := by
        clear kk
        have q := C_thoseL (m := m) hr (by omega) (k := k) (fun d => lfv A (P k) (S k) (V k) d) (fun d hd => C_isSo hs hr hW h31 h32 h33 (by omega) pn a hd) (A 2).toNat m 0 (by omega) (by omega)
        rw [f_Sn_thoseBy_eq, em]
        rw [Nat.zero_add] at q
        exact q
      have kx : w32 ((x : Int) + 1) = ((x + 1 : Nat) : Int) := by clear kk; rw [w32_in (by omega) (by omega)]; rfl
      rw [if_neg (show ¬ P k = 0 by clear kk kx; omega), l_Sn_saidOf_L46_eq, inR_pos (i := (k : Int)) (by clear kk kx; omega) (by clear kk kx; omega), Int.toNat_natCast k, h31, if_neg (show ¬ P k = 1 by clear kk kx; omega), l_Sn_saidOf_L85_eq, inR_pos (i := (k : Int)) (by clear kk kx; omega) (by clear kk kx; omega), inR_pos (i := (k : Int)) (by clear kk kx; omega) (by clear kk kx; omega), Int.toNat_natCast k, h31, if_neg (show ¬ P k = 2 by clear kk kx; omega), if_pos (show 2 < P k by clear kk kx; omega), tb, Option.bind_some, kx, kk]
      clear kk kx
      dsimp only
      rw [inR_pos (i := (x : Int)) (by omega) (by omega), Int.toNat_natCast x]
      refine go n (x + 1) x _ (by omega) rfl ⟨by omega, (if_pos rfl).trans (by rw [Nat.add_sub_cancel]), ?_⟩
      rw [Nat.add_sub_cancel, sk]
      exact Stk_cg _ _ hS (fun j hj => if_neg (by omega))
