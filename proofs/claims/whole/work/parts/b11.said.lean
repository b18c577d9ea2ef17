/-! ===== layer 3: said (1): what a sentence says, purely; the reference ===== -/
def vcmp (A : Row) (P : Int) (d : Nat) : Int := if P = 6 then A (29 + d) else if P = 7 then A (200 + d) else if P = 8 then A (212 + d) else (d : Int)
def lfv (A : Row) (P S V : Int) (d : Nat) : Bool :=
  if P = 3 then decide (A (164 + d) = V) else if P = 4 then decide (A (176 + d) = V) else if P = 5 then (A (53 + d)).toNat.testBit V.toNat else
  if S = 60 then decide (vcmp A P d < V) else if S = 61 then decide (vcmp A P d = V) else decide (V < vcmp A P d)
def hv (P S V A : Row) (st : Nat → Nat) (d : Nat) : Nat → Nat → Bool
  | 0, _ => false
  | f + 1, i => if P i = 0 then !(hv P S V A st d f (i - 1)) else if P i = 1 then (hv P S V A st d f (st (i - 1) - 1) && hv P S V A st d f (i - 1)) else if P i = 2 then (hv P S V A st d f (st (i - 1) - 1) || hv P S V A st d f (i - 1)) else lfv A (P i) (S i) (V i) d
theorem PN_cases {P S V A : Row} {st : Nat → Nat} {i : Nat} (h : PN P S V A st i) : (P i = 0 ∧ 1 ≤ i) ∨ ((P i = 1 ∨ P i = 2) ∧ 1 ≤ i ∧ 1 ≤ st (i - 1) ∧ st (i - 1) ≤ i - 1) ∨ (3 ≤ P i ∧ P i ≤ 9 ∧ st i = i) := by
  unfold PN at h
  rcases h with ⟨a, _, b, _⟩ | ⟨a, b, c, d, _⟩ | ⟨a, _, _, _, b⟩ | ⟨a, _, _, _, _, b⟩ | ⟨a, _, _, _, _, b⟩ | ⟨a, b, _, _, _, _, _, _, c⟩
  · exact Or.inl ⟨a, b⟩
  · right; left
    refine ⟨?_, b, c, d⟩
    rcases a with a | a
    · exact Or.inl a.1
    · exact Or.inr a.1
  · right; right; exact ⟨by omega, by omega, b⟩
  · right; right; exact ⟨by omega, by omega, b⟩
  · right; right; exact ⟨by omega, by omega, b⟩
  · right; right; exact ⟨by omega, by omega, c⟩
theorem hv_fuel {P S V A : Row} {st : Nat → Nat} (d : Nat) : ∀ (n i f f' : Nat), i < n → i < f → i < f' → (∀ j, j ≤ i → PN P S V A st j) → hv P S V A st d f i = hv P S V A st d f' i
  | 0, i, f, f', hn, _, _, _ => by omega
  | n + 1, i, f, f', hn, hf, hf', h => by
    obtain ⟨f, rfl⟩ : ∃ g, f = g + 1 := ⟨f - 1, by omega⟩
    obtain ⟨f', rfl⟩ : ∃ g, f' = g + 1 := ⟨f' - 1, by omega⟩
    rw [hv, hv]
    rcases PN_cases (h i (by omega)) with ⟨a, b⟩ | ⟨a, b, c, e⟩ | ⟨a, b, c⟩
    · rw [if_pos a, if_pos a, hv_fuel d n (i - 1) f f' (by omega) (by omega) (by omega) (fun j hj => h j (by omega))]
    · have e1 := hv_fuel d n (i - 1) f f' (by omega) (by omega) (by omega) (fun j hj => h j (by omega))
      have e2 := hv_fuel d n (st (i - 1) - 1) f f' (by omega) (by omega) (by omega) (fun j hj => h j (by omega))
      rw [e1, e2]
    · rw [if_neg (show ¬ P i = 0 by omega), if_neg (show ¬ P i = 1 by omega), if_neg (show ¬ P i = 2 by omega), if_neg (show ¬ P i = 0 by omega), if_neg (show ¬ P i = 1 by omega), if_neg (show ¬ P i = 2 by omega)]
theorem R_L370 (m : Nat) {u : mS} {A : Row} (hu : u.1 251 = A) (dd n x : Nat) (hx : x ≤ 400) (V v : Int) : l_R_holds_L370 m dd (n + 1) (x : Int) V v u = some (if (if A (x + 3) = 60 then decide (v < V) else if A (x + 3) = 61 then decide (v = V) else decide (V < v)) = true then 1 else 0, u) := by
  have e : w32 ((x : Int) + 3) = ((x + 3 : Nat) : Int) := by rw [w32_in (by omega) (by omega)]; omega
  rw [l_R_holds_L370_eq, e]
  clear e
  rw [inR_pos (by omega) (by omega), inR_pos (by omega) (by omega), Int.toNat_natCast, hu]
  by_cases c : A (x + 3) = 60
  · rw [if_pos c, if_pos c]
    by_cases d : v < V
    · rw [if_pos d, if_pos (decide_eq_true d)]
    · rw [if_neg d, if_neg (by rw [decide_eq_false d]; decide)]
  · rw [if_neg c, if_neg c]
    by_cases c1 : A (x + 3) = 61
    · rw [if_pos c1, if_pos c1]
      by_cases d : v = V
      · rw [if_pos d, if_pos (decide_eq_true d)]
      · rw [if_neg d, if_neg (by rw [decide_eq_false d]; decide)]
    · rw [if_neg c1, if_neg c1]
      by_cases d : V < v
      · rw [if_pos d, if_pos (decide_eq_true d)]
      · rw [if_neg d, if_neg (by rw [decide_eq_false d]; decide)]
theorem bool01 (b : Bool) : (if b = true then (1 : Int) else 0) = 0 ↔ b = false := by cases b <;> decide
theorem R_holds {m : Nat} (hm : 100 ≤ m) {u : mS} {A P S V : Row} {st : Nat → Nat} (hu : u.1 251 = A) (hW : WF A) {d : Nat} (hd : (d : Int) < A 2) : ∀ (n i f : Nat), i < n → i < f → i < 40 → (∀ j, j ≤ i → PN P S V A st j) → f_R_holds m f (i : Int) (d : Int) u = some (if hv P S V A st d f i = true then 1 else 0, u)
  | 0, i, f, hn, _, _, _ => by omega
  | n + 1, i, f, hn, hf, h40, h => by
    obtain ⟨f, rfl⟩ : ∃ g, f = g + 1 := ⟨f - 1, by omega⟩
    have W2 := WFv_dead hW.1
    have q1 : w32 (4 * (i : Int)) = ((4 * i : Nat) : Int) := by rw [w32_in (by omega) (by omega)]; omega
    rw [f_R_holds_eq, q1]
    clear q1
    have q1 : w32 (226 + ((4 * i : Nat) : Int)) = ((226 + 4 * i : Nat) : Int) := by rw [w32_in (by omega) (by omega)]; omega
    rw [q1]
    clear q1
    have q1 : w32 (((226 + 4 * i : Nat) : Int) + 1) = ((227 + 4 * i : Nat) : Int) := by rw [w32_in (by omega) (by omega)]; omega
    rw [q1]
    clear q1
    have q1 : w32 (((226 + 4 * i : Nat) : Int) + 2) = ((228 + 4 * i : Nat) : Int) := by rw [w32_in (by omega) (by omega)]; omega
    rw [q1]
    clear q1
    rw [inR_pos (i := ((227 + 4 * i : Nat) : Int)) (by omega) (by omega), inR_pos (i := ((228 + 4 * i : Nat) : Int)) (by omega) (by omega), inR_pos (i := ((226 + 4 * i : Nat) : Int)) (by omega) (by omega), Int.toNat_natCast (227 + 4 * i), Int.toNat_natCast (228 + 4 * i), Int.toNat_natCast (226 + 4 * i), hu, hv]
    have ix : ∀ k : Nat, k ≤ 212 → w32 ((k : Int) + (d : Int)) = ((k + d : Nat) : Int) := fun k hk => w32n k d (by omega) (by omega)
    have pn := h i (by omega)
    unfold PN at pn
    rcases pn with ⟨a, b, c, e, f1⟩ | ⟨a, b, c, e, f1, f2, f3⟩ | ⟨a, b, c, e, f1⟩ | ⟨a, b, c, e, f1, f2⟩ | ⟨a, b, c, e, f1, f2⟩ | ⟨a, b, c, e, f1, f2, f3, f4, f5⟩
    · -- not
      have ih := R_holds hm hu hW hd n (i - 1) f (by omega) (by omega) (by omega) (fun j hj => h j (by omega))
      rw [show (((i - 1 : Nat)) : Int) = (i : Int) - 1 from by omega] at ih
      rw [if_pos b, e, ih, Option.bind_some, if_pos a]
      dsimp only
      cases hv P S V A st d f (i - 1) <;> rfl
    · -- and, or
      have ih := R_holds hm hu hW hd n (i - 1) f (by omega) (by omega) (by omega) (fun j hj => h j (by omega))
      rw [show (((i - 1 : Nat)) : Int) = (i : Int) - 1 from by omega] at ih
      have ih2 := R_holds hm hu hW hd n (st (i - 1) - 1) f (by omega) (by omega) (by omega) (fun j hj => h j (by omega))
      rw [show (((st (i - 1) - 1 : Nat)) : Int) = (st (i - 1) : Int) - 1 from by omega] at ih2
      rcases a with ⟨a1, a2⟩ | ⟨a1, a2⟩
      · rw [if_neg (show ¬ A (226 + 4 * i) = 1 by omega), if_pos a2, f2, ih2, Option.bind_some, if_neg (show ¬ P i = 0 by omega), if_pos a1]
        dsimp only
        cases hv P S V A st d f (st (i - 1) - 1)
        · rfl
        · rw [if_neg (show ¬ (if true = true then (1 : Int) else 0) = 0 by decide), f1, ih, Option.bind_some]
          dsimp only
          cases hv P S V A st d f (i - 1) <;> rfl
      · rw [if_neg (show ¬ A (226 + 4 * i) = 1 by omega), if_neg (show ¬ A (226 + 4 * i) = 2 by omega), if_pos a2, f2, ih2, Option.bind_some, if_neg (show ¬ P i = 0 by omega), if_neg (show ¬ P i = 1 by omega), if_pos a1]
        dsimp only
        cases hv P S V A st d f (st (i - 1) - 1)
        · rw [if_pos (show (if false = true then (1 : Int) else 0) = 0 by decide), f1, ih, Option.bind_some]
          dsimp only
          cases hv P S V A st d f (i - 1) <;> rfl
        · rfl
    · -- how one is
      have e164 := ix 164 (by omega)
      rw [show ((164 : Nat) : Int) = 164 from rfl] at e164
      rw [e164]
      clear e164 ix
      rw [if_neg (show ¬ A (226 + 4 * i) = 1 by omega), if_neg (show ¬ A (226 + 4 * i) = 2 by omega), if_neg (show ¬ A (226 + 4 * i) = 3 by omega), inR_pos (i := ((164 + d : Nat) : Int)) (by omega) (by omega), Int.toNat_natCast (164 + d), if_neg (show ¬ P i = 0 by omega), if_neg (show ¬ P i = 1 by omega), if_neg (show ¬ P i = 2 by omega)]
      unfold lfv
      rw [if_pos a]
      have vv : V i = 0 ∨ V i = 1 ∨ V i = 2 ∨ V i = 3 := by omega
      rcases vv with v | v | v | v
      · rw [if_pos (show A (226 + 4 * i) = 64 by omega), v]
        by_cases c : A (164 + d) = 0
        · rw [if_pos c, if_pos (decide_eq_true c)]
        · rw [if_neg c, if_neg (by rw [decide_eq_false c]; decide)]
      · rw [if_neg (show ¬ A (226 + 4 * i) = 64 by omega), if_pos (show A (226 + 4 * i) = 65 by omega), v, inR_pos (i := ((164 + d : Nat) : Int)) (by omega) (by omega)]
        by_cases c : A (164 + d) = 1
        · rw [if_pos c, if_pos (decide_eq_true c)]
        · rw [if_neg c, if_neg (by rw [decide_eq_false c]; decide)]
      · rw [if_neg (show ¬ A (226 + 4 * i) = 64 by omega), if_neg (show ¬ A (226 + 4 * i) = 65 by omega), if_pos (show A (226 + 4 * i) = 66 by omega), v, inR_pos (i := ((164 + d : Nat) : Int)) (by omega) (by omega)]
        by_cases c : A (164 + d) = 2
        · rw [if_pos c, if_pos (decide_eq_true c)]
        · rw [if_neg c, if_neg (by rw [decide_eq_false c]; decide)]
      · rw [if_neg (show ¬ A (226 + 4 * i) = 64 by omega), if_neg (show ¬ A (226 + 4 * i) = 65 by omega), if_neg (show ¬ A (226 + 4 * i) = 66 by omega), if_pos (show A (226 + 4 * i) = 67 by omega), v, inR_pos (i := ((164 + d : Nat) : Int)) (by omega) (by omega)]
        by_cases c : A (164 + d) = 3
        · rw [if_pos c, if_pos (decide_eq_true c)]
        · rw [if_neg c, if_neg (by rw [decide_eq_false c]; decide)]
    · -- in a box
      have e176 := ix 176 (by omega)
      rw [show ((176 : Nat) : Int) = 176 from rfl] at e176
      rw [e176]
      clear e176 ix
      rw [if_neg (show ¬ A (226 + 4 * i) = 1 by omega), if_neg (show ¬ A (226 + 4 * i) = 2 by omega), if_neg (show ¬ A (226 + 4 * i) = 3 by omega), if_neg (show ¬ A (226 + 4 * i) = 64 by omega), if_neg (show ¬ A (226 + 4 * i) = 65 by omega), if_neg (show ¬ A (226 + 4 * i) = 66 by omega), if_neg (show ¬ A (226 + 4 * i) = 67 by omega), if_pos e, inR_pos (i := ((176 + d : Nat) : Int)) (by omega) (by omega), Int.toNat_natCast (176 + d), if_neg (show ¬ P i = 0 by omega), if_neg (show ¬ P i = 1 by omega), if_neg (show ¬ P i = 2 by omega), f1]
      unfold lfv
      rw [if_neg (show ¬ P i = 3 by omega), if_pos a]
      by_cases c : A (176 + d) = V i
      · rw [if_pos c, if_pos (decide_eq_true c)]
      · rw [if_neg c, if_neg (by rw [decide_eq_false c]; decide)]
    · -- kin
      have e53 := ix 53 (by omega)
      rw [show ((53 : Nat) : Int) = 53 from rfl] at e53
      rw [e53]
      clear e53 ix
      have wk := hW.1.2.2.2.2.2.2.2.2.1 d hd
      obtain ⟨x, hx⟩ : ∃ x : Nat, A (53 + d) = (x : Int) := ⟨(A (53 + d)).toNat, by omega⟩
      obtain ⟨v, hv'⟩ : ∃ v : Nat, V i = (v : Int) := ⟨(V i).toNat, by omega⟩
      rw [if_neg (show ¬ A (226 + 4 * i) = 1 by omega), if_neg (show ¬ A (226 + 4 * i) = 2 by omega), if_neg (show ¬ A (226 + 4 * i) = 3 by omega), if_neg (show ¬ A (226 + 4 * i) = 64 by omega), if_neg (show ¬ A (226 + 4 * i) = 65 by omega), if_neg (show ¬ A (226 + 4 * i) = 66 by omega), if_neg (show ¬ A (226 + 4 * i) = 67 by omega), if_neg (show ¬ A (226 + 4 * i) = 68 by omega), if_pos e, inR_pos (i := ((53 + d : Nat) : Int)) (by omega) (by omega), Int.toNat_natCast (53 + d), if_neg (show ¬ P i = 0 by omega), if_neg (show ¬ P i = 1 by omega), if_neg (show ¬ P i = 2 by omega), f1, hx, hv', R_has m u (by omega) (by omega), Option.bind_some]
      unfold lfv
      rw [if_neg (show ¬ P i = 3 by omega), if_neg (show ¬ P i = 4 by omega), if_pos a, hx, Int.toNat_natCast, Int.toNat_natCast]
      dsimp only
      cases x.testBit v <;> rfl
    · -- compared
      obtain ⟨m0, hm0⟩ : ∃ m0, m = m0 + 1 := ⟨m - 1, by omega⟩
      have LL : ∀ (x y z : Int) (t : mS), l_R_holds_L370 m f m x y z t = l_R_holds_L370 m f (m0 + 1) x y z t := fun x y z t => by rw [← hm0]
      have e29 := ix 29 (by omega)
      rw [show ((29 : Nat) : Int) = 29 from rfl] at e29
      rw [e29]
      clear e29
      have e29 := ix 200 (by omega)
      rw [show ((200 : Nat) : Int) = 200 from rfl] at e29
      rw [e29]
      clear e29
      have e29 := ix 212 (by omega)
      rw [show ((212 : Nat) : Int) = 212 from rfl] at e29
      rw [e29]
      clear e29 ix
      rw [if_neg (show ¬ A (226 + 4 * i) = 1 by omega), if_neg (show ¬ A (226 + 4 * i) = 2 by omega), if_neg (show ¬ A (226 + 4 * i) = 3 by omega), if_neg (show ¬ A (226 + 4 * i) = 64 by omega), if_neg (show ¬ A (226 + 4 * i) = 65 by omega), if_neg (show ¬ A (226 + 4 * i) = 66 by omega), if_neg (show ¬ A (226 + 4 * i) = 67 by omega), if_neg (show ¬ A (226 + 4 * i) = 68 by omega), if_neg (show ¬ A (226 + 4 * i) = 69 by omega), inR_pos (i := ((226 + 4 * i : Nat) : Int)) (by omega) (by omega), c, w32_in (by omega) (by omega), if_neg (show ¬ P i = 0 by omega), if_neg (show ¬ P i = 1 by omega), if_neg (show ¬ P i = 2 by omega), e, inR_pos (i := ((29 + d : Nat) : Int)) (by omega) (by omega), inR_pos (i := ((200 + d : Nat) : Int)) (by omega) (by omega), inR_pos (i := ((212 + d : Nat) : Int)) (by omega) (by omega), Int.toNat_natCast (29 + d), Int.toNat_natCast (200 + d), Int.toNat_natCast (212 + d), LL, LL, LL, LL, R_L370 m hu f m0 _ (by omega), R_L370 m hu f m0 _ (by omega), R_L370 m hu f m0 _ (by omega), R_L370 m hu f m0 _ (by omega), show 226 + 4 * i + 3 = 229 + 4 * i from by omega, f1]
      unfold lfv vcmp
      rw [if_neg (show ¬ P i = 3 by omega), if_neg (show ¬ P i = 4 by omega), if_neg (show ¬ P i = 5 by omega)]
      have vv : P i = 6 ∨ P i = 7 ∨ P i = 8 ∨ P i = 9 := by omega
      rcases vv with v | v | v | v
      · rw [if_pos (show 64 + P i - 50 = 20 by omega), if_pos v]
      · rw [if_neg (show ¬ 64 + P i - 50 = 20 by omega), if_pos (show 64 + P i - 50 = 21 by omega), if_neg (show ¬ P i = 6 by omega), if_pos v]
      · rw [if_neg (show ¬ 64 + P i - 50 = 20 by omega), if_neg (show ¬ 64 + P i - 50 = 21 by omega), if_pos (show 64 + P i - 50 = 22 by omega), if_neg (show ¬ P i = 6 by omega), if_neg (show ¬ P i = 7 by omega), if_pos v]
      · rw [if_neg (show ¬ 64 + P i - 50 = 20 by omega), if_neg (show ¬ 64 + P i - 50 = 21 by omega), if_neg (show ¬ 64 + P i - 50 = 22 by omega), if_neg (show ¬ P i = 6 by omega), if_neg (show ¬ P i = 7 by omega), if_neg (show ¬ P i = 8 by omega)]
/-- those chosen: the k-th, or how many -/
def gk (f : Nat → Bool) (k : Int) : Nat → Nat → Int → Int
  | 0, _, c => if k = -1 then c else -1
  | d + 1, j, c => if f j = true then (if c = k then (j : Int) else gk f k d (j + 1) (c + 1)) else gk f k d (j + 1) c
theorem R_saidL {m : Nat} {u : mS} {A : Row} (hu : u.1 251 = A) (f : Nat → Bool) (k : Int) (hn : A 2 ≤ 12) (hh : ∀ d : Nat, (d : Int) < A 2 → f_R_holds m 64 (A 225) (d : Int) u = some (if f d = true then 1 else 0, u)) : ∀ (e n j : Nat) (c : Int), (j : Int) + e = A 2 → e + 1 ≤ n → 0 ≤ c → c ≤ j → l_R_said_L22 m n k c (j : Int) u = some (gk f k e j c, u)
  | 0, n, j, c, hj, hen, c0, c1 => by
    obtain ⟨n, rfl⟩ : ∃ g, n = g + 1 := ⟨n - 1, by omega⟩
    rw [l_R_said_L22_eq, hu, if_neg (by omega), gk]
    split <;> rfl
  | e + 1, n, j, c, hj, hen, c0, c1 => by
    obtain ⟨n, rfl⟩ : ∃ g, n = g + 1 := ⟨n - 1, by omega⟩
    rw [l_R_said_L22_eq, hu, if_pos (by omega), hh j (by omega), Option.bind_some, gk]
    dsimp only
    by_cases b : f j = true
    · rw [if_pos b, if_neg (by decide), if_pos b]
      by_cases q : c = k
      · rw [if_pos q, if_pos q]
      · rw [if_neg q, if_neg q, w32_in (x := c + 1) (by omega) (by omega), w32_in (x := (j : Int) + 1) (by omega) (by omega), show (j : Int) + 1 = ((j + 1 : Nat) : Int) from by omega]
        exact R_saidL hu f k hn hh e n (j + 1) (c + 1) (by omega) (by omega) (by omega) (by omega)
    · rw [if_neg b, if_pos rfl, if_neg b, w32_in (x := (j : Int) + 1) (by omega) (by omega), show (j : Int) + 1 = ((j + 1 : Nat) : Int) from by omega]
      exact R_saidL hu f k hn hh e n (j + 1) c (by omega) (by omega) (by omega) (by omega)
