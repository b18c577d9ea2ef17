/-! ===== layer 3: match (4): who could have which; the class chooses ===== -/
def Cm (A : Row) (j : Nat) : Nat := if (j : Int) < A 2 then mk (fun b => decide (whyLend A j b = 0)) (A 0).toNat else 0
theorem Cm_lt {A : Row} (hv : WFv A) (j : Nat) : Cm A j < 512 := by
  have W0 := WFv_boxes hv
  unfold Cm
  split
  · have l := mk_lt (fun b => decide (whyLend A j b = 0)) (A 0).toNat
    have l2 : 2 ^ (A 0).toNat ≤ 2 ^ 9 := Nat.pow_le_pow_right (by omega) (by omega)
    omega
  · omega
theorem Cm_bit {A : Row} {j : Nat} (hj : (j : Int) < A 2) (b : Nat) : (Cm A j).testBit b = (decide (b < (A 0).toNat) && decide (whyLend A j b = 0)) := by
  unfold Cm; rw [if_pos hj, mk_bit]
theorem band_not {x g : Nat} (hx : x < 512) (hg : g < 512) {b : Nat} (hb : b < 9) : band (band (x : Int) (bshl 1 (b : Int))) (bxor (g : Int) (-1)) = 0 ↔ ¬ (x.testBit b = true ∧ g.testBit b = false) := by
  have p9 : 2 ^ b < 2 ^ 9 := Nat.pow_lt_pow_right (by decide) hb
  have e0 : band (x : Int) (bshl 1 (b : Int)) = ((x &&& 2 ^ b : Nat) : Int) := by rw [bshl_nat (by omega), band_nat (by omega) (by omega)]
  rw [e0]
  have hl : (x &&& 2 ^ b) ≤ x := Nat.and_le_left
  have e1 : band ((x &&& 2 ^ b : Nat) : Int) (bxor (g : Int) (-1)) = (Int32.ofInt ((x &&& 2 ^ b : Nat) : Int) &&& (Int32.ofInt (g : Int) ^^^ Int32.ofInt (-1))).toInt := by
    unfold band bxor
    rw [Int32.ofInt_toInt]
  rw [e1]
  have e2 : (Int32.ofInt ((x &&& 2 ^ b : Nat) : Int) &&& (Int32.ofInt (g : Int) ^^^ Int32.ofInt (-1))).toBitVec = BitVec.ofNat 32 (x &&& 2 ^ b) &&& (BitVec.ofNat 32 g ^^^ BitVec.allOnes 32) := by
    rw [Int32.toBitVec_and, Int32.toBitVec_xor, Int32.toBitVec_ofInt, Int32.toBitVec_ofInt, Int32.toBitVec_ofInt, BitVec.ofInt_natCast, BitVec.ofInt_natCast]
    rfl
  have bit : ∀ i, (BitVec.ofNat 32 (x &&& 2 ^ b) &&& (BitVec.ofNat 32 g ^^^ BitVec.allOnes 32)).getLsbD i = (decide (i < 32) && ((x.testBit i && decide (b = i)) && !g.testBit i)) := by
    intro i
    rw [BitVec.getLsbD_and, BitVec.getLsbD_xor, BitVec.getLsbD_ofNat, BitVec.getLsbD_ofNat, BitVec.getLsbD_allOnes, Nat.testBit_and, Nat.testBit_two_pow]
    cases decide (i < 32) <;> cases x.testBit i <;> cases decide (b = i) <;> cases g.testBit i <;> rfl
  have zero : (Int32.ofInt ((x &&& 2 ^ b : Nat) : Int) &&& (Int32.ofInt (g : Int) ^^^ Int32.ofInt (-1))).toInt = 0 ↔ (BitVec.ofNat 32 (x &&& 2 ^ b) &&& (BitVec.ofNat 32 g ^^^ BitVec.allOnes 32)) = 0#32 := by
    rw [← e2]
    constructor
    · intro h
      apply BitVec.eq_of_toInt_eq
      exact h
    · intro h
      show BitVec.toInt _ = 0
      rw [h]; rfl
  rw [zero]
  constructor
  · intro h ⟨h1, h2⟩
    have := bit b
    rw [h, h1, h2, decide_eq_true (show b < 32 by omega), decide_eq_true rfl] at this
    simp at this
  · intro h
    apply BitVec.eq_of_getLsbD_eq
    intro i hi
    rw [bit i]
    by_cases q : b = i
    · subst q
      cases w : x.testBit b <;> cases v : g.testBit b
      · simp
      · simp
      · exact absurd ⟨w, v⟩ h
      · simp
    · rw [decide_eq_false q]; simp
theorem F_L18 {m : Nat} {A : Row} (hW : WF A) {d : Nat} (hd : (d : Int) < A 2) : ∀ (e n b : Nat) (s : mS), (b : Int) + e = A 0 → e + 1 ≤ n → SR s 17 A → VR s 4 A → s.1 243 d = ((mk (fun b => decide (whyLend A d b = 0)) b : Nat) : Int) → ∃ n' s', l_Mt_find_L18 m n (d : Int) (b : Int) s = l_Mt_find_L2 m n' ((d + 1 : Nat) : Int) s' ∧ n = n' + e + 1 ∧ s'.1 243 d = ((Cm A d : Nat) : Int) ∧ (∀ j, j ≠ d → s'.1 243 j = s.1 243 j) ∧ (∀ c, c ≠ 243 → s'.1 c = s.1 c) ∧ s'.2 = s.2
  | 0, n, b, s, hb, hn, hs, hr, h3 => by
    obtain ⟨n, rfl⟩ : ∃ g, n = g + 1 := ⟨n - 1, by omega⟩
    have W2 := WFv_dead hW.1
    refine ⟨n, s, ?_, by omega, ?_, fun _ _ => rfl, fun _ _ => rfl, rfl⟩
    · rw [l_Mt_find_L18_eq, VR4_dead hr, VR4_boxes hr, if_pos hd, if_neg (by omega), w32_in (by omega) (by omega)]; rfl
    · rw [h3]
      unfold Cm
      rw [if_pos hd, show (A 0).toNat = b from by omega]
  | e + 1, n, b, s, hb, hn, hs, hr, h3 => by
    obtain ⟨n, rfl⟩ : ∃ g, n = g + 1 := ⟨n - 1, by omega⟩
    have W2 := WFv_dead hW.1
    have W0 := WFv_boxes hW.1
    rw [l_Mt_find_L18_eq, VR4_dead hr, VR4_boxes hr, if_pos hd, if_pos (by omega), C_whyLend_17 hs hr hW.1 hW.2.1 hd (b := b) (by omega) m, Option.bind_some, w32_in (x := (b : Int) + 1) (by omega) (by omega), show (b : Int) + 1 = ((b + 1 : Nat) : Int) from by omega]
    dsimp only
    by_cases c : whyLend A d b = 0
    · rw [if_pos c, inR_pos (by omega) (by omega), inR_pos (by omega) (by omega), Int.toNat_natCast, h3, mk_step (by omega) (decide_eq_true c)]
      obtain ⟨n', s', r1, r2, r3, r4, r5, r6⟩ := F_L18 (m := m) hW hd e n (b + 1) (wI s 243 d ((mk (fun b => decide (whyLend A d b = 0)) (b + 1) : Nat) : Int)) (by omega) (by omega) (SR_keep hs (fun c _ _ => wI_ne (by omega))) (VR_keep hr (fun c _ _ => wI_ne (by omega))) wI_at
      exact ⟨n', s', r1, by omega, r3, fun j hj => by rw [r4 j hj, wI_f hj], fun c hc => by rw [r5 c hc, wI_ne hc], r6⟩
    · rw [if_neg c]
      obtain ⟨n', s', r1, r2, r3, r4, r5, r6⟩ := F_L18 (m := m) hW hd e n (b + 1) s (by omega) (by omega) hs hr (by rw [h3, mk_skip (decide_eq_false c)])
      exact ⟨n', s', r1, by omega, r3, r4, r5, r6⟩
theorem F_L2 {m : Nat} {A : Row} (hW : WF A) : ∀ (e n d : Nat) (s : mS), d + e = 12 → 12 * e + 1 ≤ n → SR s 17 A → VR s 4 A → (∀ j, j < d → s.1 243 j = ((Cm A j : Nat) : Int)) → ∃ s', l_Mt_find_L2 m n (d : Int) s = ((f_Mt_mostFrom m 0 0 s').bind fun p0 => ((f_Mt_chooseFirst m p0.1 p0.2).bind fun p1 => (some (p0.1, p1.2)))) ∧ (∀ j, j < 12 → s'.1 243 j = ((Cm A j : Nat) : Int)) ∧ (∀ c, c ≠ 243 → s'.1 c = s.1 c) ∧ s'.2 = s.2
  | 0, n, d, s, hd, hn, hs, hr, h3 => by
    obtain ⟨n, rfl⟩ : ∃ g, n = g + 1 := ⟨n - 1, by omega⟩
    exact ⟨s, by rw [l_Mt_find_L2_eq, if_neg (by omega)], fun j hj => h3 j (by omega), fun _ _ => rfl, rfl⟩
  | e + 1, n, d, s, hd, hn, hs, hr, h3 => by
    obtain ⟨n, rfl⟩ : ∃ g, n = g + 1 + 1 := ⟨n - 2, by omega⟩
    have W0 := WFv_boxes hW.1
    have W2 := WFv_dead hW.1
    have hs1 : SR (wI s 243 d 0) 17 A := SR_keep hs (fun c _ _ => wI_ne (by omega))
    have hr1 : VR (wI s 243 d 0) 4 A := VR_keep hr (fun c _ _ => wI_ne (by omega))
    rw [l_Mt_find_L2_eq, if_pos (by omega), inR_pos (by omega) (by omega), Int.toNat_natCast]
    by_cases c : (d : Int) < A 2
    · obtain ⟨n', s', r1, r2, r3, r4, r5, r6⟩ := F_L18 (m := m) hW c (A 0).toNat (n + 1) 0 (wI s 243 d 0) (by omega) (by omega) hs1 hr1 (by rw [wI_at]; rfl)
      obtain ⟨s2, q1, q2, q3, q4⟩ := F_L2 (m := m) hW e n' (d + 1) s' (by omega) (by omega) (SR_keep hs1 (fun c _ _ => r5 c (by omega))) (VR_keep hr1 (fun c _ _ => r5 c (by omega))) (fun j hj => by
        by_cases q : j = d
        · rw [q]; exact r3
        · rw [r4 j q, wI_f q]; exact h3 j (by omega))
      refine ⟨s2, ?_, q2, fun c hc => by rw [q3 c hc, r5 c hc, wI_ne hc], by rw [q4, r6]; rfl⟩
      rw [show l_Mt_find_L18 m (n + 1) (d : Int) 0 (wI s 243 d 0) = l_Mt_find_L18 m (n + 1) (d : Int) ((0 : Nat) : Int) (wI s 243 d 0) from rfl, r1, q1]
    · obtain ⟨s2, q1, q2, q3, q4⟩ := F_L2 (m := m) hW e n (d + 1) (wI s 243 d 0) (by omega) (by omega) hs1 hr1 (fun j hj => by
        by_cases q : j = d
        · rw [q, wI_at]; unfold Cm; rw [if_neg c]; rfl
        · rw [wI_f q]; exact h3 j (by omega))
      refine ⟨s2, ?_, q2, fun c hc => by rw [q3 c hc, wI_ne hc], by rw [q4]; rfl⟩
      rw [l_Mt_find_L18_eq, VR4_dead hr1, if_neg c, w32_in (by omega) (by omega), show (d : Int) + 1 = ((d + 1 : Nat) : Int) from by omega, q1]
/-- the least box from b on -/
def lb (p : Nat → Bool) : Nat → Nat → Option Nat
  | 0, _ => none
  | e + 1, b => if p b = true then some b else lb p e (b + 1)
/-- whether box b keeps as many as can be -/
def bp (C : Nat → Nat) (d g b : Nat) : Bool := (C d).testBit b && (!g.testBit b && decide (1 + mxM C (11 - d) (d + 1) (g ||| 2 ^ b) = mxM C (12 - d) d g))
def bx (C : Nat → Nat) (d g : Nat) : Option Nat := lb (bp C d g) 9 0
def gn (C : Nat → Nat) : Nat → Nat
  | 0 => 0
  | d + 1 => match bx C d (gn C d) with
    | some b => gn C d ||| 2 ^ b
    | none => gn C d
def vl (C : Nat → Nat) (d : Nat) : Int := match bx C d (gn C d) with
  | some b => (b : Int)
  | none => -1
theorem lb_some {p : Nat → Bool} : ∀ e b x, lb p e b = some x → b ≤ x ∧ x < b + e ∧ p x = true
  | 0, b, x, h => by cases h
  | e + 1, b, x, h => by
    rw [lb] at h
    by_cases c : p b = true
    · rw [if_pos c] at h
      have : b = x := Option.some.inj h
      subst this; exact ⟨by omega, by omega, c⟩
    · rw [if_neg c] at h
      have := lb_some e (b + 1) x h
      exact ⟨by omega, by omega, this.2.2⟩
theorem lb_none {p : Nat → Bool} : ∀ e b, lb p e b = none → ∀ x, b ≤ x → x < b + e → p x = false
  | 0, b, _, x, h1, h2 => by omega
  | e + 1, b, h, x, h1, h2 => by
    rw [lb] at h
    by_cases c : p b = true
    · rw [if_pos c] at h; cases h
    · rw [if_neg c] at h
      by_cases q : x = b
      · rw [q]; cases w : p b with
        | false => rfl
        | true => exact absurd w c
      · exact lb_none e (b + 1) h x (by omega) (by omega)
theorem gn_lt (C : Nat → Nat) : ∀ d, gn C d < 512
  | 0 => by rw [gn]; omega
  | d + 1 => by
    rw [gn]
    have ih := gn_lt C d
    cases w : bx C d (gn C d) with
    | none => exact ih
    | some b =>
      have q := lb_some 9 0 b w
      have p9 : 2 ^ b < 2 ^ 9 := Nat.pow_lt_pow_right (by decide) (by omega)
      have := Nat.or_lt_two_pow (n := 9) (x := gn C d) (y := 2 ^ b) (by omega) (by omega)
      dsimp only
      omega
/-- how many are left to be found -/
theorem left_next (C : Nat → Nat) {d : Nat} (hd : d < 12) (g : Nat) : mxM C (12 - d) d g = (match bx C d g with | some b => 1 + mxM C (11 - d) (d + 1) (g ||| 2 ^ b) | none => mxM C (11 - d) (d + 1) g) := by
  cases w : bx C d g with
  | some b =>
    have q := (lb_some 9 0 b w).2.2
    unfold bp at q
    rw [Bool.and_eq_true, Bool.and_eq_true] at q
    exact (of_decide_eq_true q.2.2).symm
  | none =>
    have nn := lb_none 9 0 w
    have e : mxM C (12 - d) d g = bst C (fun S' => mxM C (11 - d) (d + 1) S') d g 9 := by rw [show 12 - d = 11 - d + 1 from by omega]; rfl
    rcases bst_or C (fun S' => mxM C (11 - d) (d + 1) S') d g 9 with q | ⟨b, b9, b1, b2, b3⟩
    · rw [e, q]
    · exfalso
      have z := nn b (by omega) (by omega)
      unfold bp at z
      rw [b1, b2, decide_eq_true (by rw [e, b3])] at z
      cases z
theorem mx_le (C : Nat → Nat) : ∀ r j S, mxM C r j S ≤ r
  | 0, j, S => by rw [mxM]; omega
  | r + 1, j, S => by
    have e : mxM C (r + 1) j S = bst C (fun S' => mxM C r (j + 1) S') j S 9 := rfl
    rcases bst_or C (fun S' => mxM C r (j + 1) S') j S 9 with q | ⟨b, _, _, _, q⟩
    · rw [e, q]; have := mx_le C r (j + 1) S; omega
    · rw [e, q]; have := mx_le C r (j + 1) (S ||| 2 ^ b); omega
/-- what choosing may change -/
def FC (s s' : mS) : Prop := (∀ c, c ≠ 241 → c ≠ 242 → c ≠ 244 → s'.1 c = s.1 c) ∧ (∀ k, k ≠ 3 → s'.1 241 k = s.1 241 k) ∧ s'.2 = s.2
theorem FC_trans {a b c : mS} (h : FC a b) (g : FC b c) : FC a c := ⟨fun x p q r => (g.1 x p q r).trans (h.1 x p q r), fun k p => (g.2.1 k p).trans (h.2.1 k p), g.2.2.trans h.2.2⟩
theorem FC_of {s s' : mS} (h : FM s s') : FC s s' := ⟨fun c p _ r => h.1 c p r, h.2.1, h.2.2⟩
theorem FC_w {s : mS} {k : Nat} {v : Int} : FC s (wI s 242 k v) := ⟨fun c _ p _ => wI_ne p, fun k _ => by rw [wI_ne (by decide)], rfl⟩
theorem Ch_in {m : Nat} (hm : 10000 ≤ m) {C : Nat → Nat} (hC : ∀ j, C j < 512) {d : Nat} (hd : d < 12) {g : Nat} (hg : g < 512) : ∀ (e n b : Nat) (s : mS), b + e = 9 → e + 2 ≤ n → s.1 242 d = -1 → (∀ i, i < 12 → s.1 243 i = (C i : Int)) →
    ∃ n' s', n ≤ n' + e + 2 ∧ FC s s' ∧ (∀ j, j ≠ d → s'.1 242 j = s.1 242 j) ∧ ((lb (bp C d g) e b = none ∧ s'.1 242 d = -1 ∧ l_Mt_chooseFirst_L25 m n ((mxM C (12 - d) d g : Nat) : Int) (g : Int) (d : Int) (b : Int) s = l_Mt_chooseFirst_L7 m n' ((mxM C (12 - d) d g : Nat) : Int) (g : Int) ((d + 1 : Nat) : Int) s') ∨
      (∃ x, lb (bp C d g) e b = some x ∧ s'.1 242 d = (x : Int) ∧ l_Mt_chooseFirst_L25 m n ((mxM C (12 - d) d g : Nat) : Int) (g : Int) (d : Int) (b : Int) s = l_Mt_chooseFirst_L7 m n' ((mxM C (12 - d) d g : Nat) - 1 : Int) ((g ||| 2 ^ x : Nat) : Int) ((d + 1 : Nat) : Int) s'))
  | 0, n, b, s, hb, hn, h2, h3 => by
    obtain ⟨n, rfl⟩ : ∃ g, n = g + 1 := ⟨n - 1, by omega⟩
    refine ⟨n, s, by omega, FC_of (FM_refl s), fun _ _ => rfl, Or.inl ⟨rfl, h2, ?_⟩⟩
    rw [l_Mt_chooseFirst_L25_eq, if_neg (by omega), w32_in (x := (d : Int) + 1) (by omega) (by omega)]; rfl
  | e + 1, n, b, s, hb, hn, h2, h3 => by
    obtain ⟨n, rfl⟩ : ∃ g, n = g + 1 := ⟨n - 1, by omega⟩
    have hCd := hC d
    have ml := mx_le C (12 - d) d g
    have p9 : 2 ^ b < 2 ^ 9 := Nat.pow_lt_pow_right (by decide) (by omega)
    have gb : (g ||| 2 ^ b) < 2 ^ 9 := Nat.or_lt_two_pow (by omega) (by omega)
    have ml2 := mx_le C (11 - d) (d + 1) (g ||| 2 ^ b)
    rw [l_Mt_chooseFirst_L25_eq, if_pos (by omega), inR_pos (by omega) (by omega), Int.toNat_natCast, if_pos h2, inR_pos (by omega) (by omega), h3 d hd, bshl_nat (by omega), bor_nat (by omega) (by omega), w32_in (x := (b : Int) + 1) (by omega) (by omega), show (b : Int) + 1 = ((b + 1 : Nat) : Int) from by omega, w32_in (x := (d : Int) + 1) (by omega) (by omega), show (d : Int) + 1 = ((d + 1 : Nat) : Int) from by omega, lb]
    have bn := band_not (x := C d) (g := g) hCd hg (b := b) (by omega)
    rw [bshl_nat (by omega)] at bn
    by_cases c : (C d).testBit b = true ∧ g.testBit b = false
    rotate_left
    · rw [if_pos (bn.mpr c)]
      have nb : bp C d g b = false := by
        unfold bp
        cases w : (C d).testBit b with
        | false => rfl
        | true => cases v : g.testBit b with
          | false => exact absurd ⟨w, v⟩ c
          | true => rfl
      rw [nb, if_neg (by decide)]
      obtain ⟨n', s', r1, r2, r3, r4⟩ := Ch_in hm hC hd hg e n (b + 1) s (by omega) (by omega) h2 h3
      exact ⟨n', s', by omega, r2, r3, r4⟩
    · rw [if_neg (fun q => bn.mp q c)]
      obtain ⟨s1, q1, q2⟩ := C_most hm hC (first := d + 1) (gone := g ||| 2 ^ b) (by omega) (by omega) (s := s) h3
      rw [show 12 - (d + 1) = 11 - d from by omega] at q1
      have h21 : s1.1 242 = s.1 242 := q2.1 242 (by decide) (by decide)
      have h31 : ∀ i, i < 12 → s1.1 243 i = (C i : Int) := fun i hi => by rw [q2.1 243 (by decide) (by decide)]; exact h3 i hi
      rw [q1, Option.bind_some]
      dsimp only
      rw [w32_in (x := ((mxM C (11 - d) (d + 1) (g ||| 2 ^ b) : Nat) : Int) + 1) (by omega) (by omega)]
      by_cases ce : ((mxM C (11 - d) (d + 1) (g ||| 2 ^ b) : Nat) : Int) + 1 = ((mxM C (12 - d) d g : Nat) : Int)
      · have yb : bp C d g b = true := by unfold bp; rw [c.1, c.2, decide_eq_true (by omega)]; rfl
        rw [if_pos ce, inR_pos (by omega) (by omega), yb, if_pos rfl, w32_in (by omega) (by omega)]
        have n1 : (wI s1 242 d (b : Int)).1 242 d ≠ -1 := by rw [wI_at]; omega
        obtain ⟨n, rfl⟩ : ∃ g, n = g + 1 := ⟨n - 1, by omega⟩
        refine ⟨n, wI s1 242 d (b : Int), by omega, FC_trans (FC_of q2) FC_w, fun j hj => by rw [wI_f hj, h21], Or.inr ⟨b, rfl, wI_at, ?_⟩⟩
        rw [l_Mt_chooseFirst_L25_eq]
        by_cases c9 : ((b + 1 : Nat) : Int) < 9
        · rw [if_pos c9, inR_pos (by omega) (by omega), Int.toNat_natCast, if_neg n1, w32_in (x := (d : Int) + 1) (by omega) (by omega)]; rfl
        · rw [if_neg c9, w32_in (x := (d : Int) + 1) (by omega) (by omega)]; rfl
      · have nb : bp C d g b = false := by unfold bp; rw [c.1, c.2, decide_eq_false (by omega)]; rfl
        rw [if_neg ce, nb, if_neg (by decide)]
        obtain ⟨n', s', r1, r2, r3, r4⟩ := Ch_in hm hC hd hg e n (b + 1) s1 (by omega) (by omega) (by rw [h21]; exact h2) h31
        exact ⟨n', s', by omega, FC_trans (FC_of q2) r2, fun j hj => by rw [r3 j hj, h21], r4⟩
theorem Ch_out {m : Nat} (hm : 10000 ≤ m) {C : Nat → Nat} (hC : ∀ j, C j < 512) : ∀ (e n d : Nat) (s : mS), d + e = 12 → 12 * e + 1 ≤ n → (∀ i, i < 12 → s.1 243 i = (C i : Int)) →
    ∃ s', l_Mt_chooseFirst_L7 m n ((mxM C (12 - d) d (gn C d) : Nat) : Int) ((gn C d : Nat) : Int) (d : Int) s = some (0, s') ∧ FC s s' ∧ (∀ j, d ≤ j → j < 12 → s'.1 242 j = vl C j) ∧ (∀ j, j < d → s'.1 242 j = s.1 242 j)
  | 0, n, d, s, hd, hn, h3 => by
    obtain ⟨n, rfl⟩ : ∃ g, n = g + 1 := ⟨n - 1, by omega⟩
    exact ⟨s, by rw [l_Mt_chooseFirst_L7_eq, if_neg (by omega)], FC_of (FM_refl s), fun j h1 h2 => by omega, fun _ _ => rfl⟩
  | e + 1, n, d, s, hd, hn, h3 => by
    obtain ⟨n, rfl⟩ : ∃ g, n = g + 1 := ⟨n - 1, by omega⟩
    rw [l_Mt_chooseFirst_L7_eq, if_pos (by omega), inR_pos (by omega) (by omega), Int.toNat_natCast]
    obtain ⟨n', s1, r1, r2, r3, r4⟩ := Ch_in hm hC (d := d) (by omega) (gn_lt C d) 9 n 0 (wI s 242 d (-1)) (by omega) (by omega) wI_at (fun i hi => by rw [wI_ne (by decide)]; exact h3 i hi)
    rw [show ((0 : Nat) : Int) = 0 from rfl] at r4
    have ln := left_next C (d := d) (by omega) (gn C d)
    have h31 : ∀ i, i < 12 → s1.1 243 i = (C i : Int) := fun i hi => by rw [r2.1 243 (by decide) (by decide) (by decide), wI_ne (by decide)]; exact h3 i hi
    have fc1 : FC s s1 := FC_trans FC_w r2
    rcases r4 with ⟨q1, q2, q3⟩ | ⟨x, q1, q2, q3⟩
    · have eb : bx C d (gn C d) = none := q1
      have eg : gn C (d + 1) = gn C d := by rw [gn, eb]
      rw [eb] at ln
      dsimp only at ln
      obtain ⟨s2, w1, w2, w3, w4⟩ := Ch_out hm hC e n' (d + 1) s1 (by omega) (by omega) h31
      rw [eg, show 12 - (d + 1) = 11 - d from by omega, ← ln] at w1
      refine ⟨s2, by rw [q3, w1], FC_trans fc1 w2, fun j h1 h2 => ?_, fun j hj => by rw [w4 j (by omega), r3 j (by omega), wI_f (by omega)]⟩
      by_cases q : j = d
      · rw [q, w4 d (by omega), q2]; unfold vl; rw [eb]
      · exact w3 j (by omega) h2
    · have eb : bx C d (gn C d) = some x := q1
      have eg : gn C (d + 1) = gn C d ||| 2 ^ x := by rw [gn, eb]
      rw [eb] at ln
      dsimp only at ln
      obtain ⟨s2, w1, w2, w3, w4⟩ := Ch_out hm hC e n' (d + 1) s1 (by omega) (by omega) h31
      have e1 : ((mxM C (12 - d) d (gn C d) : Nat) : Int) = 1 + ((mxM C (11 - d) (d + 1) (gn C d ||| 2 ^ x) : Nat) : Int) := by rw [ln, Int.natCast_add]; rfl
      have e2 : ((mxM C (11 - d) (d + 1) (gn C d ||| 2 ^ x) : Nat) : Int) = ((mxM C (12 - d) d (gn C d) : Nat) : Int) - 1 := by rw [e1]; omega
      rw [eg, show 12 - (d + 1) = 11 - d from by omega, e2] at w1
      refine ⟨s2, by rw [q3, w1], FC_trans fc1 w2, fun j h1 h2 => ?_, fun j hj => by rw [w4 j (by omega), r3 j (by omega), wI_f (by omega)]⟩
      by_cases q : j = d
      · rw [q, w4 d (by omega), q2]; unfold vl; rw [eb]
      · exact w3 j (by omega) h2
/-- match, by the class -/
theorem C_match {m : Nat} (hm : 10000 ≤ m) {s : mS} {A : Row} (hs : SR s 17 A) (hr : VR s 4 A) (hW : WF A) : ∃ s', f_X_match m s = some (((mxM (Cm A) 12 0 0 : Nat) : Int), s') ∧ (∀ j, j < 12 → s'.1 242 j = vl (Cm A) j) ∧ (∀ c, c ≠ 241 → c ≠ 242 → c ≠ 243 → c ≠ 244 → s'.1 c = s.1 c) ∧ s'.2 = s.2 := by
  obtain ⟨s1, r1, r2, r3, r4⟩ := F_L2 (m := m) hW 12 m 0 s (by omega) (by omega) hs hr (fun j hj => by omega)
  obtain ⟨s2, q1, q2⟩ := C_most hm (fun j => Cm_lt hW.1 j) (first := 0) (gone := 0) (by omega) (by omega) (s := s1) r2
  obtain ⟨s3, w1, w2, w3, _⟩ := Ch_out hm (fun j => Cm_lt hW.1 j) 12 m 0 s2 (by omega) (by omega) (fun i hi => by rw [q2.1 243 (by decide) (by decide)]; exact r2 i hi)
  refine ⟨s3, ?_, fun j hj => w3 j (by omega) hj, fun c a1 a2 a3 a4 => by rw [w2.1 c a1 a2 a4, q2.1 c a1 a4, r3 c a3], by rw [w2.2.2, q2.2.2, r4]⟩
  rw [show ((0 : Nat) : Int) = 0 from rfl] at r1 q1 w1
  rw [f_X_match_eq, f_Mt_find_eq, r1, q1, Option.bind_some, f_Mt_chooseFirst_eq]
  rw [show ((gn (Cm A) 0 : Nat) : Int) = 0 from rfl, show gn (Cm A) 0 = 0 from rfl, show 12 - 0 = 12 from rfl] at w1
  dsimp only
  rw [w1, Option.bind_some, Option.bind_some]
