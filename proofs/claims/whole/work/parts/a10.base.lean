/-! ===== layer 3: the methods' answers. Base: ranges, bits, masks, wp ===== -/
theorem inR_pos {α : Type} {i : Int} {n : Nat} {x : Option α} (h0 : 0 ≤ i) (h1 : i < (n : Int)) : inR i n x = x := by unfold inR; rw [if_pos ⟨h0, h1⟩]
theorem w32_in {x : Int} (h0 : -2147483648 ≤ x) (h1 : x < 2147483648) : w32 x = x := w32_id ⟨h0, h1⟩
theorem w64_in {x : Int} (h0 : -9223372036854775808 ≤ x) (h1 : x < 9223372036854775808) : w64 x = x := w64_id ⟨h0, h1⟩
theorem wI_1 (s : mS) (c k : Nat) (v : Int) (a j : Nat) : (wI s c k v).1 a j = if a = c ∧ j = k then v else s.1 a j := rfl
theorem wI_2 (s : mS) (c k : Nat) (v : Int) : (wI s c k v).2 = s.2 := rfl
theorem wJ_2 (s : mS) (c k : Nat) (v : Int) (a j : Nat) : (wJ s c k v).2 a j = if a = c ∧ j = k then v else s.2 a j := rfl
theorem wJ_1 (s : mS) (c k : Nat) (v : Int) : (wJ s c k v).1 = s.1 := rfl
theorem cpyI_1 (s : mS) (a sp c dp n x j : Nat) : (cpyI s a sp c dp n).1 x j = if x = c ∧ dp ≤ j ∧ j < dp + n then s.1 a (sp + (j - dp)) else s.1 x j := rfl
theorem cpyI_2 (s : mS) (a sp c dp n : Nat) : (cpyI s a sp c dp n).2 = s.2 := rfl
theorem cpyJ_2 (s : mS) (a sp c dp n x j : Nat) : (cpyJ s a sp c dp n).2 x j = if x = c ∧ dp ≤ j ∧ j < dp + n then s.2 a (sp + (j - dp)) else s.2 x j := rfl
theorem cpyJ_1 (s : mS) (a sp c dp n : Nat) : (cpyJ s a sp c dp n).1 = s.1 := rfl
/-- a run's end -/
def wp (x : Option (Int × mS)) (Q : Int → mS → Prop) : Prop := ∃ r s, x = some (r, s) ∧ Q r s
theorem wp_some {r : Int} {s : mS} {Q : Int → mS → Prop} : wp (some (r, s)) Q ↔ Q r s := by
  constructor
  · rintro ⟨r', s', h, hq⟩; cases h; exact hq
  · intro h; exact ⟨r, s, rfl, h⟩
theorem wp_ite {c : Prop} [Decidable c] {a b : Option (Int × mS)} {Q : Int → mS → Prop} : wp (if c then a else b) Q ↔ (c → wp a Q) ∧ (¬ c → wp b Q) := by
  by_cases h : c
  · rw [if_pos h]; exact ⟨fun x => ⟨fun _ => x, fun hn => absurd h hn⟩, fun x => x.1 h⟩
  · rw [if_neg h]; exact ⟨fun x => ⟨fun hc => absurd hc h, fun _ => x⟩, fun x => x.2 h⟩
theorem wp_inR {i : Int} {n : Nat} {x : Option (Int × mS)} {Q : Int → mS → Prop} : wp (inR i n x) Q ↔ (0 ≤ i ∧ i < (n : Int)) ∧ wp x Q := by
  unfold inR
  by_cases h : 0 ≤ i ∧ i < (n : Int)
  · rw [if_pos h]; exact ⟨fun x => ⟨h, x⟩, fun x => x.2⟩
  · rw [if_neg h]; exact ⟨fun ⟨_, _, hh, _⟩ => (by cases hh), fun x => absurd x.1 h⟩
theorem wp_bind {x : Option (Int × mS)} {f : Int × mS → Option (Int × mS)} {Q : Int → mS → Prop} : wp (x.bind f) Q ↔ wp x (fun r s => wp (f (r, s)) Q) := by
  cases x with
  | none => exact ⟨fun ⟨_, _, hh, _⟩ => (by cases hh), fun ⟨_, _, hh, _⟩ => (by cases hh)⟩
  | some p =>
    obtain ⟨r, s⟩ := p
    show wp (f (r, s)) Q ↔ wp (some (r, s)) _
    rw [wp_some]
theorem wp_mono {x : Option (Int × mS)} {Q R : Int → mS → Prop} (h : wp x Q) (hi : ∀ r s, Q r s → R r s) : wp x R := by
  obtain ⟨r, s, hx, hq⟩ := h; exact ⟨r, s, hx, hi r s hq⟩
theorem wp_eq {x : Option (Int × mS)} {r : Int} {s : mS} {Q : Int → mS → Prop} (h : x = some (r, s)) : wp x Q ↔ Q r s := by rw [h]; exact wp_some
/-! bits -/
theorem band_nat {a b : Nat} (ha : a < 2147483648) (hb : b < 2147483648) : band (a : Int) (b : Int) = ((a &&& b : Nat) : Int) := by
  have e : (Int32.ofInt (a : Int) &&& Int32.ofInt (b : Int)) = Int32.ofInt ((a &&& b : Nat) : Int) := by
    apply Int32.toBitVec_inj.mp
    rw [Int32.toBitVec_and, Int32.toBitVec_ofInt, Int32.toBitVec_ofInt, Int32.toBitVec_ofInt, BitVec.ofInt_natCast, BitVec.ofInt_natCast, BitVec.ofInt_natCast]
    exact BitVec.ofNat_and.symm
  have hl : (a &&& b) ≤ a := Nat.and_le_left
  unfold band
  rw [e, i32_ti (by unfold can; omega)]
theorem bor_nat {a b : Nat} (ha : a < 2147483648) (hb : b < 2147483648) : bor (a : Int) (b : Int) = ((a ||| b : Nat) : Int) := by
  have e : (Int32.ofInt (a : Int) ||| Int32.ofInt (b : Int)) = Int32.ofInt ((a ||| b : Nat) : Int) := by
    apply Int32.toBitVec_inj.mp
    rw [Int32.toBitVec_or, Int32.toBitVec_ofInt, Int32.toBitVec_ofInt, Int32.toBitVec_ofInt, BitVec.ofInt_natCast, BitVec.ofInt_natCast, BitVec.ofInt_natCast]
    exact BitVec.ofNat_or.symm
  have hl : (a ||| b) < 2 ^ 31 := Nat.or_lt_two_pow (by omega) (by omega)
  unfold bor
  rw [e, i32_ti (by unfold can; omega)]
theorem bxor_nat {a b : Nat} (ha : a < 2147483648) (hb : b < 2147483648) : bxor (a : Int) (b : Int) = ((a ^^^ b : Nat) : Int) := by
  have e : (Int32.ofInt (a : Int) ^^^ Int32.ofInt (b : Int)) = Int32.ofInt ((a ^^^ b : Nat) : Int) := by
    apply Int32.toBitVec_inj.mp
    rw [Int32.toBitVec_xor, Int32.toBitVec_ofInt, Int32.toBitVec_ofInt, Int32.toBitVec_ofInt, BitVec.ofInt_natCast, BitVec.ofInt_natCast, BitVec.ofInt_natCast]
    exact BitVec.ofNat_xor.symm
  have hl : (a ^^^ b) < 2 ^ 31 := Nat.xor_lt_two_pow (by omega) (by omega)
  unfold bxor
  rw [e, i32_ti (by unfold can; omega)]
theorem bshl_nat {k : Nat} (hk : k < 31) : bshl 1 (k : Int) = ((2 ^ k : Nat) : Int) := by
  have : ∀ k : Nat, k < 31 → bshl 1 (k : Int) = ((2 ^ k : Nat) : Int) := by decide +kernel
  exact this k hk
theorem bshr_nat {a k : Nat} (ha : a < 2147483648) (hk : k < 32) : bshr (a : Int) (k : Int) = ((a / 2 ^ k : Nat) : Int) := by
  have hs : ((Int32.ofInt (k : Int) &&& 31).toBitVec.smod 32).toNat = k := by
    have : ∀ k : Nat, k < 32 → ((Int32.ofInt (k : Int) &&& 31).toBitVec.smod 32).toNat = k := by decide +kernel
    exact this k hk
  unfold bshr
  rw [pk_shr _ _ k hs, i32_ti (by unfold can; omega), Int.shiftRight_eq_div_pow]
  rfl
theorem bit_nat {a k : Nat} (ha : a < 2147483648) (hk : k < 32) : band (bshr (a : Int) (k : Int)) 1 = if a.testBit k then 1 else 0 := by
  rw [bshr_nat ha hk]
  have h1 : a / 2 ^ k ≤ a := Nat.div_le_self _ _
  have := band_nat (a := a / 2 ^ k) (b := 1) (by omega) (by omega)
  rw [show ((1 : Nat) : Int) = 1 from rfl] at this
  rw [this, Nat.and_one_is_mod, Nat.testBit_eq_decide_div_mod_eq]
  rcases Nat.mod_two_eq_zero_or_one (a / 2 ^ k) with h | h <;> rw [h] <;> rfl
theorem band255 {y : Int} (hy : can y) : band y 255 = y % 256 := by
  have e1 : ((Int32.ofInt y).toBitVec.toNat : Int) = y % 4294967296 := by
    rw [Int32.toBitVec_ofInt, BitVec.toNat_ofInt]
    rw [Int.toNat_of_nonneg]
    · rfl
    · exact Int.emod_nonneg _ (by decide)
  have e2 : (Int32.ofInt y &&& Int32.ofInt 255).toBitVec.toNat = (Int32.ofInt y).toBitVec.toNat % 256 := by
    rw [Int32.toBitVec_and, BitVec.toNat_and]
    have : (Int32.ofInt 255).toBitVec.toNat = 2 ^ 8 - 1 := by decide
    rw [this, Nat.and_two_pow_sub_one_eq_mod]
  unfold band
  show (Int32.ofInt y &&& Int32.ofInt 255).toBitVec.toInt = _
  rw [BitVec.toInt_eq_toNat_of_lt, e2]
  · omega
  · rw [e2]; omega
theorem b8_mod (x : Int) : b8 x % 256 = x % 256 := by unfold b8; omega
theorem bushr_nn {x : Int} {k : Nat} (hk : 0 < k) (hk2 : k < 32) : 0 ≤ bushr x (k : Int) ∧ bushr x (k : Int) < 2147483648 := by
  have hs : (((Int32.ofInt (k : Int)).toUInt32 &&& Int32.toUInt32 31).toBitVec % 32).toNat = k := by
    have : ∀ k : Nat, k < 32 → (((Int32.ofInt (k : Int)).toUInt32 &&& Int32.toUInt32 31).toBitVec % 32).toNat = k := by decide +kernel
    exact this k hk2
  have h := pk_ushr (Int32.ofInt x) (Int32.ofInt (k : Int)) k hs
  have hlt := (Int32.ofInt x).toBitVec.isLt
  have hd : (Int32.ofInt x).toBitVec.toNat / 2 ^ k < 2147483648 := by
    have h2 : 2 ^ 1 ≤ 2 ^ k := Nat.pow_le_pow_right (by omega) hk
    apply Nat.div_lt_of_lt_mul
    calc (Int32.ofInt x).toBitVec.toNat < 2 ^ 1 * 2147483648 := by omega
      _ ≤ 2 ^ k * 2147483648 := Nat.mul_le_mul_right _ h2
  unfold bushr
  have h3 : ((((Int32.ofInt x).toUInt32 >>> ((Int32.ofInt (k : Int)).toUInt32 &&& Int32.toUInt32 31)).toInt32).toInt) = ((((Int32.ofInt x).toUInt32 >>> ((Int32.ofInt (k : Int)).toUInt32 &&& Int32.toUInt32 31)).toInt32).toBitVec.toInt) := rfl
  rw [h3, BitVec.toInt_eq_toNat_of_lt (by rw [h]; omega), h]
  omega
/-- a mask: its bits below n -/
def mk (p : Nat → Bool) : Nat → Nat
  | 0 => 0
  | n + 1 => mk p n ||| (if p n then 2 ^ n else 0)
theorem mk_bit (p : Nat → Bool) (n i : Nat) : (mk p n).testBit i = (decide (i < n) && p i) := by
  induction n with
  | zero => simp [mk]
  | succ n ih =>
    simp only [mk, Nat.testBit_or, ih]
    by_cases hp : p n
    · rw [if_pos hp, Nat.testBit_two_pow]
      by_cases h1 : i < n
      · have h2 : ¬ n = i := by omega
        simp [h1, h2, Nat.lt_succ_of_lt h1]
      · by_cases h2 : n = i
        · subst h2; simp [hp]
        · have h3 : ¬ i < n + 1 := by omega
          simp [h1, h2, h3]
    · rw [if_neg hp, Nat.zero_testBit]
      by_cases h1 : i < n
      · simp [h1, Nat.lt_succ_of_lt h1]
      · by_cases h2 : n = i
        · subst h2; simp [hp]
        · have h3 : ¬ i < n + 1 := by omega
          simp [h1, h3]
theorem mk_lt (p : Nat → Bool) (n : Nat) : mk p n < 2 ^ n := by
  induction n with
  | zero => simp [mk]
  | succ n ih =>
    simp only [mk]
    have h2 : (2 : Nat) ^ n < 2 ^ (n + 1) := Nat.pow_lt_pow_right (by omega) (by omega)
    have h0 : 0 < (2 : Nat) ^ (n + 1) := Nat.pow_pos (by omega)
    apply Nat.or_lt_two_pow (by omega)
    split <;> omega
theorem mk_congr {p q : Nat → Bool} {n : Nat} (h : ∀ i, i < n → p i = q i) : mk p n = mk q n := by
  apply Nat.eq_of_testBit_eq
  intro i
  rw [mk_bit, mk_bit]
  by_cases hi : i < n
  · rw [h i hi]
  · simp [hi]
theorem pow31 {n : Nat} (h : n < 31) : (2 : Nat) ^ n < 2147483648 := by
  have : (2 : Nat) ^ n ≤ 2 ^ 30 := Nat.pow_le_pow_right (by omega) (by omega)
  omega
theorem mk_small {p : Nat → Bool} {n : Nat} (h : n < 31) : mk p n < 2147483648 := Nat.lt_trans (mk_lt p n) (pow31 h)
theorem mk_step {p : Nat → Bool} {n : Nat} (h : n < 31) (hp : p n = true) : bor (mk p n : Nat) (bshl 1 (n : Int)) = ((mk p (n + 1) : Nat) : Int) := by
  rw [bshl_nat h, bor_nat (mk_small h) (pow31 h)]
  simp [mk, hp]
theorem mk_skip {p : Nat → Bool} {n : Nat} (hp : p n = false) : mk p n = mk p (n + 1) := by simp [mk, hp]
