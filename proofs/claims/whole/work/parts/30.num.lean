/-! ===== numbers: Int beside Int32 and Int64 ===== -/
def can (x : Int) : Prop := -2147483648 ≤ x ∧ x < 2147483648
def canJ (x : Int) : Prop := -9223372036854775808 ≤ x ∧ x < 9223372036854775808
theorem w32_bmod (x : Int) : x.bmod 4294967296 = w32 x := by
  unfold w32; rw [Int.bmod_def]; split <;> omega
theorem w64_bmod (x : Int) : x.bmod 18446744073709551616 = w64 x := by
  unfold w64; rw [Int.bmod_def]; split <;> omega
theorem b8_bmod (x : Int) : x.bmod 256 = b8 x := by
  unfold b8; rw [Int.bmod_def]; split <;> omega
theorem can_w32 (x : Int) : can (w32 x) := by unfold can w32; omega
theorem canJ_w64 (x : Int) : canJ (w64 x) := by unfold canJ w64; omega
theorem w32_id {x : Int} (h : can x) : w32 x = x := by unfold can at h; unfold w32; omega
theorem w64_id {x : Int} (h : canJ x) : w64 x = x := by unfold canJ at h; unfold w64; omega
theorem can_J {x : Int} (h : can x) : canJ x := by unfold can at h; unfold canJ; omega
theorem i32_can (X : Int32) : can X.toInt := ⟨X.le_toInt, X.toInt_lt⟩
theorem i64_can (X : Int64) : canJ X.toInt := ⟨X.le_toInt, X.toInt_lt⟩
theorem i32_toInt (x : Int) : (Int32.ofInt x).toInt = w32 x := by rw [Int32.toInt_ofInt]; exact w32_bmod x
theorem i64_toInt (x : Int) : (Int64.ofInt x).toInt = w64 x := by rw [Int64.toInt_ofInt]; exact w64_bmod x
theorem i32_ti {x : Int} (h : can x) : (Int32.ofInt x).toInt = x := by rw [i32_toInt, w32_id h]
theorem i64_ti {x : Int} (h : canJ x) : (Int64.ofInt x).toInt = x := by rw [i64_toInt, w64_id h]
theorem i32_ext {X Y : Int32} (h : X.toInt = Y.toInt) : X = Y := Int32.toInt_inj.mp h
theorem i64_ext {X Y : Int64} (h : X.toInt = Y.toInt) : X = Y := Int64.toInt_inj.mp h
theorem i32_w (x : Int) : Int32.ofInt (w32 x) = Int32.ofInt x := i32_ext (by rw [i32_toInt, i32_toInt, w32_id (can_w32 x)])
theorem i64_w (x : Int) : Int64.ofInt (w64 x) = Int64.ofInt x := i64_ext (by rw [i64_toInt, i64_toInt, w64_id (canJ_w64 x)])
theorem i32_eq {X : Int32} {x : Int} (h : X.toInt = x) : X = Int32.ofInt x := by rw [← h, Int32.ofInt_toInt]
theorem i64_eq {X : Int64} {x : Int} (h : X.toInt = x) : X = Int64.ofInt x := by rw [← h, Int64.ofInt_toInt]
theorem i32_add (x y : Int) : Int32.ofInt x + Int32.ofInt y = Int32.ofInt (w32 (x + y)) := by rw [i32_w, Int32.ofInt_add]
theorem i32_sub (x y : Int) : Int32.ofInt x - Int32.ofInt y = Int32.ofInt (w32 (x - y)) := by rw [i32_w, Int32.ofInt_sub]
theorem i32_mul (x y : Int) : Int32.ofInt x * Int32.ofInt y = Int32.ofInt (w32 (x * y)) := by rw [i32_w, Int32.ofInt_mul]
theorem i64_add (x y : Int) : Int64.ofInt x + Int64.ofInt y = Int64.ofInt (w64 (x + y)) := by rw [i64_w, Int64.ofInt_add]
theorem i64_sub (x y : Int) : Int64.ofInt x - Int64.ofInt y = Int64.ofInt (w64 (x - y)) := by rw [i64_w, Int64.ofInt_sub]
theorem i64_mul (x y : Int) : Int64.ofInt x * Int64.ofInt y = Int64.ofInt (w64 (x * y)) := by rw [i64_w, Int64.ofInt_mul]
theorem i32_lt {x y : Int} (hx : can x) (hy : can y) : Int32.ofInt x < Int32.ofInt y ↔ x < y := by rw [Int32.lt_iff_toInt_lt, i32_ti hx, i32_ti hy]
theorem i32_le {x y : Int} (hx : can x) (hy : can y) : Int32.ofInt x ≤ Int32.ofInt y ↔ x ≤ y := by rw [Int32.le_iff_toInt_le, i32_ti hx, i32_ti hy]
theorem i32_eqq {x y : Int} (hx : can x) (hy : can y) : Int32.ofInt x = Int32.ofInt y ↔ x = y := by rw [← Int32.toInt_inj, i32_ti hx, i32_ti hy]
theorem can_0 : can 0 := by unfold can; omega
theorem i32_zero : (0 : Int32) = Int32.ofInt 0 := rfl
theorem i32_in {i : Int} {n : Nat} (hi : can i) : vp_in (Int32.ofInt i) n ↔ (0 ≤ i ∧ i < (n : Int)) := by rw [vp_in_iff, i32_ti hi]
theorem i32_clamp {i : Int} (hi : can i) : (Int32.ofInt i).toNatClampNeg = i.toNat := Int32.toNatClampNeg_ofInt_of_le hi.1 hi.2
theorem i32_div {x y : Int} (hx : can x) (hy : can y) : Int32.ofInt x / Int32.ofInt y = Int32.ofInt (w32 (Int.tdiv x y)) := by
  apply i32_ext; rw [Int32.toInt_div, i32_ti hx, i32_ti hy, i32_toInt, w32_id (can_w32 _)]; exact w32_bmod _
theorem i64_div {x y : Int} (hx : canJ x) (hy : canJ y) : Int64.ofInt x / Int64.ofInt y = Int64.ofInt (w64 (Int.tdiv x y)) := by
  apply i64_ext; rw [Int64.toInt_div, i64_ti hx, i64_ti hy, i64_toInt, w64_id (canJ_w64 _)]; exact w64_bmod _
theorem tmod_sub (x y : Int) : x - Int.tdiv x y * y = Int.tmod x y := by
  have h := Int.tmod_add_mul_tdiv x y
  have e : Int.tdiv x y * y = y * Int.tdiv x y := Int.mul_comm _ _
  rw [e]; omega
theorem i32_rem {x y : Int} (hx : can x) (hy : can y) : Int32.ofInt x - Int32.ofInt x / Int32.ofInt y * Int32.ofInt y = Int32.ofInt (Int.tmod x y) := by
  rw [i32_div hx hy, i32_w, ← Int32.ofInt_mul, ← Int32.ofInt_sub, tmod_sub]
theorem i64_rem {x y : Int} (hx : canJ x) (hy : canJ y) : Int64.ofInt x - Int64.ofInt x / Int64.ofInt y * Int64.ofInt y = Int64.ofInt (Int.tmod x y) := by
  rw [i64_div hx hy, i64_w, ← Int64.ofInt_mul, ← Int64.ofInt_sub, tmod_sub]
theorem tmod_abs (x y : Int) : (Int.tmod x y).natAbs ≤ x.natAbs := by
  rw [Int.natAbs_tmod]; exact Nat.mod_le _ _
theorem can_tmod {x y : Int} (hx : can x) : can (Int.tmod x y) := by
  have h := tmod_abs x y
  unfold can at hx ⊢
  by_cases h0 : 0 ≤ x
  · have := Int.tmod_nonneg y h0; omega
  · have h1 : x ≤ 0 := by omega
    have : Int.tmod x y ≤ 0 := by
      have h2 := Int.tmod_nonneg (a := -x) y (by omega)
      rw [Int.neg_tmod] at h2; omega
    omega
theorem canJ_tmod {x y : Int} (hx : canJ x) : canJ (Int.tmod x y) := by
  have h := tmod_abs x y
  unfold canJ at hx ⊢
  by_cases h0 : 0 ≤ x
  · have := Int.tmod_nonneg y h0; omega
  · have : Int.tmod x y ≤ 0 := by
      have h2 := Int.tmod_nonneg (a := -x) y (by omega)
      rw [Int.neg_tmod] at h2; omega
    omega
theorem i32_and (x y : Int) : Int32.ofInt x &&& Int32.ofInt y = Int32.ofInt (band x y) := i32_eq rfl
theorem i32_or (x y : Int) : Int32.ofInt x ||| Int32.ofInt y = Int32.ofInt (bor x y) := i32_eq rfl
theorem i32_xor (x y : Int) : Int32.ofInt x ^^^ Int32.ofInt y = Int32.ofInt (bxor x y) := i32_eq rfl
theorem i32_shl (x y : Int) : Int32.ofInt x <<< (Int32.ofInt y &&& 31) = Int32.ofInt (bshl x y) := i32_eq rfl
theorem i32_shr (x y : Int) : Int32.ofInt x >>> (Int32.ofInt y &&& 31) = Int32.ofInt (bshr x y) := i32_eq rfl
theorem i32_ushr (x y : Int) : ((Int32.ofInt x).toUInt32 >>> ((Int32.ofInt y).toUInt32 &&& Int32.toUInt32 31)).toInt32 = Int32.ofInt (bushr x y) := i32_eq rfl
theorem i64_and (x y : Int) : Int64.ofInt x &&& Int64.ofInt y = Int64.ofInt (lband x y) := i64_eq rfl
theorem i64_or (x y : Int) : Int64.ofInt x ||| Int64.ofInt y = Int64.ofInt (lbor x y) := i64_eq rfl
theorem i64_shl (x y : Int) : Int64.ofInt x <<< ((Int32.ofInt y).toInt64 &&& 63) = Int64.ofInt (lbshl x y) := i64_eq rfl
theorem i64_ushr (x y : Int) : ((Int64.ofInt x).toUInt64 >>> ((Int32.ofInt y).toInt64.toUInt64 &&& Int64.toUInt64 63)).toInt64 = Int64.ofInt (lbushr x y) := i64_eq rfl
theorem can_band (x y : Int) : can (band x y) := i32_can _
theorem can_bor (x y : Int) : can (bor x y) := i32_can _
theorem can_bxor (x y : Int) : can (bxor x y) := i32_can _
theorem can_bshl (x y : Int) : can (bshl x y) := i32_can _
theorem can_bshr (x y : Int) : can (bshr x y) := i32_can _
theorem can_bushr (x y : Int) : can (bushr x y) := i32_can _
theorem canJ_lband (x y : Int) : canJ (lband x y) := i64_can _
theorem canJ_lbor (x y : Int) : canJ (lbor x y) := i64_can _
theorem canJ_lbshl (x y : Int) : canJ (lbshl x y) := i64_can _
theorem canJ_lbushr (x y : Int) : canJ (lbushr x y) := i64_can _
theorem can_b8 (x : Int) : can (b8 x) := by unfold can b8; omega
theorem i32_b8 {x : Int} (hx : can x) : (Int32.ofInt x).toInt8.toInt32 = Int32.ofInt (b8 x) := by
  apply i32_eq; rw [Int8.toInt_toInt32, Int32.toInt_toInt8, i32_ti hx]; exact b8_bmod x
theorem i32_i2l {x : Int} (hx : can x) : (Int32.ofInt x).toInt64 = Int64.ofInt x := by
  apply i64_eq; rw [Int32.toInt_toInt64, i32_ti hx]
theorem i64_l2i {x : Int} (hx : canJ x) : (Int64.ofInt x).toInt32 = Int32.ofInt (w32 x) := by
  apply i32_eq; rw [Int64.toInt_toInt32, i64_ti hx]; exact w32_bmod x
theorem can_cmpL (x y : Int) : can (cmpL x y) := by unfold cmpL can; split <;> (try split) <;> omega
theorem i64_cmp {x y : Int} (hx : canJ x) (hy : canJ y) : lg_cmp (Int64.ofInt x) (Int64.ofInt y) = Int32.ofInt (cmpL x y) := by
  have h1 : (Int64.ofInt x > Int64.ofInt y) ↔ y < x := by show Int64.ofInt y < Int64.ofInt x ↔ _; rw [Int64.lt_iff_toInt_lt, i64_ti hx, i64_ti hy]
  have h2 : (Int64.ofInt x = Int64.ofInt y) ↔ x = y := by rw [← Int64.toInt_inj, i64_ti hx, i64_ti hy]
  unfold lg_cmp cmpL
  by_cases c1 : y < x
  · rw [if_pos (h1.mpr c1), if_pos c1]; rfl
  · rw [if_neg (fun h => c1 (h1.mp h)), if_neg c1]
    by_cases c2 : x = y
    · rw [if_pos (h2.mpr c2), if_pos c2]; rfl
    · rw [if_neg (fun h => c2 (h2.mp h)), if_neg c2]; rfl
theorem can_i2c (x : Int) : can (x % 65536) := by unfold can; omega
theorem i32_i2c {x : Int} (hx : can x) : ((Int32.ofInt x).toUInt32 % 65536).toInt32 = Int32.ofInt (x % 65536) := by
  have e : ((Int32.ofInt x).toUInt32).toNat = (x % 4294967296).toNat := by
    have h := i32_ti hx
    have h2 : (Int32.ofInt x).toUInt32.toNat = (Int32.ofInt x).toBitVec.toNat := rfl
    rw [h2]
    have h3 : (Int32.ofInt x).toInt = (Int32.ofInt x).toBitVec.toInt := rfl
    rw [h3, BitVec.toInt_eq_toNat_bmod] at h
    have h4 := (Int32.ofInt x).toBitVec.isLt
    rw [Int.bmod_def] at h
    unfold can at hx
    split at h <;> omega
  apply i32_eq
  have h5 : ((Int32.ofInt x).toUInt32 % 65536).toNat = (x % 4294967296).toNat % 65536 := by rw [UInt32.toNat_mod, e]; rfl
  have h6 : (((Int32.ofInt x).toUInt32 % 65536).toInt32).toInt = (((Int32.ofInt x).toUInt32 % 65536).toBitVec).toInt := rfl
  rw [h6, BitVec.toInt_eq_toNat_bmod]
  have h7 : ((Int32.ofInt x).toUInt32 % 65536).toBitVec.toNat = ((Int32.ofInt x).toUInt32 % 65536).toNat := rfl
  rw [h7, h5, Int.bmod_def]
  split <;> omega
