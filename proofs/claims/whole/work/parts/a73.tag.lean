/-! ===== written by gen_a73.py: tag (1) ===== -/
def pushT (s : mS) (v : Int) : mS := wI (wI s 247 (s.1 0 17).toNat v) 0 17 (s.1 0 17 + 1)
def pushW (s : mS) (v : Int) : mS := wI (wI s 265 (s.1 249 35).toNat v) 249 35 (s.1 249 35 + 1)
theorem pushT_len (s : mS) (v : Int) : (pushT s v).1 0 17 = s.1 0 17 + 1 := wI_at
theorem pushW_len (s : mS) (v : Int) : (pushW s v).1 249 35 = s.1 249 35 + 1 := wI_at
theorem pushW_all : ∀ (vs : List Int) (s : mS), 0 ≤ s.1 249 35 → (vs.foldl pushW s).1 249 35 = s.1 249 35 + vs.length ∧ (vs.foldl pushW s).2 = s.2 ∧ (∀ c, c ≠ 249 → c ≠ 265 → (vs.foldl pushW s).1 c = s.1 c) ∧ (∀ k, k ≠ 35 → (vs.foldl pushW s).1 249 k = s.1 249 k) ∧
    (∀ q : Nat, (vs.foldl pushW s).1 265 q = if (s.1 249 35).toNat ≤ q ∧ q < (s.1 249 35).toNat + vs.length then vs.getD (q - (s.1 249 35).toNat) 0 else s.1 265 q)
  | [], s, h => ⟨by simp, rfl, fun _ _ _ => rfl, fun _ _ => rfl, fun q => by rw [if_neg (by simp)]; rfl⟩
  | v :: vs, s, h => by
    have hl := pushW_len s v
    obtain ⟨a1, a2, a3, a5, a4⟩ := pushW_all vs (pushW s v) (by omega)
    have e2 : ∀ c, c ≠ 249 → c ≠ 265 → (pushW s v).1 c = s.1 c := by intro c h1 h2; unfold pushW; rw [wI_ne h1, wI_ne h2]
    have e3 : ∀ k, k ≠ 35 → (pushW s v).1 249 k = s.1 249 k := by intro k hk; unfold pushW; rw [wI_f hk, wI_ne (by decide)]
    refine ⟨?_, a2, fun c h1 h2 => by rw [List.foldl_cons, a3 c h1 h2, e2 c h1 h2], fun k hk => by rw [List.foldl_cons, a5 k hk, e3 k hk], fun q => ?_⟩
    · rw [List.foldl_cons, a1, hl]; simp only [List.length_cons]; omega
    · have e4 : (pushW s v).1 265 q = if q = (s.1 249 35).toNat then v else s.1 265 q := by
        unfold pushW; rw [wI_ne (by decide), wI_1]; by_cases hq : q = (s.1 249 35).toNat
        · rw [if_pos ⟨rfl, hq⟩, if_pos hq]
        · rw [if_neg (fun h => hq h.2), if_neg hq]
      have e5 : (s.1 249 35 + 1).toNat = (s.1 249 35).toNat + 1 := by omega
      rw [List.foldl_cons, a4 q, hl, e4, e5]
      simp only [List.length_cons]
      by_cases hq : q = (s.1 249 35).toNat
      · rw [if_neg (by omega), if_pos hq, if_pos (by omega), hq, Nat.sub_self]; rfl
      · by_cases hr : (s.1 249 35).toNat + 1 ≤ q ∧ q < (s.1 249 35).toNat + 1 + vs.length
        · rw [if_pos hr, if_pos (by omega), show q - (s.1 249 35).toNat = (q - ((s.1 249 35).toNat + 1)) + 1 from by omega]; rfl
        · rw [if_neg hr, if_neg hq, if_neg (by omega)]

theorem pushT_all : ∀ (vs : List Int) (s : mS), 0 ≤ s.1 0 17 → (vs.foldl pushT s).1 0 17 = s.1 0 17 + vs.length ∧ (vs.foldl pushT s).2 = s.2 ∧ (∀ c, c ≠ 0 → c ≠ 247 → (vs.foldl pushT s).1 c = s.1 c) ∧ (∀ k, k ≠ 17 → (vs.foldl pushT s).1 0 k = s.1 0 k) ∧
    (∀ q : Nat, (vs.foldl pushT s).1 247 q = if (s.1 0 17).toNat ≤ q ∧ q < (s.1 0 17).toNat + vs.length then vs.getD (q - (s.1 0 17).toNat) 0 else s.1 247 q)
  | [], s, h => ⟨by simp, rfl, fun _ _ _ => rfl, fun _ _ => rfl, fun q => by rw [if_neg (by simp)]; rfl⟩
  | v :: vs, s, h => by
    have hl := pushT_len s v
    obtain ⟨a1, a2, a3, a5, a4⟩ := pushT_all vs (pushT s v) (by omega)
    have e2 : ∀ c, c ≠ 0 → c ≠ 247 → (pushT s v).1 c = s.1 c := by intro c h1 h2; unfold pushT; rw [wI_ne h1, wI_ne h2]
    have e3 : ∀ k, k ≠ 17 → (pushT s v).1 0 k = s.1 0 k := by intro k hk; unfold pushT; rw [wI_f hk, wI_ne (by decide)]
    refine ⟨?_, a2, fun c h1 h2 => by rw [List.foldl_cons, a3 c h1 h2, e2 c h1 h2], fun k hk => by rw [List.foldl_cons, a5 k hk, e3 k hk], fun q => ?_⟩
    · rw [List.foldl_cons, a1, hl]; simp only [List.length_cons]; omega
    · have e4 : (pushT s v).1 247 q = if q = (s.1 0 17).toNat then v else s.1 247 q := by
        unfold pushT; rw [wI_ne (by decide), wI_1]; by_cases hq : q = (s.1 0 17).toNat
        · rw [if_pos ⟨rfl, hq⟩, if_pos hq]
        · rw [if_neg (fun h => hq h.2), if_neg hq]
      have e5 : (s.1 0 17 + 1).toNat = (s.1 0 17).toNat + 1 := by omega
      rw [List.foldl_cons, a4 q, hl, e4, e5]
      simp only [List.length_cons]
      by_cases hq : q = (s.1 0 17).toNat
      · rw [if_neg (by omega), if_pos hq, if_pos (by omega), hq, Nat.sub_self]; rfl
      · by_cases hr : (s.1 0 17).toNat + 1 ≤ q ∧ q < (s.1 0 17).toNat + 1 + vs.length
        · rw [if_pos hr, if_pos (by omega), show q - (s.1 0 17).toNat = (q - ((s.1 0 17).toNat + 1)) + 1 from by omega]; rfl
        · rw [if_neg hr, if_neg hq, if_neg (by omega)]

theorem lbushr_nat {n k : Nat} (hn : n < 9223372036854775808) (hk : k < 64) : lbushr (n : Int) (k : Int) = ((n / 2 ^ k : Nat) : Int) := by
  have e1 : ((Int32.ofInt (k : Int)).toInt64.toUInt64 &&& Int64.toUInt64 63).toNat % 64 = k := by
    have : ∀ k : Nat, k < 64 → ((Int32.ofInt (k : Int)).toInt64.toUInt64 &&& Int64.toUInt64 63).toNat % 64 = k := by decide +kernel
    exact this k hk
  have e2 : (Int64.ofInt (n : Int)).toUInt64.toNat = n := by
    show (Int64.ofInt (n : Int)).toBitVec.toNat = n
    rw [Int64.toBitVec_ofInt, BitVec.ofInt_natCast, BitVec.toNat_ofNat, Nat.mod_eq_of_lt (by omega)]
  have e3 : ((Int64.ofInt (n : Int)).toUInt64 >>> ((Int32.ofInt (k : Int)).toInt64.toUInt64 &&& Int64.toUInt64 63)).toNat = n / 2 ^ k := by
    rw [UInt64.toNat_shiftRight, e1, e2, Nat.shiftRight_eq_div_pow]
  have l : n / 2 ^ k ≤ n := Nat.div_le_self _ _
  unfold lbushr
  generalize (Int64.ofInt (n : Int)).toUInt64 >>> ((Int32.ofInt (k : Int)).toInt64.toUInt64 &&& Int64.toUInt64 63) = u at e3
  show u.toBitVec.toInt = _
  have e4 : u.toBitVec.toNat = n / 2 ^ k := e3
  rw [BitVec.toInt_eq_toNat_of_lt (by omega), e4]
theorem lband_nat {a b : Nat} (ha : a < 9223372036854775808) (hb : b < 9223372036854775808) : lband (a : Int) (b : Int) = ((a &&& b : Nat) : Int) := by
  have e : (Int64.ofInt (a : Int) &&& Int64.ofInt (b : Int)) = Int64.ofInt ((a &&& b : Nat) : Int) := by
    apply Int64.toBitVec_inj.mp
    rw [Int64.toBitVec_and, Int64.toBitVec_ofInt, Int64.toBitVec_ofInt, Int64.toBitVec_ofInt, BitVec.ofInt_natCast, BitVec.ofInt_natCast, BitVec.ofInt_natCast]
    exact BitVec.ofNat_and.symm
  have hl : (a &&& b) ≤ a := Nat.and_le_left
  unfold lband
  rw [e, i64_ti (by unfold canJ; omega)]
theorem E256_snoc (ws : List Nat) (l : Nat) : E256 (ws ++ [l]) = E256 ws * 256 + (96 + l) := by unfold E256; rw [List.foldl_append]; rfl
theorem E27_snoc (ws : List Nat) (l : Nat) : E27 (ws ++ [l]) = E27 ws * 27 + l := by unfold E27; rw [List.foldl_append]; rfl
theorem E256_app : ∀ (b a : List Nat), (∀ l ∈ b, l ≤ 26) → E256 (a ++ b) / 256 ^ b.length = E256 a
  | [], a, _ => by simp
  | l :: b, a, h => by
    have e : a ++ l :: b = (a ++ [l]) ++ b := by simp
    have hl := h l List.mem_cons_self
    rw [e, List.length_cons, Nat.pow_succ, ← Nat.div_div_eq_div_mul, E256_app b (a ++ [l]) (fun x hx => h x (List.mem_cons_of_mem _ hx)), E256_snoc]
    omega
theorem E256_lt : ∀ (n : Nat) (ws : List Nat), ws.length = n → (∀ l ∈ ws, l ≤ 26) → E256 ws < 256 ^ n
  | 0, ws, hn, h => by
    have : ws = [] := List.length_eq_zero_iff.mp hn
    subst this; decide
  | n + 1, ws, hn, h => by
    have hne : ws ≠ [] := by intro e; subst e; simp at hn
    have e := List.dropLast_concat_getLast hne
    have hl : (ws.dropLast).length = n := by rw [List.length_dropLast, hn]; rfl
    have ih := E256_lt n ws.dropLast hl (fun x hx => h x (List.dropLast_subset _ hx))
    have l26 := h _ (List.getLast_mem hne)
    rw [← e, E256_snoc, Nat.pow_succ]
    omega
theorem E256_small {ws : List Nat} (h : WW ws) : E256 ws < 72057594037927936 := by
  have q := E256_lt ws.length ws rfl (fun l hl => (h.2.2 l hl).2)
  have p : 256 ^ ws.length ≤ 256 ^ 7 := Nat.pow_le_pow_right (by omega) h.2.1
  omega
theorem C_tagByte {s : mS} (m : Nat) {v : Int} (h0 : 0 ≤ s.1 0 17) (h1 : s.1 0 17 < 32) (v0 : 0 ≤ v) (v1 : v < 128) : f_X_tagByte m v s = some (0, pushT s v) := by
  have e : (wI s 247 (s.1 0 17).toNat v).1 0 17 = s.1 0 17 := by rw [wI_ne (by decide)]
  have eb : b8 (b8 v) = v := by unfold b8; omega
  rw [f_X_tagByte_eq, if_pos h1, inR_pos h0 (by omega), eb, e, w32_in (by omega) (by omega)]; rfl
/-- one step along a name -/
theorem C_nameS {s : mS} (m n : Nat) {N j : Nat} (hN : N < 72057594037927936) (hj : j < 7) : l_X_tagName_L3 m (n + 1) (N : Int) ((8 * j : Nat) : Int) s = if N / 256 ^ j % 256 = 0 then l_X_tagName_L3 m n (N : Int) ((8 * j : Nat) - 8 : Int) s else ((f_X_tagByte m ((N / 256 ^ j % 256 : Nat) : Int) s).bind fun p0 => l_X_tagName_L3 m n (N : Int) ((8 * j : Nat) - 8 : Int) p0.2) := by
  have ep : 2 ^ (8 * j) = 256 ^ j := by rw [Nat.pow_mul]
  have l : N / 256 ^ j ≤ N := Nat.div_le_self _ _
  have e255 : N / 256 ^ j &&& 255 = N / 256 ^ j % 256 := Nat.and_two_pow_sub_one_eq_mod _ 8
  have ev : w32 (lband (lbushr (N : Int) ((8 * j : Nat) : Int)) 255) = ((N / 256 ^ j % 256 : Nat) : Int) := by
    rw [lbushr_nat (by omega) (by omega), ep, show (255 : Int) = ((255 : Nat) : Int) from rfl, lband_nat (by omega) (by omega), e255, w32_in (by omega) (by omega)]
  have e8 : w32 (((8 * j : Nat) : Int) + (-8)) = ((8 * j : Nat) - 8 : Int) := by clear ev; rw [w32_in (by omega) (by omega)]; rfl
  have ge : ¬ ((8 * j : Nat) : Int) < 0 := by clear ev e8; omega
  rw [l_X_tagName_L3_eq, if_neg ge, ev, e8]
  by_cases c : N / 256 ^ j % 256 = 0
  · have c' : ((N / 256 ^ j % 256 : Nat) : Int) = 0 := by clear ev e8; omega
    rw [if_pos c', if_pos c]
  · have c' : ¬ ((N / 256 ^ j % 256 : Nat) : Int) = 0 := by clear ev e8; omega
    rw [if_neg c', if_neg c]
def lets (ws : List Nat) : List Int := ws.map (fun l => ((96 + l : Nat) : Int))
theorem C_nameT (m : Nat) : ∀ (suf pre : List Nat) (n : Nat) (s : mS), (∀ l ∈ suf, 1 ≤ l ∧ l ≤ 26) → E256 (pre ++ suf) < 72057594037927936 → suf.length ≤ 7 → suf.length < n → 0 ≤ s.1 0 17 → s.1 0 17 + suf.length ≤ 32 →
    l_X_tagName_L3 m n ((E256 (pre ++ suf) : Nat) : Int) ((8 * suf.length : Nat) - 8 : Int) s = some (0, (lets suf).foldl pushT s)
  | [], pre, n, s, _, _, _, hn, _, _ => by
    obtain ⟨n, rfl⟩ : ∃ n', n = n' + 1 := ⟨n - 1, by omega⟩
    rw [l_X_tagName_L3_eq, if_pos (by simp)]; rfl
  | l :: rest, pre, n, s, hl, hN, h7, hn, h0, h32 => by
    obtain ⟨n, rfl⟩ : ∃ n', n = n' + 1 := ⟨n - 1, by omega⟩
    have e : pre ++ l :: rest = (pre ++ [l]) ++ rest := by simp
    have l26 := hl l List.mem_cons_self
    have hr : ∀ x ∈ rest, 1 ≤ x ∧ x ≤ 26 := fun x hx => hl x (List.mem_cons_of_mem _ hx)
    have ih := C_nameT m rest (pre ++ [l]) n (pushT s ((96 + l : Nat) : Int)) hr (by rw [← e]; exact hN) (by simp at h7; omega) (by simp at hn; omega) (by rw [pushT_len]; omega) (by rw [pushT_len]; simp at h32; omega)
    have dv := E256_app rest (pre ++ [l]) (fun x hx => (hr x hx).2)
    rw [E256_snoc] at dv
    have dm : E256 (pre ++ l :: rest) / 256 ^ rest.length % 256 = 96 + l := by rw [e, dv]; omega
    have es : ((8 * (l :: rest).length : Nat) - 8 : Int) = ((8 * rest.length : Nat) : Int) := by rw [List.length_cons]; omega
    have hj : rest.length < 7 := by simp at h7; omega
    have hL : s.1 0 17 < 32 := by simp at h32; omega
    rw [es, C_nameS m n hN hj, dm, if_neg (by omega), C_tagByte m h0 hL (by omega) (by omega), Option.bind_some, e, ih]
    rfl
theorem C_nameZ (m : Nat) {ws : List Nat} (h : WW ws) (s : mS) : ∀ (k n : Nat), ws.length + k ≤ 7 → l_X_tagName_L3 m (n + k) ((E256 ws : Nat) : Int) ((8 * (ws.length + k) : Nat) - 8 : Int) s = l_X_tagName_L3 m n ((E256 ws : Nat) : Int) ((8 * ws.length : Nat) - 8 : Int) s
  | 0, n, _ => rfl
  | k + 1, n, hk => by
    have es : ((8 * (ws.length + (k + 1)) : Nat) - 8 : Int) = ((8 * (ws.length + k) : Nat) : Int) := by omega
    have z : E256 ws / 256 ^ (ws.length + k) = 0 := by
      apply Nat.div_eq_of_lt
      have q := E256_lt ws.length ws rfl (fun l hl => (h.2.2 l hl).2)
      exact Nat.lt_of_lt_of_le q (Nat.pow_le_pow_right (by omega) (by omega))
    rw [es, show n + (k + 1) = (n + k) + 1 from rfl, C_nameS m (n + k) (E256_small h) (by omega), z, if_pos (by rfl)]
    exact C_nameZ m h s k n (by omega)
theorem C_name {m : Nat} (hm : 1000 ≤ m) {ws : List Nat} (h : WW ws) {s : mS} (h0 : 0 ≤ s.1 0 17) (h1 : s.1 0 17 ≤ 20) : f_X_tagName m ((E256 ws : Nat) : Int) s = some (0, (lets ws).foldl pushT s) := by
  have h7 := h.2.1
  have z := C_nameZ m h s (7 - ws.length) (m - (7 - ws.length)) (by omega)
  rw [show ws.length + (7 - ws.length) = 7 from by omega, show m - (7 - ws.length) + (7 - ws.length) = m from by omega, show ((8 * 7 : Nat) - 8 : Int) = 48 from rfl] at z
  have t := C_nameT m ws [] (m - (7 - ws.length)) s (fun l hl => h.2.2 l hl) (by rw [List.nil_append]; exact E256_small h) h7 (by omega) h0 (by omega)
  rw [List.nil_append] at t
  rw [f_X_tagName_eq, z, t]
theorem R_write {s : mS} (m : Nat) (v : Int) (h0 : 0 ≤ s.1 249 35) (h1 : s.1 249 35 < 48) : f_R_write m v s = some (0, pushW s v) := by
  have e : (wI s 265 (s.1 249 35).toNat v).1 249 35 = s.1 249 35 := by rw [wI_ne (by decide)]
  rw [f_R_write_eq, inR_pos h0 (by omega), e, w32_in (by omega) (by omega)]; rfl
theorem E27_pos : ∀ (ws : List Nat), ws ≠ [] → (∀ l ∈ ws, 1 ≤ l ∧ l ≤ 26) → 1 ≤ E27 ws := by
  intro ws hne h
  have e := List.dropLast_concat_getLast hne
  have l26 := h _ (List.getLast_mem hne)
  rw [← e, E27_snoc]; omega
theorem E27_lt : ∀ (n : Nat) (ws : List Nat), ws.length = n → (∀ l ∈ ws, l ≤ 26) → E27 ws < 27 ^ n
  | 0, ws, hn, h => by
    have : ws = [] := List.length_eq_zero_iff.mp hn
    subst this; decide
  | n + 1, ws, hn, h => by
    have hne : ws ≠ [] := by intro e; subst e; simp at hn
    have e := List.dropLast_concat_getLast hne
    have hl : (ws.dropLast).length = n := by rw [List.length_dropLast, hn]; rfl
    have ih := E27_lt n ws.dropLast hl (fun x hx => h x (List.dropLast_subset _ hx))
    have l26 := h _ (List.getLast_mem hne)
    rw [← e, E27_snoc, Nat.pow_succ]
    omega
theorem lets_snoc (ws : List Nat) (l : Nat) : lets (ws ++ [l]) = lets ws ++ [((96 + l : Nat) : Int)] := by unfold lets; simp
theorem R_word (m : Nat) : ∀ (k : Nat) (ws : List Nat) (d : Nat) (s : mS), ws.length = k + 1 → k + 1 ≤ 7 → k ≤ d → (∀ l ∈ ws, 1 ≤ l ∧ l ≤ 26) → 0 ≤ s.1 249 35 → s.1 249 35 + (k + 1) ≤ 48 →
    f_R_writeWord m (d + 1) ((E27 ws : Nat) : Int) s = some (0, (lets ws).foldl pushW s)
  | k, ws, d, s, hk, h7, hd, h, h0, h48 => by
    have hne : ws ≠ [] := by intro e; subst e; simp at hk
    have e := List.dropLast_concat_getLast hne
    have l26 := h _ (List.getLast_mem hne)
    have hlen : (ws.dropLast).length = k := by rw [List.length_dropLast, hk]; rfl
    have hs' : ∀ x ∈ ws.dropLast, 1 ≤ x ∧ x ≤ 26 := fun x hx => h x (List.dropLast_subset _ hx)
    generalize ws.getLast hne = l at e l26
    generalize hp : ws.dropLast = pre at e hlen hs'
    rw [← e]
    have lt := E27_lt k pre hlen (fun x hx => (hs' x hx).2)
    have lp : 27 ^ k ≤ 27 ^ 6 := Nat.pow_le_pow_right (by omega) (by omega)
    have E : ((E27 (pre ++ [l]) : Nat) : Int) = (E27 pre : Int) * 27 + (l : Int) := by rw [E27_snoc]; omega
    have md : Int.tmod ((E27 (pre ++ [l]) : Nat) : Int) 27 = (l : Int) := by
      rw [Int.tmod_eq_emod_of_nonneg (by omega), E]; omega
    have dv : Int.tdiv ((E27 (pre ++ [l]) : Nat) : Int) 27 = ((E27 pre : Nat) : Int) := by
      rw [Int.tdiv_eq_ediv_of_nonneg (by omega), E]; omega
    have wl : w32 (l : Int) = (l : Int) := w32_in (by omega) (by omega)
    have w96 : w32 (96 + (l : Int)) = ((96 + l : Nat) : Int) := by clear wl; rw [w32_in (by omega) (by omega)]; omega
    rw [f_R_writeWord_eq, md, dv, wl, w96]
    match k, hk, h7, hd, hlen, lt, lp, h48 with
    | 0, hk, h7, hd, hlen, lt, lp, h48 =>
      have : pre = [] := List.length_eq_zero_iff.mp hlen
      subst this
      have c : cmpL ((E27 ([] ++ [l]) : Nat) : Int) 27 < 0 := by
        have : ((E27 ([] ++ [l]) : Nat) : Int) = (l : Int) := by rw [E, show E27 [] = 0 from rfl]; clear wl w96; omega
        rw [this]; unfold cmpL; clear wl w96; rw [if_neg (by omega), if_neg (by omega)]; omega
      rw [if_pos c, R_write m _ h0 (by clear wl w96; omega)]; rfl
    | k + 1, hk, h7, hd, hlen, lt, lp, h48 =>
      have hpn : pre ≠ [] := by intro e; subst e; simp at hlen
      have ps := E27_pos pre hpn hs'
      have c : ¬ cmpL ((E27 (pre ++ [l]) : Nat) : Int) 27 < 0 := by
        rw [E]; unfold cmpL; clear wl w96
        by_cases c1 : (27 : Int) < (E27 pre : Int) * 27 + (l : Int)
        · rw [if_pos c1]; omega
        · rw [if_neg c1]; omega
      have wE : w64 ((E27 pre : Nat) : Int) = ((E27 pre : Nat) : Int) := by clear wl w96; exact w64_in (by omega) (by omega)
      obtain ⟨d', rfl⟩ : ∃ d', d = d' + 1 := ⟨d - 1, by clear wl w96 wE; omega⟩
      have j1 : k + 1 ≤ 7 := by clear wl w96 wE; omega
      have j2 : k ≤ d' := by clear wl w96 wE; omega
      have j3 : s.1 249 35 + ((k : Int) + 1) ≤ 48 := by clear wl w96 wE; omega
      have ih := R_word m k pre d' s hlen j1 j2 hs' h0 j3
      have all := pushW_all (lets pre) s h0
      have ll : ((lets pre).length : Int) = (k : Int) + 1 := by unfold lets; rw [List.length_map, hlen]; rfl
      have j4 : 0 ≤ ((lets pre).foldl pushW s).1 249 35 := by rw [all.1]; clear wl w96 wE; omega
      have j5 : ((lets pre).foldl pushW s).1 249 35 < 48 := by rw [all.1]; clear wl w96 wE; omega
      rw [if_neg c, wE, ih, Option.bind_some, R_write m _ j4 j5, Option.bind_some, lets_snoc, List.foldl_append]; rfl

