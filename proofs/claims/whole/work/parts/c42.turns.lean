/-! ===== written by gen_c42.py: do not edit ===== -/
def envL7 (m : Nat) : Nat → List mV → mS → Option (Int × mS) := fun j as s => (bsel (Nat.beq j 148) (zF_148 Z0 m as s) (bsel (Nat.beq j 300) (zF_300 Z0 m as s) (bsel (Nat.beq j 153) (zF_153 Z0 m as s) (bsel (Nat.beq j 302) (zF_302 Z0 m as s) (bsel (Nat.beq j 155) (zF_155 Z0 m as s) (bsel (Nat.beq j 303) (zF_303 Z0 m as s) (bsel (Nat.beq j 156) (zF_156 Z0 m as s) (bsel (Nat.beq j 304) (zF_304 Z0 m as s) ((fun _ _ _ => none : Nat → List mV → mS → Option (Int × mS)) j as s)))))))))
def envL6 (m : Nat) : Nat → List mV → mS → Option (Int × mS) := fun j as s => (bsel (Nat.beq j 122) (zF_122 Z0 m as s) (bsel (Nat.beq j 273) (zF_273 Z0 m as s) (bsel (Nat.beq j 126) (zF_126 Z0 m as s) (bsel (Nat.beq j 279) (zF_279 Z0 m as s) (bsel (Nat.beq j 127) (zF_127 Z0 m as s) (bsel (Nat.beq j 280) (zF_280 Z0 m as s) (bsel (Nat.beq j 136) (zF_136 Z0 m as s) (bsel (Nat.beq j 289) (zF_289 Z0 m as s) (bsel (Nat.beq j 137) (zF_137 Z0 m as s) (bsel (Nat.beq j 290) (zF_290 Z0 m as s) (envL7 m j as s)))))))))))
def envL5 (m : Nat) : Nat → List mV → mS → Option (Int × mS) := fun j as s => (bsel (Nat.beq j 104) (zF_104 Z0 m as s) (bsel (Nat.beq j 219) (zF_219 Z0 m as s) (bsel (Nat.beq j 263) (zF_263 Z0 m as s) (bsel (Nat.beq j 266) (zF_266 Z0 m as s) (bsel (Nat.beq j 105) (zF_105 Z0 m as s) (bsel (Nat.beq j 267) (zF_267 Z0 m as s) (bsel (Nat.beq j 106) (zF_106 Z0 m as s) (bsel (Nat.beq j 268) (zF_268 Z0 m as s) (bsel (Nat.beq j 121) (zF_121 Z0 m as s) (bsel (Nat.beq j 272) (zF_272 Z0 m as s) (envL6 m j as s)))))))))))
def envL4 (m : Nat) : Nat → List mV → mS → Option (Int × mS) := fun j as s => (bsel (Nat.beq j 90) (zF_90 Z0 m as s) (bsel (Nat.beq j 254) (zF_254 Z0 m as s) (bsel (Nat.beq j 92) (zF_92 Z0 m as s) (bsel (Nat.beq j 256) (zF_256 Z0 m as s) (bsel (Nat.beq j 93) (zF_93 Z0 m as s) (bsel (Nat.beq j 257) (zF_257 Z0 m as s) (bsel (Nat.beq j 101) (zF_101 Z0 m as s) (bsel (Nat.beq j 261) (zF_261 Z0 m as s) (bsel (Nat.beq j 102) (zF_102 Z0 m as s) (bsel (Nat.beq j 262) (zF_262 Z0 m as s) (envL5 m j as s)))))))))))
def envL3 (m : Nat) : Nat → List mV → mS → Option (Int × mS) := fun j as s => (bsel (Nat.beq j 83) (zF_83 Z0 m as s) (bsel (Nat.beq j 247) (zF_247 Z0 m as s) (bsel (Nat.beq j 84) (zF_84 Z0 m as s) (bsel (Nat.beq j 248) (zF_248 Z0 m as s) (bsel (Nat.beq j 86) (zF_86 Z0 m as s) (bsel (Nat.beq j 250) (zF_250 Z0 m as s) (bsel (Nat.beq j 87) (zF_87 Z0 m as s) (bsel (Nat.beq j 251) (zF_251 Z0 m as s) (bsel (Nat.beq j 88) (zF_88 Z0 m as s) (bsel (Nat.beq j 252) (zF_252 Z0 m as s) (envL4 m j as s)))))))))))
def envL2 (m : Nat) : Nat → List mV → mS → Option (Int × mS) := fun j as s => (bsel (Nat.beq j 69) (zF_69 Z0 m as s) (bsel (Nat.beq j 235) (zF_235 Z0 m as s) (bsel (Nat.beq j 71) (zF_71 Z0 m as s) (bsel (Nat.beq j 236) (zF_236 Z0 m as s) (bsel (Nat.beq j 73) (zF_73 Z0 m as s) (bsel (Nat.beq j 239) (zF_239 Z0 m as s) (bsel (Nat.beq j 76) (zF_76 Z0 m as s) (bsel (Nat.beq j 237) (zF_237 Z0 m as s) (bsel (Nat.beq j 78) (zF_78 Z0 m as s) (bsel (Nat.beq j 243) (zF_243 Z0 m as s) (envL3 m j as s)))))))))))
def envL1 (m : Nat) : Nat → List mV → mS → Option (Int × mS) := fun j as s => (bsel (Nat.beq j 52) (zF_52 Z0 m as s) (bsel (Nat.beq j 211) (zF_211 Z0 m as s) (bsel (Nat.beq j 213) (zF_213 Z0 m as s) (bsel (Nat.beq j 170) (zF_170 Z0 m as s) (bsel (Nat.beq j 54) (zF_54 Z0 m as s) (bsel (Nat.beq j 216) (zF_216 Z0 m as s) (bsel (Nat.beq j 60) (zF_60 Z0 m as s) (bsel (Nat.beq j 220) (zF_220 Z0 m as s) (bsel (Nat.beq j 67) (zF_67 Z0 m as s) (bsel (Nat.beq j 234) (zF_234 Z0 m as s) (envL2 m j as s)))))))))))
def envL0 (m : Nat) : Nat → List mV → mS → Option (Int × mS) := fun j as s => (bsel (Nat.beq j 14) (zF_14 Z0 m as s) (bsel (Nat.beq j 171) (zF_171 Z0 m as s) (bsel (Nat.beq j 16) (zF_16 Z0 m as s) (bsel (Nat.beq j 173) (zF_173 Z0 m as s) (bsel (Nat.beq j 17) (zF_17 Z0 m as s) (bsel (Nat.beq j 177) (zF_177 Z0 m as s) (bsel (Nat.beq j 46) (zF_46 Z0 m as s) (bsel (Nat.beq j 207) (zF_207 Z0 m as s) (bsel (Nat.beq j 47) (zF_47 Z0 m as s) (bsel (Nat.beq j 208) (zF_208 Z0 m as s) (envL1 m j as s)))))))))))
section Le
variable {l : Launch} {D : va_G} {cT : Nat → ClassId} {B0 : Nat} {fS : Nat → Nat}
theorem envL7_ok (m : Nat) {d : Nat} (hd : 80 ≤ d) : EnvOk l D cT B0 fS scr0 TT d (envL7 m) := (env_cons (E_148 m) (by omega) (env_cons (E_300 m) (by omega) (env_cons (E_153 m) (by omega) (env_cons (E_302 m) (by omega) (env_cons (E_155 m) (by omega) (env_cons (E_303 m) (by omega) (env_cons (E_156 m) (by omega) (env_cons (E_304 m) (by omega) env_nil))))))))
theorem envL6_ok (m : Nat) {d : Nat} (hd : 80 ≤ d) : EnvOk l D cT B0 fS scr0 TT d (envL6 m) := (env_cons (E_122 m) (by omega) (env_cons (E_273 m) (by omega) (env_cons (E_126 m) (by omega) (env_cons (E_279 m) (by omega) (env_cons (E_127 m) (by omega) (env_cons (E_280 m) (by omega) (env_cons (E_136 m) (by omega) (env_cons (E_289 m) (by omega) (env_cons (E_137 m) (by omega) (env_cons (E_290 m) (by omega) (envL7_ok m hd)))))))))))
theorem envL5_ok (m : Nat) {d : Nat} (hd : 80 ≤ d) : EnvOk l D cT B0 fS scr0 TT d (envL5 m) := (env_cons (E_104 m) (by omega) (env_cons (E_219 m) (by omega) (env_cons (E_263 m) (by omega) (env_cons (E_266 m) (by omega) (env_cons (E_105 m) (by omega) (env_cons (E_267 m) (by omega) (env_cons (E_106 m) (by omega) (env_cons (E_268 m) (by omega) (env_cons (E_121 m) (by omega) (env_cons (E_272 m) (by omega) (envL6_ok m hd)))))))))))
theorem envL4_ok (m : Nat) {d : Nat} (hd : 80 ≤ d) : EnvOk l D cT B0 fS scr0 TT d (envL4 m) := (env_cons (E_90 m) (by omega) (env_cons (E_254 m) (by omega) (env_cons (E_92 m) (by omega) (env_cons (E_256 m) (by omega) (env_cons (E_93 m) (by omega) (env_cons (E_257 m) (by omega) (env_cons (E_101 m) (by omega) (env_cons (E_261 m) (by omega) (env_cons (E_102 m) (by omega) (env_cons (E_262 m) (by omega) (envL5_ok m hd)))))))))))
theorem envL3_ok (m : Nat) {d : Nat} (hd : 80 ≤ d) : EnvOk l D cT B0 fS scr0 TT d (envL3 m) := (env_cons (E_83 m) (by omega) (env_cons (E_247 m) (by omega) (env_cons (E_84 m) (by omega) (env_cons (E_248 m) (by omega) (env_cons (E_86 m) (by omega) (env_cons (E_250 m) (by omega) (env_cons (E_87 m) (by omega) (env_cons (E_251 m) (by omega) (env_cons (E_88 m) (by omega) (env_cons (E_252 m) (by omega) (envL4_ok m hd)))))))))))
theorem envL2_ok (m : Nat) {d : Nat} (hd : 80 ≤ d) : EnvOk l D cT B0 fS scr0 TT d (envL2 m) := (env_cons (E_69 m) (by omega) (env_cons (E_235 m) (by omega) (env_cons (E_71 m) (by omega) (env_cons (E_236 m) (by omega) (env_cons (E_73 m) (by omega) (env_cons (E_239 m) (by omega) (env_cons (E_76 m) (by omega) (env_cons (E_237 m) (by omega) (env_cons (E_78 m) (by omega) (env_cons (E_243 m) (by omega) (envL3_ok m hd)))))))))))
theorem envL1_ok (m : Nat) {d : Nat} (hd : 80 ≤ d) : EnvOk l D cT B0 fS scr0 TT d (envL1 m) := (env_cons (E_52 m) (by omega) (env_cons (E_211 m) (by omega) (env_cons (E_213 m) (by omega) (env_cons (E_170 m) (by omega) (env_cons (E_54 m) (by omega) (env_cons (E_216 m) (by omega) (env_cons (E_60 m) (by omega) (env_cons (E_220 m) (by omega) (env_cons (E_67 m) (by omega) (env_cons (E_234 m) (by omega) (envL2_ok m hd)))))))))))
theorem envL0_ok (m : Nat) {d : Nat} (hd : 80 ≤ d) : EnvOk l D cT B0 fS scr0 TT d (envL0 m) := (env_cons (E_14 m) (by omega) (env_cons (E_171 m) (by omega) (env_cons (E_16 m) (by omega) (env_cons (E_173 m) (by omega) (env_cons (E_17 m) (by omega) (env_cons (E_177 m) (by omega) (env_cons (E_46 m) (by omega) (env_cons (E_207 m) (by omega) (env_cons (E_47 m) (by omega) (env_cons (E_208 m) (by omega) (envL1_ok m hd)))))))))))
end Le
theorem z0i {i : Int} {k : Int} (h0 : 0 ≤ i) (h1 : i ≤ 100000) (h2 : 0 ≤ k) (h3 : k ≤ 10) : Z0 0 i k = i + k := w32_in (by omega) (by omega)
theorem gd_t {cs : Nat × Nat} (h : cs.1 ≤ 601024 ∧ cs.2 ≤ 7293034) : (Nat.ble cs.1 601024 && Nat.ble cs.2 7293034) = true := by
  rw [Nat.ble_eq_true_of_le h.1, Nat.ble_eq_true_of_le h.2]; rfl
theorem gd_u {cs : Nat × Nat} (h : cs.1 + 64 ≤ 601024 ∧ cs.2 + 1000 ≤ 7293034) : (Nat.ble (cs.1 + 64) 601024 && Nat.ble (cs.2 + 1000) 7293034) = true := by
  rw [Nat.ble_eq_true_of_le h.1, Nat.ble_eq_true_of_le h.2]; rfl
theorem lc_0 {m : Nat} (hm : 10000 ≤ m) (N : Nat) (xs : Nat → Int) (n : Nat) {i : Int} {s : mS} {cs : Nat × Nat} (hi : Inv s) (h0 : 0 ≤ i) (h1 : i + 5 < (N : Int)) (h2 : N ≤ 3072) (hc : cs.1 + 64 ≤ 601024 ∧ cs.2 + 1000 ≤ 7293034) : ∃ s2, Inv s2 ∧ zlw Z0 (envL0 m) (ewL m) N xs (n + 1) 216 i s cs = zlw Z0 (envL0 m) (ewL m) N xs n 1405 i s2 cs := by
  obtain ⟨r, s1, s2, e1, e2, h3⟩ := S_feed (m := m) (by omega) (xs (i + 1).toNat) (xs (i + 2).toNat) (xs (i + 3).toNat) (xs (i + 4).toNat) (xs (i + 5).toNat) s hi
  refine ⟨s2, h3, ?_⟩
  have gd := gd_t (cs := cs) ⟨by omega, by omega⟩
  rw [zlw_216, z0i (k := 1) h0 (by omega) (by omega) (by omega), z0i (k := 2) h0 (by omega) (by omega) (by omega), z0i (k := 3) h0 (by omega) (by omega) (by omega), z0i (k := 4) h0 (by omega) (by omega) (by omega), z0i (k := 5) h0 (by omega) (by omega) (by omega)]
  rw [inR_pos (i := i + 1) (n := N) (by omega) (by omega), inR_pos (i := i + 2) (n := N) (by omega) (by omega), inR_pos (i := i + 3) (n := N) (by omega) (by omega), inR_pos (i := i + 4) (n := N) (by omega) (by omega), inR_pos (i := i + 5) (n := N) (by omega) (by omega), gd, bsel_t, show envL0 m 14 [rv (some 0), iv (xs (i + 1).toNat), iv (xs (i + 2).toNat), iv (xs (i + 3).toNat), iv (xs (i + 4).toNat), iv (xs (i + 5).toNat)] s = some (r, s1) from e1, Option.bind_some]
  rw [inR_pos (i := i + 1) (n := N) (by omega) (by omega), inR_pos (i := i + 2) (n := N) (by omega) (by omega), inR_pos (i := i + 3) (n := N) (by omega) (by omega), inR_pos (i := i + 4) (n := N) (by omega) (by omega), inR_pos (i := i + 5) (n := N) (by omega) (by omega), bsel_t, show envL0 m 171 [rv (some 249), iv (xs (i + 1).toNat), iv (xs (i + 2).toNat), iv (xs (i + 3).toNat), iv (xs (i + 4).toNat), iv (xs (i + 5).toNat)] s1 = some (r, s2) from e2, Option.bind_some, if_pos rfl]
theorem lc_1 {m : Nat} (hm : 10000 ≤ m) (N : Nat) (xs : Nat → Int) (n : Nat) {i : Int} {s : mS} {cs : Nat × Nat} (hi : Inv s) (h0 : 0 ≤ i) (h1 : i + 5 < (N : Int)) (h2 : N ≤ 3072) (hc : cs.1 + 64 ≤ 601024 ∧ cs.2 + 1000 ≤ 7293034) : ∃ s2, Inv s2 ∧ zlw Z0 (envL0 m) (ewL m) N xs (n + 1) 289 i s cs = zlw Z0 (envL0 m) (ewL m) N xs n 1405 i s2 cs := by
  obtain ⟨r, s1, s2, e1, e2, h3⟩ := S_end m (xs (i + 1).toNat) s hi
  refine ⟨s2, h3, ?_⟩
  have gd := gd_t (cs := cs) ⟨by omega, by omega⟩
  rw [zlw_289, z0i (k := 1) h0 (by omega) (by omega) (by omega)]
  rw [inR_pos (i := i + 1) (n := N) (by omega) (by omega), gd, bsel_t, show envL0 m 16 [rv (some 0), iv (xs (i + 1).toNat)] s = some (r, s1) from e1, Option.bind_some]
  rw [inR_pos (i := i + 1) (n := N) (by omega) (by omega), bsel_t, show envL0 m 173 [rv (some 249), iv (xs (i + 1).toNat)] s1 = some (r, s2) from e2, Option.bind_some, if_pos rfl]
theorem lc_2 {m : Nat} (hm : 10000 ≤ m) (N : Nat) (xs : Nat → Int) (n : Nat) {i : Int} {s : mS} {cs : Nat × Nat} (hi : Inv s) (h0 : 0 ≤ i) (h1 : i + 5 < (N : Int)) (h2 : N ≤ 3072) (hc : cs.1 + 64 ≤ 601024 ∧ cs.2 + 1000 ≤ 7293034) : ∃ s2, Inv s2 ∧ zlw Z0 (envL0 m) (ewL m) N xs (n + 1) 314 i s cs = zlw Z0 (envL0 m) (ewL m) N xs n 1405 i s2 cs := by
  obtain ⟨r, s1, s2, e1, e2, h3⟩ := S_vestry (m := m) (by omega)  s hi
  refine ⟨s2, h3, ?_⟩
  have gd := gd_t (cs := cs) ⟨by omega, by omega⟩
  rw [zlw_314]
  rw [gd, bsel_t, show envL0 m 17 [rv (some 0)] s = some (r, s1) from e1, Option.bind_some]
  rw [bsel_t, show envL0 m 177 [rv (some 249)] s1 = some (r, s2) from e2, Option.bind_some, if_pos rfl]
theorem lc_3 {m : Nat} (hm : 10000 ≤ m) (N : Nat) (xs : Nat → Int) (n : Nat) {i : Int} {s : mS} {cs : Nat × Nat} (hi : Inv s) (h0 : 0 ≤ i) (h1 : i + 5 < (N : Int)) (h2 : N ≤ 3072) (hc : cs.1 + 64 ≤ 601024 ∧ cs.2 + 1000 ≤ 7293034) : ∃ s2, Inv s2 ∧ zlw Z0 (envL0 m) (ewL m) N xs (n + 1) 327 i s cs = zlw Z0 (envL0 m) (ewL m) N xs n 1405 i s2 cs := by
  obtain ⟨r, s1, s2, e1, e2, h3⟩ := S_fault m  s hi
  refine ⟨s2, h3, ?_⟩
  have gd := gd_t (cs := cs) ⟨by omega, by omega⟩
  rw [zlw_327]
  rw [gd, bsel_t, show envL0 m 46 [rv (some 0)] s = some (r, s1) from e1, Option.bind_some]
  rw [bsel_t, show envL0 m 207 [rv (some 249)] s1 = some (r, s2) from e2, Option.bind_some, if_pos rfl]
theorem lc_4 {m : Nat} (hm : 10000 ≤ m) (N : Nat) (xs : Nat → Int) (n : Nat) {i : Int} {s : mS} {cs : Nat × Nat} (hi : Inv s) (h0 : 0 ≤ i) (h1 : i + 5 < (N : Int)) (h2 : N ≤ 3072) (hc : cs.1 + 64 ≤ 601024 ∧ cs.2 + 1000 ≤ 7293034) : ∃ s2, Inv s2 ∧ zlw Z0 (envL0 m) (ewL m) N xs (n + 1) 340 i s cs = zlw Z0 (envL0 m) (ewL m) N xs n 1405 i s2 cs := by
  obtain ⟨r, s1, s2, e1, e2, h3⟩ := S_box m (xs (i + 1).toNat) (xs (i + 2).toNat) s hi
  refine ⟨s2, h3, ?_⟩
  have gd := gd_t (cs := cs) ⟨by omega, by omega⟩
  rw [zlw_340, z0i (k := 1) h0 (by omega) (by omega) (by omega), z0i (k := 2) h0 (by omega) (by omega) (by omega)]
  rw [inR_pos (i := i + 1) (n := N) (by omega) (by omega), inR_pos (i := i + 2) (n := N) (by omega) (by omega), gd, bsel_t, show envL0 m 47 [rv (some 0), iv (xs (i + 1).toNat), iv (xs (i + 2).toNat)] s = some (r, s1) from e1, Option.bind_some]
  rw [inR_pos (i := i + 1) (n := N) (by omega) (by omega), inR_pos (i := i + 2) (n := N) (by omega) (by omega), bsel_t, show envL0 m 208 [rv (some 249), iv (xs (i + 1).toNat), iv (xs (i + 2).toNat)] s1 = some (r, s2) from e2, Option.bind_some, if_pos rfl]
theorem lc_5 {m : Nat} (hm : 10000 ≤ m) (N : Nat) (xs : Nat → Int) (n : Nat) {i : Int} {s : mS} {cs : Nat × Nat} (hi : Inv s) (h0 : 0 ≤ i) (h1 : i + 5 < (N : Int)) (h2 : N ≤ 3072) (hc : cs.1 + 64 ≤ 601024 ∧ cs.2 + 1000 ≤ 7293034) : ∃ s2, Inv s2 ∧ zlw Z0 (envL0 m) (ewL m) N xs (n + 1) 377 i s cs = zlw Z0 (envL0 m) (ewL m) N xs n 1405 i s2 cs := by
  obtain ⟨r, s1, s2, e1, e2, h3⟩ := S_plot m (xs (i + 1).toNat) (xs (i + 2).toNat) s hi
  refine ⟨s2, h3, ?_⟩
  have gd := gd_t (cs := cs) ⟨by omega, by omega⟩
  rw [zlw_377, z0i (k := 1) h0 (by omega) (by omega) (by omega), z0i (k := 2) h0 (by omega) (by omega) (by omega)]
  rw [inR_pos (i := i + 1) (n := N) (by omega) (by omega), inR_pos (i := i + 2) (n := N) (by omega) (by omega), gd, bsel_t, show envL0 m 52 [rv (some 0), iv (xs (i + 1).toNat), iv (xs (i + 2).toNat)] s = some (r, s1) from e1, Option.bind_some]
  rw [inR_pos (i := i + 1) (n := N) (by omega) (by omega), inR_pos (i := i + 2) (n := N) (by omega) (by omega), bsel_t, show envL0 m 211 [rv (some 249), iv (xs (i + 1).toNat), iv (xs (i + 2).toNat)] s1 = some (r, s2) from e2, Option.bind_some, if_pos rfl]
theorem thr_0 (m : Nat) {v : Int} (s : mS) (h : s.1 249 0 = v) : envL0 m 170 [rv (some 249)] s = some (v, s) := by
  rw [← h]; exact f_R_thrown_eq m s
theorem cmp_0 (s : mS) (x r : Int) : Z0 20 ((wI (wJ s 269 0 r) 249 0 x).2 269 (0 : Int).toNat) r = 0 := by
  show cmpL (if 269 = 269 ∧ (0 : Int).toNat = 0 then r else s.2 269 (0 : Int).toNat) r = 0
  rw [if_pos ⟨rfl, rfl⟩]
  unfold cmpL
  rw [if_neg (Int.lt_irrefl r), if_pos rfl]
theorem lc_6 {m : Nat} (hm : 10000 ≤ m) (N : Nat) (xs : Nat → Int) (n : Nat) {i : Int} {s : mS} {cs : Nat × Nat} (hi : Inv s) (h0 : 0 ≤ i) (h1 : i + 5 < (N : Int)) (h2 : N ≤ 3072) (hc : cs.1 + 64 ≤ 601024 ∧ cs.2 + 1000 ≤ 7293034) : ∃ s2, Inv s2 ∧ zlw Z0 (envL0 m) (ewL m) N xs (n + 3) 414 i s cs = zlw Z0 (envL0 m) (ewL m) N xs n 1405 i s2 (cs.1 + 64, cs.2 + 1000) := by
  have gd := gd_u (cs := cs) hc
  have gd2 := gd_t (cs := (cs.1 + 64, cs.2 + 1000)) hc
  have hS := S_dead m (xs (i + 1).toNat) (xs (i + 2).toNat)
  rw [show n + 3 = (n + 2) + 1 from rfl, zlw_414, z0i (k := 1) h0 (by omega) (by omega) (by omega), z0i (k := 2) h0 (by omega) (by omega) (by omega), inR_pos (i := i + 1) (n := N) (by omega) (by omega), inR_pos (i := i + 2) (n := N) (by omega) (by omega), show n + 2 = (n + 1) + 1 from rfl, zlw_428, gd, bsel_t, ewL_dead hi]
  unfold dW
  by_cases c : (0 ≤ xs (i + 1).toNat ∧ xs (i + 1).toNat < s.1 251 2) ∧ 0 ≤ xs (i + 2).toNat ∧ xs (i + 2).toNat ≤ 7
  · obtain ⟨r, e1, -⟩ := (hS s hi).1 c
    rw [if_pos c, e1, Option.bind_some, Option.bind_some]
    obtain ⟨r2, e2, e3⟩ := (hS (wJ s 269 0 r) (Inv_out hi r)).1 c
    have e4 := dead_J hi c.1 c.2 e1 (v := r)
    have er : r2 = r := (Prod.mk.inj (Option.some.inj (e2.symm.trans e4))).1
    subst er
    refine ⟨wI (wJ s 269 0 r2) 249 0 0, Inv_thrown (Inv_out hi r2) 0, ?_⟩
    rw [zlw_431, z0i (k := 1) h0 (by omega) (by omega) (by omega), z0i (k := 2) h0 (by omega) (by omega) (by omega), inR_pos (i := i + 1) (n := N) (by omega) (by omega), inR_pos (i := i + 2) (n := N) (by omega) (by omega), gd2, bsel_t, show envL0 m 213 [rv (some 249), iv (xs (i + 1).toNat), iv (xs (i + 2).toNat)] (wJ s 269 0 r2) = some (r2, wI (wJ s 269 0 r2) 249 0 0) from e3, Option.bind_some, bsel_t]
    rw [show envL0 m 170 [rv (some 249)] (wI (wJ s 269 0 r2) 249 0 0) = some (0, wI (wJ s 269 0 r2) 249 0 0) from thr_0 m _ wI_at, Option.bind_some, if_pos rfl, if_pos rfl, inR_pos (by decide) (by decide)]
    rw [show Z0 20 ((wI (wJ s 269 0 r2) 249 0 0).2 269 (0 : Int).toNat) r2 = 0 from cmp_0 _ _ _, if_pos rfl]
  · rw [if_neg c, Option.bind_some]
    have e3 := (hS s hi).2 c
    refine ⟨wI (wI s 249 0 0) 249 0 1, Inv_thrown (Inv_thrown hi 0) 1, ?_⟩
    rw [zlw_431, z0i (k := 1) h0 (by omega) (by omega) (by omega), z0i (k := 2) h0 (by omega) (by omega) (by omega), inR_pos (i := i + 1) (n := N) (by omega) (by omega), inR_pos (i := i + 2) (n := N) (by omega) (by omega), gd2, bsel_t, show envL0 m 213 [rv (some 249), iv (xs (i + 1).toNat), iv (xs (i + 2).toNat)] s = some (0, wI (wI s 249 0 0) 249 0 1) from e3, Option.bind_some, bsel_t]
    rw [show envL0 m 170 [rv (some 249)] (wI (wI s 249 0 0) 249 0 1) = some (1, wI (wI s 249 0 0) 249 0 1) from thr_0 m _ wI_at, Option.bind_some, if_pos rfl, if_neg (show ¬ (1 : Int) = 0 from by decide)]
theorem lc_7 {m : Nat} (hm : 10000 ≤ m) (N : Nat) (xs : Nat → Int) (n : Nat) {i : Int} {s : mS} {cs : Nat × Nat} (hi : Inv s) (h0 : 0 ≤ i) (h1 : i + 5 < (N : Int)) (h2 : N ≤ 3072) (hc : cs.1 + 64 ≤ 601024 ∧ cs.2 + 1000 ≤ 7293034) : ∃ s2, Inv s2 ∧ zlw Z0 (envL0 m) (ewL m) N xs (n + 1) 482 i s cs = zlw Z0 (envL0 m) (ewL m) N xs n 1405 i s2 cs := by
  obtain ⟨r, s1, s2, e1, e2, h3⟩ := S_now (m := m) (by omega) (xs (i + 1).toNat) s hi
  refine ⟨s2, h3, ?_⟩
  have gd := gd_t (cs := cs) ⟨by omega, by omega⟩
  rw [zlw_482, z0i (k := 1) h0 (by omega) (by omega) (by omega)]
  rw [inR_pos (i := i + 1) (n := N) (by omega) (by omega), gd, bsel_t, show envL0 m 54 [rv (some 0), iv (xs (i + 1).toNat)] s = some (r, s1) from e1, Option.bind_some]
  rw [inR_pos (i := i + 1) (n := N) (by omega) (by omega), bsel_t, show envL0 m 216 [rv (some 249), iv (xs (i + 1).toNat)] s1 = some (r, s2) from e2, Option.bind_some, if_pos rfl]
theorem lc_8 {m : Nat} (hm : 10000 ≤ m) (N : Nat) (xs : Nat → Int) (n : Nat) {i : Int} {s : mS} {cs : Nat × Nat} (hi : Inv s) (h0 : 0 ≤ i) (h1 : i + 5 < (N : Int)) (h2 : N ≤ 3072) (hc : cs.1 + 64 ≤ 601024 ∧ cs.2 + 1000 ≤ 7293034) : ∃ s2, Inv s2 ∧ zlw Z0 (envL0 m) (ewL m) N xs (n + 1) 507 i s cs = zlw Z0 (envL0 m) (ewL m) N xs n 1405 i s2 cs := by
  obtain ⟨r, s1, s2, e1, e2, h3⟩ := S_lend (m := m) (by omega) (xs (i + 1).toNat) (xs (i + 2).toNat) s hi
  refine ⟨s2, h3, ?_⟩
  have gd := gd_t (cs := cs) ⟨by omega, by omega⟩
  rw [zlw_507, z0i (k := 1) h0 (by omega) (by omega) (by omega), z0i (k := 2) h0 (by omega) (by omega) (by omega)]
  rw [inR_pos (i := i + 1) (n := N) (by omega) (by omega), inR_pos (i := i + 2) (n := N) (by omega) (by omega), gd, bsel_t, show envL0 m 60 [rv (some 0), iv (xs (i + 1).toNat), iv (xs (i + 2).toNat)] s = some (r, s1) from e1, Option.bind_some]
  rw [inR_pos (i := i + 1) (n := N) (by omega) (by omega), inR_pos (i := i + 2) (n := N) (by omega) (by omega), bsel_t, show envL0 m 220 [rv (some 249), iv (xs (i + 1).toNat), iv (xs (i + 2).toNat)] s1 = some (r, s2) from e2, Option.bind_some, if_pos rfl]
theorem lc_9 {m : Nat} (hm : 10000 ≤ m) (N : Nat) (xs : Nat → Int) (n : Nat) {i : Int} {s : mS} {cs : Nat × Nat} (hi : Inv s) (h0 : 0 ≤ i) (h1 : i + 5 < (N : Int)) (h2 : N ≤ 3072) (hc : cs.1 + 64 ≤ 601024 ∧ cs.2 + 1000 ≤ 7293034) : ∃ s2, Inv s2 ∧ zlw Z0 (envL0 m) (ewL m) N xs (n + 1) 544 i s cs = zlw Z0 (envL0 m) (ewL m) N xs n 1405 i s2 cs := by
  obtain ⟨r, s1, s2, e1, e2, h3⟩ := S_lay (m := m) (by omega) (xs (i + 1).toNat) (xs (i + 2).toNat) s hi
  refine ⟨s2, h3, ?_⟩
  have gd := gd_t (cs := cs) ⟨by omega, by omega⟩
  rw [zlw_544, z0i (k := 1) h0 (by omega) (by omega) (by omega), z0i (k := 2) h0 (by omega) (by omega) (by omega)]
  rw [inR_pos (i := i + 1) (n := N) (by omega) (by omega), inR_pos (i := i + 2) (n := N) (by omega) (by omega), gd, bsel_t, show envL0 m 67 [rv (some 0), iv (xs (i + 1).toNat), iv (xs (i + 2).toNat)] s = some (r, s1) from e1, Option.bind_some]
  rw [inR_pos (i := i + 1) (n := N) (by omega) (by omega), inR_pos (i := i + 2) (n := N) (by omega) (by omega), bsel_t, show envL0 m 234 [rv (some 249), iv (xs (i + 1).toNat), iv (xs (i + 2).toNat)] s1 = some (r, s2) from e2, Option.bind_some, if_pos rfl]
theorem lc_10 {m : Nat} (hm : 10000 ≤ m) (N : Nat) (xs : Nat → Int) (n : Nat) {i : Int} {s : mS} {cs : Nat × Nat} (hi : Inv s) (h0 : 0 ≤ i) (h1 : i + 5 < (N : Int)) (h2 : N ≤ 3072) (hc : cs.1 + 64 ≤ 601024 ∧ cs.2 + 1000 ≤ 7293034) : ∃ s2, Inv s2 ∧ zlw Z0 (envL0 m) (ewL m) N xs (n + 1) 581 i s cs = zlw Z0 (envL0 m) (ewL m) N xs n 1405 i s2 cs := by
  obtain ⟨r, s1, s2, e1, e2, h3⟩ := S_swap (m := m) (by omega) (xs (i + 1).toNat) (xs (i + 2).toNat) s hi
  refine ⟨s2, h3, ?_⟩
  have gd := gd_t (cs := cs) ⟨by omega, by omega⟩
  rw [zlw_581, z0i (k := 1) h0 (by omega) (by omega) (by omega), z0i (k := 2) h0 (by omega) (by omega) (by omega)]
  rw [inR_pos (i := i + 1) (n := N) (by omega) (by omega), inR_pos (i := i + 2) (n := N) (by omega) (by omega), gd, bsel_t, show envL0 m 69 [rv (some 0), iv (xs (i + 1).toNat), iv (xs (i + 2).toNat)] s = some (r, s1) from e1, Option.bind_some]
  rw [inR_pos (i := i + 1) (n := N) (by omega) (by omega), inR_pos (i := i + 2) (n := N) (by omega) (by omega), bsel_t, show envL0 m 235 [rv (some 249), iv (xs (i + 1).toNat), iv (xs (i + 2).toNat)] s1 = some (r, s2) from e2, Option.bind_some, if_pos rfl]
theorem lc_11 {m : Nat} (hm : 10000 ≤ m) (N : Nat) (xs : Nat → Int) (n : Nat) {i : Int} {s : mS} {cs : Nat × Nat} (hi : Inv s) (h0 : 0 ≤ i) (h1 : i + 5 < (N : Int)) (h2 : N ≤ 3072) (hc : cs.1 + 64 ≤ 601024 ∧ cs.2 + 1000 ≤ 7293034) : ∃ s2, Inv s2 ∧ zlw Z0 (envL0 m) (ewL m) N xs (n + 1) 618 i s cs = zlw Z0 (envL0 m) (ewL m) N xs n 1405 i s2 cs := by
  obtain ⟨r, s1, s2, e1, e2, h3⟩ := S_mend (m := m) (by omega) (xs (i + 1).toNat) s hi
  refine ⟨s2, h3, ?_⟩
  have gd := gd_t (cs := cs) ⟨by omega, by omega⟩
  rw [zlw_618, z0i (k := 1) h0 (by omega) (by omega) (by omega)]
  rw [inR_pos (i := i + 1) (n := N) (by omega) (by omega), gd, bsel_t, show envL0 m 71 [rv (some 0), iv (xs (i + 1).toNat)] s = some (r, s1) from e1, Option.bind_some]
  rw [inR_pos (i := i + 1) (n := N) (by omega) (by omega), bsel_t, show envL0 m 236 [rv (some 249), iv (xs (i + 1).toNat)] s1 = some (r, s2) from e2, Option.bind_some, if_pos rfl]
theorem lc_12 {m : Nat} (hm : 10000 ≤ m) (N : Nat) (xs : Nat → Int) (n : Nat) {i : Int} {s : mS} {cs : Nat × Nat} (hi : Inv s) (h0 : 0 ≤ i) (h1 : i + 5 < (N : Int)) (h2 : N ≤ 3072) (hc : cs.1 + 64 ≤ 601024 ∧ cs.2 + 1000 ≤ 7293034) : ∃ s2, Inv s2 ∧ zlw Z0 (envL0 m) (ewL m) N xs (n + 1) 643 i s cs = zlw Z0 (envL0 m) (ewL m) N xs n 1405 i s2 cs := by
  obtain ⟨r, s1, s2, e1, e2, h3⟩ := S_days (m := m) (by omega) (xs (i + 1).toNat) s hi
  refine ⟨s2, h3, ?_⟩
  have gd := gd_t (cs := cs) ⟨by omega, by omega⟩
  rw [zlw_643, z0i (k := 1) h0 (by omega) (by omega) (by omega)]
  rw [inR_pos (i := i + 1) (n := N) (by omega) (by omega), gd, bsel_t, show envL0 m 73 [rv (some 0), iv (xs (i + 1).toNat)] s = some (r, s1) from e1, Option.bind_some]
  rw [inR_pos (i := i + 1) (n := N) (by omega) (by omega), bsel_t, show envL0 m 239 [rv (some 249), iv (xs (i + 1).toNat)] s1 = some (r, s2) from e2, Option.bind_some, if_pos rfl]
theorem lc_13 {m : Nat} (hm : 10000 ≤ m) (N : Nat) (xs : Nat → Int) (n : Nat) {i : Int} {s : mS} {cs : Nat × Nat} (hi : Inv s) (h0 : 0 ≤ i) (h1 : i + 5 < (N : Int)) (h2 : N ≤ 3072) (hc : cs.1 + 64 ≤ 601024 ∧ cs.2 + 1000 ≤ 7293034) : ∃ s2, Inv s2 ∧ zlw Z0 (envL0 m) (ewL m) N xs (n + 1) 668 i s cs = zlw Z0 (envL0 m) (ewL m) N xs n 1405 i s2 cs := by
  obtain ⟨r, s1, s2, e1, e2, h3⟩ := S_undo (m := m) (by omega)  s hi
  refine ⟨s2, h3, ?_⟩
  have gd := gd_t (cs := cs) ⟨by omega, by omega⟩
  rw [zlw_668]
  rw [gd, bsel_t, show envL0 m 76 [rv (some 0)] s = some (r, s1) from e1, Option.bind_some]
  rw [bsel_t, show envL0 m 237 [rv (some 249)] s1 = some (r, s2) from e2, Option.bind_some, if_pos rfl]
theorem lc_14 {m : Nat} (hm : 10000 ≤ m) (N : Nat) (xs : Nat → Int) (n : Nat) {i : Int} {s : mS} {cs : Nat × Nat} (hi : Inv s) (h0 : 0 ≤ i) (h1 : i + 5 < (N : Int)) (h2 : N ≤ 3072) (hc : cs.1 + 64 ≤ 601024 ∧ cs.2 + 1000 ≤ 7293034) : ∃ s2, Inv s2 ∧ zlw Z0 (envL0 m) (ewL m) N xs (n + 1) 681 i s cs = zlw Z0 (envL0 m) (ewL m) N xs n 1405 i s2 cs := by
  obtain ⟨r, s1, s2, e1, e2, h3⟩ := S_match (m := m) (by omega)  s hi
  refine ⟨s2, h3, ?_⟩
  have gd := gd_t (cs := cs) ⟨by omega, by omega⟩
  rw [zlw_681]
  rw [gd, bsel_t, show envL0 m 78 [rv (some 0)] s = some (r, s1) from e1, Option.bind_some]
  rw [bsel_t, show envL0 m 243 [rv (some 249)] s1 = some (r, s2) from e2, Option.bind_some, if_pos rfl]
theorem lc_15 {m : Nat} (hm : 10000 ≤ m) (N : Nat) (xs : Nat → Int) (n : Nat) {i : Int} {s : mS} {cs : Nat × Nat} (hi : Inv s) (h0 : 0 ≤ i) (h1 : i + 5 < (N : Int)) (h2 : N ≤ 3072) (hc : cs.1 + 64 ≤ 601024 ∧ cs.2 + 1000 ≤ 7293034) : ∃ s2, Inv s2 ∧ zlw Z0 (envL0 m) (ewL m) N xs (n + 1) 694 i s cs = zlw Z0 (envL0 m) (ewL m) N xs n 1405 i s2 cs := by
  obtain ⟨r, s1, s2, e1, e2, h3⟩ := S_matchOf m (xs (i + 1).toNat) s hi
  refine ⟨s2, h3, ?_⟩
  have gd := gd_t (cs := cs) ⟨by omega, by omega⟩
  rw [zlw_694, z0i (k := 1) h0 (by omega) (by omega) (by omega)]
  rw [inR_pos (i := i + 1) (n := N) (by omega) (by omega), gd, bsel_t, show envL0 m 83 [rv (some 0), iv (xs (i + 1).toNat)] s = some (r, s1) from e1, Option.bind_some]
  rw [inR_pos (i := i + 1) (n := N) (by omega) (by omega), bsel_t, show envL0 m 247 [rv (some 249), iv (xs (i + 1).toNat)] s1 = some (r, s2) from e2, Option.bind_some, if_pos rfl]
theorem lc_16 {m : Nat} (hm : 10000 ≤ m) (N : Nat) (xs : Nat → Int) (n : Nat) {i : Int} {s : mS} {cs : Nat × Nat} (hi : Inv s) (h0 : 0 ≤ i) (h1 : i + 5 < (N : Int)) (h2 : N ≤ 3072) (hc : cs.1 + 64 ≤ 601024 ∧ cs.2 + 1000 ≤ 7293034) : ∃ s2, Inv s2 ∧ zlw Z0 (envL0 m) (ewL m) N xs (n + 1) 719 i s cs = zlw Z0 (envL0 m) (ewL m) N xs n 1405 i s2 cs := by
  obtain ⟨r, s1, s2, e1, e2, h3⟩ := S_soon (m := m) (by omega) (xs (i + 1).toNat) s hi
  refine ⟨s2, h3, ?_⟩
  have gd := gd_t (cs := cs) ⟨by omega, by omega⟩
  rw [zlw_719, z0i (k := 1) h0 (by omega) (by omega) (by omega)]
  rw [inR_pos (i := i + 1) (n := N) (by omega) (by omega), gd, bsel_t, show envL0 m 84 [rv (some 0), iv (xs (i + 1).toNat)] s = some (r, s1) from e1, Option.bind_some]
  rw [inR_pos (i := i + 1) (n := N) (by omega) (by omega), bsel_t, show envL0 m 248 [rv (some 249), iv (xs (i + 1).toNat)] s1 = some (r, s2) from e2, Option.bind_some, if_pos rfl]
theorem lc_17 {m : Nat} (hm : 10000 ≤ m) (N : Nat) (xs : Nat → Int) (n : Nat) {i : Int} {s : mS} {cs : Nat × Nat} (hi : Inv s) (h0 : 0 ≤ i) (h1 : i + 5 < (N : Int)) (h2 : N ≤ 3072) (hc : cs.1 + 64 ≤ 601024 ∧ cs.2 + 1000 ≤ 7293034) : ∃ s2, Inv s2 ∧ zlw Z0 (envL0 m) (ewL m) N xs (n + 1) 744 i s cs = zlw Z0 (envL0 m) (ewL m) N xs n 1405 i s2 cs := by
  obtain ⟨r, s1, s2, e1, e2, h3⟩ := S_soonIn m  s hi
  refine ⟨s2, h3, ?_⟩
  have gd := gd_t (cs := cs) ⟨by omega, by omega⟩
  rw [zlw_744]
  rw [gd, bsel_t, show envL0 m 86 [rv (some 0)] s = some (r, s1) from e1, Option.bind_some]
  rw [bsel_t, show envL0 m 250 [rv (some 249)] s1 = some (r, s2) from e2, Option.bind_some, if_pos rfl]
theorem lc_18 {m : Nat} (hm : 10000 ≤ m) (N : Nat) (xs : Nat → Int) (n : Nat) {i : Int} {s : mS} {cs : Nat × Nat} (hi : Inv s) (h0 : 0 ≤ i) (h1 : i + 5 < (N : Int)) (h2 : N ≤ 3072) (hc : cs.1 + 64 ≤ 601024 ∧ cs.2 + 1000 ≤ 7293034) : ∃ s2, Inv s2 ∧ zlw Z0 (envL0 m) (ewL m) N xs (n + 1) 757 i s cs = zlw Z0 (envL0 m) (ewL m) N xs n 1405 i s2 cs := by
  obtain ⟨r, s1, s2, e1, e2, h3⟩ := S_crowd (m := m) (by omega) (xs (i + 1).toNat) s hi
  refine ⟨s2, h3, ?_⟩
  have gd := gd_t (cs := cs) ⟨by omega, by omega⟩
  rw [zlw_757, z0i (k := 1) h0 (by omega) (by omega) (by omega)]
  rw [inR_pos (i := i + 1) (n := N) (by omega) (by omega), gd, bsel_t, show envL0 m 87 [rv (some 0), iv (xs (i + 1).toNat)] s = some (r, s1) from e1, Option.bind_some]
  rw [inR_pos (i := i + 1) (n := N) (by omega) (by omega), bsel_t, show envL0 m 251 [rv (some 249), iv (xs (i + 1).toNat)] s1 = some (r, s2) from e2, Option.bind_some, if_pos rfl]
theorem lc_19 {m : Nat} (hm : 10000 ≤ m) (N : Nat) (xs : Nat → Int) (n : Nat) {i : Int} {s : mS} {cs : Nat × Nat} (hi : Inv s) (h0 : 0 ≤ i) (h1 : i + 5 < (N : Int)) (h2 : N ≤ 3072) (hc : cs.1 + 64 ≤ 601024 ∧ cs.2 + 1000 ≤ 7293034) : ∃ s2, Inv s2 ∧ zlw Z0 (envL0 m) (ewL m) N xs (n + 1) 782 i s cs = zlw Z0 (envL0 m) (ewL m) N xs n 1405 i s2 cs := by
  obtain ⟨r, s1, s2, e1, e2, h3⟩ := S_need (m := m) (by omega) (xs (i + 1).toNat) (xs (i + 2).toNat) s hi
  refine ⟨s2, h3, ?_⟩
  have gd := gd_t (cs := cs) ⟨by omega, by omega⟩
  rw [zlw_782, z0i (k := 1) h0 (by omega) (by omega) (by omega), z0i (k := 2) h0 (by omega) (by omega) (by omega)]
  rw [inR_pos (i := i + 1) (n := N) (by omega) (by omega), inR_pos (i := i + 2) (n := N) (by omega) (by omega), gd, bsel_t, show envL0 m 88 [rv (some 0), iv (xs (i + 1).toNat), iv (xs (i + 2).toNat)] s = some (r, s1) from e1, Option.bind_some]
  rw [inR_pos (i := i + 1) (n := N) (by omega) (by omega), inR_pos (i := i + 2) (n := N) (by omega) (by omega), bsel_t, show envL0 m 252 [rv (some 249), iv (xs (i + 1).toNat), iv (xs (i + 2).toNat)] s1 = some (r, s2) from e2, Option.bind_some, if_pos rfl]
theorem lc_20 {m : Nat} (hm : 10000 ≤ m) (N : Nat) (xs : Nat → Int) (n : Nat) {i : Int} {s : mS} {cs : Nat × Nat} (hi : Inv s) (h0 : 0 ≤ i) (h1 : i + 5 < (N : Int)) (h2 : N ≤ 3072) (hc : cs.1 + 64 ≤ 601024 ∧ cs.2 + 1000 ≤ 7293034) : ∃ s2, Inv s2 ∧ zlw Z0 (envL0 m) (ewL m) N xs (n + 1) 819 i s cs = zlw Z0 (envL0 m) (ewL m) N xs n 1405 i s2 cs := by
  obtain ⟨r, s1, s2, e1, e2, h3⟩ := S_ring (m := m) (by omega) (xs (i + 1).toNat) s hi
  refine ⟨s2, h3, ?_⟩
  have gd := gd_t (cs := cs) ⟨by omega, by omega⟩
  rw [zlw_819, z0i (k := 1) h0 (by omega) (by omega) (by omega)]
  rw [inR_pos (i := i + 1) (n := N) (by omega) (by omega), gd, bsel_t, show envL0 m 90 [rv (some 0), iv (xs (i + 1).toNat)] s = some (r, s1) from e1, Option.bind_some]
  rw [inR_pos (i := i + 1) (n := N) (by omega) (by omega), bsel_t, show envL0 m 254 [rv (some 249), iv (xs (i + 1).toNat)] s1 = some (r, s2) from e2, Option.bind_some, if_pos rfl]
theorem lc_21 {m : Nat} (hm : 10000 ≤ m) (N : Nat) (xs : Nat → Int) (n : Nat) {i : Int} {s : mS} {cs : Nat × Nat} (hi : Inv s) (h0 : 0 ≤ i) (h1 : i + 5 < (N : Int)) (h2 : N ≤ 3072) (hc : cs.1 + 64 ≤ 601024 ∧ cs.2 + 1000 ≤ 7293034) : ∃ s2, Inv s2 ∧ zlw Z0 (envL0 m) (ewL m) N xs (n + 1) 844 i s cs = zlw Z0 (envL0 m) (ewL m) N xs n 1405 i s2 cs := by
  obtain ⟨r, s1, s2, e1, e2, h3⟩ := S_ringAt m (xs (i + 1).toNat) s hi
  refine ⟨s2, h3, ?_⟩
  have gd := gd_t (cs := cs) ⟨by omega, by omega⟩
  rw [zlw_844, z0i (k := 1) h0 (by omega) (by omega) (by omega)]
  rw [inR_pos (i := i + 1) (n := N) (by omega) (by omega), gd, bsel_t, show envL0 m 92 [rv (some 0), iv (xs (i + 1).toNat)] s = some (r, s1) from e1, Option.bind_some]
  rw [inR_pos (i := i + 1) (n := N) (by omega) (by omega), bsel_t, show envL0 m 256 [rv (some 249), iv (xs (i + 1).toNat)] s1 = some (r, s2) from e2, Option.bind_some, if_pos rfl]
theorem lc_22 {m : Nat} (hm : 10000 ≤ m) (N : Nat) (xs : Nat → Int) (n : Nat) {i : Int} {s : mS} {cs : Nat × Nat} (hi : Inv s) (h0 : 0 ≤ i) (h1 : i + 5 < (N : Int)) (h2 : N ≤ 3072) (hc : cs.1 + 64 ≤ 601024 ∧ cs.2 + 1000 ≤ 7293034) : ∃ s2, Inv s2 ∧ zlw Z0 (envL0 m) (ewL m) N xs (n + 1) 869 i s cs = zlw Z0 (envL0 m) (ewL m) N xs n 1405 i s2 cs := by
  obtain ⟨r, s1, s2, e1, e2, h3⟩ := S_who (m := m) (by omega)  s hi
  refine ⟨s2, h3, ?_⟩
  have gd := gd_t (cs := cs) ⟨by omega, by omega⟩
  rw [zlw_869]
  rw [gd, bsel_t, show envL0 m 93 [rv (some 0)] s = some (r, s1) from e1, Option.bind_some]
  rw [bsel_t, show envL0 m 257 [rv (some 249)] s1 = some (r, s2) from e2, Option.bind_some, if_pos rfl]
theorem lc_23 {m : Nat} (hm : 10000 ≤ m) (N : Nat) (xs : Nat → Int) (n : Nat) {i : Int} {s : mS} {cs : Nat × Nat} (hi : Inv s) (h0 : 0 ≤ i) (h1 : i + 5 < (N : Int)) (h2 : N ≤ 3072) (hc : cs.1 + 64 ≤ 601024 ∧ cs.2 + 1000 ≤ 7293034) : ∃ s2, Inv s2 ∧ zlw Z0 (envL0 m) (ewL m) N xs (n + 1) 882 i s cs = zlw Z0 (envL0 m) (ewL m) N xs n 1405 i s2 cs := by
  obtain ⟨r, s1, s2, e1, e2, h3⟩ := S_ask m  s hi
  refine ⟨s2, h3, ?_⟩
  have gd := gd_t (cs := cs) ⟨by omega, by omega⟩
  rw [zlw_882]
  rw [gd, bsel_t, show envL0 m 101 [rv (some 0)] s = some (r, s1) from e1, Option.bind_some]
  rw [bsel_t, show envL0 m 261 [rv (some 249)] s1 = some (r, s2) from e2, Option.bind_some, if_pos rfl]
theorem lc_24 {m : Nat} (hm : 10000 ≤ m) (N : Nat) (xs : Nat → Int) (n : Nat) {i : Int} {s : mS} {cs : Nat × Nat} (hi : Inv s) (h0 : 0 ≤ i) (h1 : i + 5 < (N : Int)) (h2 : N ≤ 3072) (hc : cs.1 + 64 ≤ 601024 ∧ cs.2 + 1000 ≤ 7293034) : ∃ s2, Inv s2 ∧ zlw Z0 (envL0 m) (ewL m) N xs (n + 1) 895 i s cs = zlw Z0 (envL0 m) (ewL m) N xs n 1405 i s2 cs := by
  obtain ⟨r, s1, s2, e1, e2, h3⟩ := S_near (m := m) (by omega) (xs (i + 1).toNat) (xs (i + 2).toNat) s hi
  refine ⟨s2, h3, ?_⟩
  have gd := gd_t (cs := cs) ⟨by omega, by omega⟩
  rw [zlw_895, z0i (k := 1) h0 (by omega) (by omega) (by omega), z0i (k := 2) h0 (by omega) (by omega) (by omega)]
  rw [inR_pos (i := i + 1) (n := N) (by omega) (by omega), inR_pos (i := i + 2) (n := N) (by omega) (by omega), gd, bsel_t, show envL0 m 102 [rv (some 0), iv (xs (i + 1).toNat), iv (xs (i + 2).toNat)] s = some (r, s1) from e1, Option.bind_some]
  rw [inR_pos (i := i + 1) (n := N) (by omega) (by omega), inR_pos (i := i + 2) (n := N) (by omega) (by omega), bsel_t, show envL0 m 262 [rv (some 249), iv (xs (i + 1).toNat), iv (xs (i + 2).toNat)] s1 = some (r, s2) from e2, Option.bind_some, if_pos rfl]
theorem lc_25 {m : Nat} (hm : 10000 ≤ m) (N : Nat) (xs : Nat → Int) (n : Nat) {i : Int} {s : mS} {cs : Nat × Nat} (hi : Inv s) (h0 : 0 ≤ i) (h1 : i + 5 < (N : Int)) (h2 : N ≤ 3072) (hc : cs.1 + 64 ≤ 601024 ∧ cs.2 + 1000 ≤ 7293034) : ∃ s2, Inv s2 ∧ zlw Z0 (envL0 m) (ewL m) N xs (n + 1) 932 i s cs = zlw Z0 (envL0 m) (ewL m) N xs n 1405 i s2 cs := by
  obtain ⟨r, s1, s2, e1, e2, h3⟩ := S_had m (xs (i + 1).toNat) (xs (i + 2).toNat) s hi
  refine ⟨s2, h3, ?_⟩
  have gd := gd_t (cs := cs) ⟨by omega, by omega⟩
  rw [zlw_932, z0i (k := 1) h0 (by omega) (by omega) (by omega), z0i (k := 2) h0 (by omega) (by omega) (by omega)]
  rw [inR_pos (i := i + 1) (n := N) (by omega) (by omega), inR_pos (i := i + 2) (n := N) (by omega) (by omega), gd, bsel_t, show envL0 m 104 [rv (some 0), iv (xs (i + 1).toNat), iv (xs (i + 2).toNat)] s = some (r, s1) from e1, Option.bind_some]
  rw [inR_pos (i := i + 1) (n := N) (by omega) (by omega), inR_pos (i := i + 2) (n := N) (by omega) (by omega), bsel_t, show envL0 m 219 [rv (some 249), iv (xs (i + 1).toNat), iv (xs (i + 2).toNat)] s1 = some (r, s2) from e2, Option.bind_some, if_pos rfl]
theorem lc_26 {m : Nat} (hm : 10000 ≤ m) (N : Nat) (xs : Nat → Int) (n : Nat) {i : Int} {s : mS} {cs : Nat × Nat} (hi : Inv s) (h0 : 0 ≤ i) (h1 : i + 5 < (N : Int)) (h2 : N ≤ 3072) (hc : cs.1 + 64 ≤ 601024 ∧ cs.2 + 1000 ≤ 7293034) : ∃ s2, Inv s2 ∧ zlw Z0 (envL0 m) (ewL m) N xs (n + 3) 969 i s cs = zlw Z0 (envL0 m) (ewL m) N xs n 1405 i s2 (cs.1 + 64, cs.2 + 1000) := by
  have gd := gd_u (cs := cs) hc
  have gd2 := gd_t (cs := (cs.1 + 64, cs.2 + 1000)) hc
  have hS := S_wear (m := m) (by omega) (xs (i + 1).toNat) (xs (i + 2).toNat)
  rw [show n + 3 = (n + 2) + 1 from rfl, zlw_969, z0i (k := 1) h0 (by omega) (by omega) (by omega), z0i (k := 2) h0 (by omega) (by omega) (by omega), inR_pos (i := i + 1) (n := N) (by omega) (by omega), inR_pos (i := i + 2) (n := N) (by omega) (by omega), show n + 2 = (n + 1) + 1 from rfl, zlw_983, gd, bsel_t, ewL_wear hi]
  unfold wW
  by_cases c : (0 ≤ xs (i + 1).toNat ∧ xs (i + 1).toNat < s.1 251 0) ∧ 0 ≤ xs (i + 2).toNat ∧ xs (i + 2).toNat ≤ 1
  · obtain ⟨r, e1, -⟩ := (hS s hi).1 c
    rw [if_pos c, e1, Option.bind_some, Option.bind_some]
    obtain ⟨r2, e2, e3⟩ := (hS (wJ s 269 0 r) (Inv_out hi r)).1 c
    have e4 := wear_J (by omega) hi c.1 c.2 e1 (v := r)
    have er : r2 = r := (Prod.mk.inj (Option.some.inj (e2.symm.trans e4))).1
    subst er
    refine ⟨wI (wJ s 269 0 r2) 249 0 0, Inv_thrown (Inv_out hi r2) 0, ?_⟩
    rw [zlw_986, z0i (k := 1) h0 (by omega) (by omega) (by omega), z0i (k := 2) h0 (by omega) (by omega) (by omega), inR_pos (i := i + 1) (n := N) (by omega) (by omega), inR_pos (i := i + 2) (n := N) (by omega) (by omega), gd2, bsel_t, show envL0 m 263 [rv (some 249), iv (xs (i + 1).toNat), iv (xs (i + 2).toNat)] (wJ s 269 0 r2) = some (r2, wI (wJ s 269 0 r2) 249 0 0) from e3, Option.bind_some, bsel_t]
    rw [show envL0 m 170 [rv (some 249)] (wI (wJ s 269 0 r2) 249 0 0) = some (0, wI (wJ s 269 0 r2) 249 0 0) from thr_0 m _ wI_at, Option.bind_some, if_pos rfl, if_pos rfl, inR_pos (by decide) (by decide)]
    rw [show Z0 20 ((wI (wJ s 269 0 r2) 249 0 0).2 269 (0 : Int).toNat) r2 = 0 from cmp_0 _ _ _, if_pos rfl]
  · rw [if_neg c, Option.bind_some]
    have e3 := (hS s hi).2 c
    refine ⟨wI (wI s 249 0 0) 249 0 1, Inv_thrown (Inv_thrown hi 0) 1, ?_⟩
    rw [zlw_986, z0i (k := 1) h0 (by omega) (by omega) (by omega), z0i (k := 2) h0 (by omega) (by omega) (by omega), inR_pos (i := i + 1) (n := N) (by omega) (by omega), inR_pos (i := i + 2) (n := N) (by omega) (by omega), gd2, bsel_t, show envL0 m 263 [rv (some 249), iv (xs (i + 1).toNat), iv (xs (i + 2).toNat)] s = some (0, wI (wI s 249 0 0) 249 0 1) from e3, Option.bind_some, bsel_t]
    rw [show envL0 m 170 [rv (some 249)] (wI (wI s 249 0 0) 249 0 1) = some (1, wI (wI s 249 0 0) 249 0 1) from thr_0 m _ wI_at, Option.bind_some, if_pos rfl, if_neg (show ¬ (1 : Int) = 0 from by decide)]
theorem lc_27 {m : Nat} (hm : 10000 ≤ m) (N : Nat) (xs : Nat → Int) (n : Nat) {i : Int} {s : mS} {cs : Nat × Nat} (hi : Inv s) (h0 : 0 ≤ i) (h1 : i + 5 < (N : Int)) (h2 : N ≤ 3072) (hc : cs.1 + 64 ≤ 601024 ∧ cs.2 + 1000 ≤ 7293034) : ∃ s2, Inv s2 ∧ zlw Z0 (envL0 m) (ewL m) N xs (n + 3) 1037 i s cs = zlw Z0 (envL0 m) (ewL m) N xs n 1405 i s2 (cs.1 + 64, cs.2 + 1000) := by
  have gd := gd_u (cs := cs) hc
  have gd2 := gd_t (cs := (cs.1 + 64, cs.2 + 1000)) hc
  have hS := S_mean (m := m) (by omega) (xs (i + 1).toNat)
  rw [show n + 3 = (n + 2) + 1 from rfl, zlw_1037, z0i (k := 1) h0 (by omega) (by omega) (by omega), inR_pos (i := i + 1) (n := N) (by omega) (by omega), show n + 2 = (n + 1) + 1 from rfl, zlw_1045, gd, bsel_t, ewL_mean hi]
  unfold uW
  by_cases c : s.1 251 2 ≠ 0 ∧ 0 ≤ xs (i + 1).toNat ∧ xs (i + 1).toNat ≤ 1
  · obtain ⟨r, e1, -⟩ := (hS s hi).1 c
    rw [if_pos c, e1, Option.bind_some, Option.bind_some]
    obtain ⟨r2, e2, e3⟩ := (hS (wJ s 269 0 r) (Inv_out hi r)).1 c
    have e4 := mean_J (by omega) hi c.1 c.2 e1 (v := r)
    have er : r2 = r := (Prod.mk.inj (Option.some.inj (e2.symm.trans e4))).1
    subst er
    refine ⟨wI (wJ s 269 0 r2) 249 0 0, Inv_thrown (Inv_out hi r2) 0, ?_⟩
    rw [zlw_1048, z0i (k := 1) h0 (by omega) (by omega) (by omega), inR_pos (i := i + 1) (n := N) (by omega) (by omega), gd2, bsel_t, show envL0 m 266 [rv (some 249), iv (xs (i + 1).toNat)] (wJ s 269 0 r2) = some (r2, wI (wJ s 269 0 r2) 249 0 0) from e3, Option.bind_some, bsel_t]
    rw [show envL0 m 170 [rv (some 249)] (wI (wJ s 269 0 r2) 249 0 0) = some (0, wI (wJ s 269 0 r2) 249 0 0) from thr_0 m _ wI_at, Option.bind_some, if_pos rfl, if_pos rfl, inR_pos (by decide) (by decide)]
    rw [show Z0 20 ((wI (wJ s 269 0 r2) 249 0 0).2 269 (0 : Int).toNat) r2 = 0 from cmp_0 _ _ _, if_pos rfl]
  · rw [if_neg c, Option.bind_some]
    have e3 := (hS s hi).2 c
    refine ⟨wI (wI s 249 0 0) 249 0 1, Inv_thrown (Inv_thrown hi 0) 1, ?_⟩
    rw [zlw_1048, z0i (k := 1) h0 (by omega) (by omega) (by omega), inR_pos (i := i + 1) (n := N) (by omega) (by omega), gd2, bsel_t, show envL0 m 266 [rv (some 249), iv (xs (i + 1).toNat)] s = some (0, wI (wI s 249 0 0) 249 0 1) from e3, Option.bind_some, bsel_t]
    rw [show envL0 m 170 [rv (some 249)] (wI (wI s 249 0 0) 249 0 1) = some (1, wI (wI s 249 0 0) 249 0 1) from thr_0 m _ wI_at, Option.bind_some, if_pos rfl, if_neg (show ¬ (1 : Int) = 0 from by decide)]
theorem lc_28 {m : Nat} (hm : 10000 ≤ m) (N : Nat) (xs : Nat → Int) (n : Nat) {i : Int} {s : mS} {cs : Nat × Nat} (hi : Inv s) (h0 : 0 ≤ i) (h1 : i + 5 < (N : Int)) (h2 : N ≤ 3072) (hc : cs.1 + 64 ≤ 601024 ∧ cs.2 + 1000 ≤ 7293034) : ∃ s2, Inv s2 ∧ zlw Z0 (envL0 m) (ewL m) N xs (n + 1) 1093 i s cs = zlw Z0 (envL0 m) (ewL m) N xs n 1405 i s2 cs := by
  obtain ⟨r, s1, s2, e1, e2, h3⟩ := S_longest (m := m) (by omega)  s hi
  refine ⟨s2, h3, ?_⟩
  have gd := gd_t (cs := cs) ⟨by omega, by omega⟩
  rw [zlw_1093]
  rw [gd, bsel_t, show envL0 m 105 [rv (some 0)] s = some (r, s1) from e1, Option.bind_some]
  rw [bsel_t, show envL0 m 267 [rv (some 249)] s1 = some (r, s2) from e2, Option.bind_some, if_pos rfl]
theorem lc_29 {m : Nat} (hm : 10000 ≤ m) (N : Nat) (xs : Nat → Int) (n : Nat) {i : Int} {s : mS} {cs : Nat × Nat} (hi : Inv s) (h0 : 0 ≤ i) (h1 : i + 5 < (N : Int)) (h2 : N ≤ 3072) (hc : cs.1 + 64 ≤ 601024 ∧ cs.2 + 1000 ≤ 7293034) : ∃ s2, Inv s2 ∧ zlw Z0 (envL0 m) (ewL m) N xs (n + 1) 1106 i s cs = zlw Z0 (envL0 m) (ewL m) N xs n 1405 i s2 cs := by
  obtain ⟨r, s1, s2, e1, e2, h3⟩ := S_tag (m := m) (by omega) (xs (i + 1).toNat) s hi
  refine ⟨s2, h3, ?_⟩
  have gd := gd_t (cs := cs) ⟨by omega, by omega⟩
  rw [zlw_1106, z0i (k := 1) h0 (by omega) (by omega) (by omega)]
  rw [inR_pos (i := i + 1) (n := N) (by omega) (by omega), gd, bsel_t, show envL0 m 106 [rv (some 0), iv (xs (i + 1).toNat)] s = some (r, s1) from e1, Option.bind_some]
  rw [inR_pos (i := i + 1) (n := N) (by omega) (by omega), bsel_t, show envL0 m 268 [rv (some 249), iv (xs (i + 1).toNat)] s1 = some (r, s2) from e2, Option.bind_some, if_pos rfl]
theorem lc_30 {m : Nat} (hm : 10000 ≤ m) (N : Nat) (xs : Nat → Int) (n : Nat) {i : Int} {s : mS} {cs : Nat × Nat} (hi : Inv s) (h0 : 0 ≤ i) (h1 : i + 5 < (N : Int)) (h2 : N ≤ 3072) (hc : cs.1 + 64 ≤ 601024 ∧ cs.2 + 1000 ≤ 7293034) : ∃ s2, Inv s2 ∧ zlw Z0 (envL0 m) (ewL m) N xs (n + 1) 1131 i s cs = zlw Z0 (envL0 m) (ewL m) N xs n 1405 i s2 cs := by
  obtain ⟨r, s1, s2, e1, e2, h3⟩ := S_byteAt m (xs (i + 1).toNat) s hi
  refine ⟨s2, h3, ?_⟩
  have gd := gd_t (cs := cs) ⟨by omega, by omega⟩
  rw [zlw_1131, z0i (k := 1) h0 (by omega) (by omega) (by omega)]
  rw [inR_pos (i := i + 1) (n := N) (by omega) (by omega), gd, bsel_t, show envL0 m 121 [rv (some 0), iv (xs (i + 1).toNat)] s = some (r, s1) from e1, Option.bind_some]
  rw [inR_pos (i := i + 1) (n := N) (by omega) (by omega), bsel_t, show envL0 m 272 [rv (some 249), iv (xs (i + 1).toNat)] s1 = some (r, s2) from e2, Option.bind_some, if_pos rfl]
theorem lc_31 {m : Nat} (hm : 10000 ≤ m) (N : Nat) (xs : Nat → Int) (n : Nat) {i : Int} {s : mS} {cs : Nat × Nat} (hi : Inv s) (h0 : 0 ≤ i) (h1 : i + 5 < (N : Int)) (h2 : N ≤ 3072) (hc : cs.1 + 64 ≤ 601024 ∧ cs.2 + 1000 ≤ 7293034) : ∃ s2, Inv s2 ∧ zlw Z0 (envL0 m) (ewL m) N xs (n + 1) 1156 i s cs = zlw Z0 (envL0 m) (ewL m) N xs n 1405 i s2 cs := by
  obtain ⟨r, s1, s2, e1, e2, h3⟩ := S_drawn (m := m) (by omega) (xs (i + 1).toNat) (xs (i + 2).toNat) s hi
  refine ⟨s2, h3, ?_⟩
  have gd := gd_t (cs := cs) ⟨by omega, by omega⟩
  rw [zlw_1156, z0i (k := 1) h0 (by omega) (by omega) (by omega), z0i (k := 2) h0 (by omega) (by omega) (by omega)]
  rw [inR_pos (i := i + 1) (n := N) (by omega) (by omega), inR_pos (i := i + 2) (n := N) (by omega) (by omega), gd, bsel_t, show envL0 m 122 [rv (some 0), iv (xs (i + 1).toNat), iv (xs (i + 2).toNat)] s = some (r, s1) from e1, Option.bind_some]
  rw [inR_pos (i := i + 1) (n := N) (by omega) (by omega), inR_pos (i := i + 2) (n := N) (by omega) (by omega), bsel_t, show envL0 m 273 [rv (some 249), iv (xs (i + 1).toNat), iv (xs (i + 2).toNat)] s1 = some (r, s2) from e2, Option.bind_some, if_pos rfl]
theorem lc_32 {m : Nat} (hm : 10000 ≤ m) (N : Nat) (xs : Nat → Int) (n : Nat) {i : Int} {s : mS} {cs : Nat × Nat} (hi : Inv s) (h0 : 0 ≤ i) (h1 : i + 5 < (N : Int)) (h2 : N ≤ 3072) (hc : cs.1 + 64 ≤ 601024 ∧ cs.2 + 1000 ≤ 7293034) : ∃ s2, Inv s2 ∧ zlw Z0 (envL0 m) (ewL m) N xs (n + 1) 1193 i s cs = zlw Z0 (envL0 m) (ewL m) N xs n 1405 i s2 cs := by
  obtain ⟨r, s1, s2, e1, e2, h3⟩ := S_odds (m := m) (by omega) (xs (i + 1).toNat) (xs (i + 2).toNat) (xs (i + 3).toNat) s hi
  refine ⟨s2, h3, ?_⟩
  have gd := gd_t (cs := cs) ⟨by omega, by omega⟩
  rw [zlw_1193, z0i (k := 1) h0 (by omega) (by omega) (by omega), z0i (k := 2) h0 (by omega) (by omega) (by omega), z0i (k := 3) h0 (by omega) (by omega) (by omega)]
  rw [inR_pos (i := i + 1) (n := N) (by omega) (by omega), inR_pos (i := i + 2) (n := N) (by omega) (by omega), inR_pos (i := i + 3) (n := N) (by omega) (by omega), gd, bsel_t, show envL0 m 126 [rv (some 0), iv (xs (i + 1).toNat), iv (xs (i + 2).toNat), iv (xs (i + 3).toNat)] s = some (r, s1) from e1, Option.bind_some]
  rw [inR_pos (i := i + 1) (n := N) (by omega) (by omega), inR_pos (i := i + 2) (n := N) (by omega) (by omega), inR_pos (i := i + 3) (n := N) (by omega) (by omega), bsel_t, show envL0 m 279 [rv (some 249), iv (xs (i + 1).toNat), iv (xs (i + 2).toNat), iv (xs (i + 3).toNat)] s1 = some (r, s2) from e2, Option.bind_some, if_pos rfl]
theorem lc_33 {m : Nat} (hm : 10000 ≤ m) (N : Nat) (xs : Nat → Int) (n : Nat) {i : Int} {s : mS} {cs : Nat × Nat} (hi : Inv s) (h0 : 0 ≤ i) (h1 : i + 5 < (N : Int)) (h2 : N ≤ 3072) (hc : cs.1 + 64 ≤ 601024 ∧ cs.2 + 1000 ≤ 7293034) : ∃ s2, Inv s2 ∧ zlw Z0 (envL0 m) (ewL m) N xs (n + 1) 1242 i s cs = zlw Z0 (envL0 m) (ewL m) N xs n 1405 i s2 cs := by
  obtain ⟨r, s1, s2, e1, e2, h3⟩ := S_book (m := m) (by omega) (xs (i + 1).toNat) s hi
  refine ⟨s2, h3, ?_⟩
  have gd := gd_t (cs := cs) ⟨by omega, by omega⟩
  rw [zlw_1242, z0i (k := 1) h0 (by omega) (by omega) (by omega)]
  rw [inR_pos (i := i + 1) (n := N) (by omega) (by omega), gd, bsel_t, show envL0 m 127 [rv (some 0), iv (xs (i + 1).toNat)] s = some (r, s1) from e1, Option.bind_some]
  rw [inR_pos (i := i + 1) (n := N) (by omega) (by omega), bsel_t, show envL0 m 280 [rv (some 249), iv (xs (i + 1).toNat)] s1 = some (r, s2) from e2, Option.bind_some, if_pos rfl]
theorem lc_34 {m : Nat} (hm : 10000 ≤ m) (N : Nat) (xs : Nat → Int) (n : Nat) {i : Int} {s : mS} {cs : Nat × Nat} (hi : Inv s) (h0 : 0 ≤ i) (h1 : i + 5 < (N : Int)) (h2 : N ≤ 3072) (hc : cs.1 + 64 ≤ 601024 ∧ cs.2 + 1000 ≤ 7293034) : ∃ s2, Inv s2 ∧ zlw Z0 (envL0 m) (ewL m) N xs (n + 1) 1267 i s cs = zlw Z0 (envL0 m) (ewL m) N xs n 1405 i s2 cs := by
  obtain ⟨r, s1, s2, e1, e2, h3⟩ := S_told m (xs (i + 1).toNat) s hi
  refine ⟨s2, h3, ?_⟩
  have gd := gd_t (cs := cs) ⟨by omega, by omega⟩
  rw [zlw_1267, z0i (k := 1) h0 (by omega) (by omega) (by omega)]
  rw [inR_pos (i := i + 1) (n := N) (by omega) (by omega), gd, bsel_t, show envL0 m 136 [rv (some 0), iv (xs (i + 1).toNat)] s = some (r, s1) from e1, Option.bind_some]
  rw [inR_pos (i := i + 1) (n := N) (by omega) (by omega), bsel_t, show envL0 m 289 [rv (some 249), iv (xs (i + 1).toNat)] s1 = some (r, s2) from e2, Option.bind_some, if_pos rfl]
theorem lc_35 {m : Nat} (hm : 10000 ≤ m) (N : Nat) (xs : Nat → Int) (n : Nat) {i : Int} {s : mS} {cs : Nat × Nat} (hi : Inv s) (h0 : 0 ≤ i) (h1 : i + 5 < (N : Int)) (h2 : N ≤ 3072) (hc : cs.1 + 64 ≤ 601024 ∧ cs.2 + 1000 ≤ 7293034) : ∃ s2, Inv s2 ∧ zlw Z0 (envL0 m) (ewL m) N xs (n + 1) 1292 i s cs = zlw Z0 (envL0 m) (ewL m) N xs n 1405 i s2 cs := by
  obtain ⟨r, s1, s2, e1, e2, h3⟩ := S_sentence (m := m) (by omega)  s hi
  refine ⟨s2, h3, ?_⟩
  have gd := gd_t (cs := cs) ⟨by omega, by omega⟩
  rw [zlw_1292]
  rw [gd, bsel_t, show envL0 m 137 [rv (some 0)] s = some (r, s1) from e1, Option.bind_some]
  rw [bsel_t, show envL0 m 290 [rv (some 249)] s1 = some (r, s2) from e2, Option.bind_some, if_pos rfl]
theorem lc_36 {m : Nat} (hm : 10000 ≤ m) (N : Nat) (xs : Nat → Int) (n : Nat) {i : Int} {s : mS} {cs : Nat × Nat} (hi : Inv s) (h0 : 0 ≤ i) (h1 : i + 5 < (N : Int)) (h2 : N ≤ 3072) (hc : cs.1 + 64 ≤ 601024 ∧ cs.2 + 1000 ≤ 7293034) : ∃ s2, Inv s2 ∧ zlw Z0 (envL0 m) (ewL m) N xs (n + 1) 1305 i s cs = zlw Z0 (envL0 m) (ewL m) N xs n 1405 i s2 cs := by
  obtain ⟨r, s1, s2, e1, e2, h3⟩ := S_said (m := m) (by omega) (xs (i + 1).toNat) s hi
  refine ⟨s2, h3, ?_⟩
  have gd := gd_t (cs := cs) ⟨by omega, by omega⟩
  rw [zlw_1305, z0i (k := 1) h0 (by omega) (by omega) (by omega)]
  rw [inR_pos (i := i + 1) (n := N) (by omega) (by omega), gd, bsel_t, show envL0 m 148 [rv (some 0), iv (xs (i + 1).toNat)] s = some (r, s1) from e1, Option.bind_some]
  rw [inR_pos (i := i + 1) (n := N) (by omega) (by omega), bsel_t, show envL0 m 300 [rv (some 249), iv (xs (i + 1).toNat)] s1 = some (r, s2) from e2, Option.bind_some, if_pos rfl]
theorem lc_37 {m : Nat} (hm : 10000 ≤ m) (N : Nat) (xs : Nat → Int) (n : Nat) {i : Int} {s : mS} {cs : Nat × Nat} (hi : Inv s) (h0 : 0 ≤ i) (h1 : i + 5 < (N : Int)) (h2 : N ≤ 3072) (hc : cs.1 + 64 ≤ 601024 ∧ cs.2 + 1000 ≤ 7293034) : ∃ s2, Inv s2 ∧ zlw Z0 (envL0 m) (ewL m) N xs (n + 1) 1330 i s cs = zlw Z0 (envL0 m) (ewL m) N xs n 1405 i s2 cs := by
  obtain ⟨r, s1, s2, e1, e2, h3⟩ := S_image (m := m) (by omega) (xs (i + 1).toNat) s hi
  refine ⟨s2, h3, ?_⟩
  have gd := gd_t (cs := cs) ⟨by omega, by omega⟩
  rw [zlw_1330, z0i (k := 1) h0 (by omega) (by omega) (by omega)]
  rw [inR_pos (i := i + 1) (n := N) (by omega) (by omega), gd, bsel_t, show envL0 m 153 [rv (some 0), iv (xs (i + 1).toNat)] s = some (r, s1) from e1, Option.bind_some]
  rw [inR_pos (i := i + 1) (n := N) (by omega) (by omega), bsel_t, show envL0 m 302 [rv (some 249), iv (xs (i + 1).toNat)] s1 = some (r, s2) from e2, Option.bind_some, if_pos rfl]
theorem lc_38 {m : Nat} (hm : 10000 ≤ m) (N : Nat) (xs : Nat → Int) (n : Nat) {i : Int} {s : mS} {cs : Nat × Nat} (hi : Inv s) (h0 : 0 ≤ i) (h1 : i + 5 < (N : Int)) (h2 : N ≤ 3072) (hc : cs.1 + 64 ≤ 601024 ∧ cs.2 + 1000 ≤ 7293034) : ∃ s2, Inv s2 ∧ zlw Z0 (envL0 m) (ewL m) N xs (n + 1) 1355 i s cs = zlw Z0 (envL0 m) (ewL m) N xs n 1405 i s2 cs := by
  obtain ⟨r, s1, s2, e1, e2, h3⟩ := S_restore (m := m) (by omega) (xs (i + 1).toNat) s hi
  refine ⟨s2, h3, ?_⟩
  have gd := gd_t (cs := cs) ⟨by omega, by omega⟩
  rw [zlw_1355, z0i (k := 1) h0 (by omega) (by omega) (by omega)]
  rw [inR_pos (i := i + 1) (n := N) (by omega) (by omega), gd, bsel_t, show envL0 m 155 [rv (some 0), iv (xs (i + 1).toNat)] s = some (r, s1) from e1, Option.bind_some]
  rw [inR_pos (i := i + 1) (n := N) (by omega) (by omega), bsel_t, show envL0 m 303 [rv (some 249), iv (xs (i + 1).toNat)] s1 = some (r, s2) from e2, Option.bind_some, if_pos rfl]
theorem lc_39 {m : Nat} (hm : 10000 ≤ m) (N : Nat) (xs : Nat → Int) (n : Nat) {i : Int} {s : mS} {cs : Nat × Nat} (hi : Inv s) (h0 : 0 ≤ i) (h1 : i + 5 < (N : Int)) (h2 : N ≤ 3072) (hc : cs.1 + 64 ≤ 601024 ∧ cs.2 + 1000 ≤ 7293034) : ∃ s2, Inv s2 ∧ zlw Z0 (envL0 m) (ewL m) N xs (n + 1) 1380 i s cs = zlw Z0 (envL0 m) (ewL m) N xs n 1405 i s2 cs := by
  obtain ⟨r, s1, s2, e1, e2, h3⟩ := S_count m (xs (i + 1).toNat) s hi
  refine ⟨s2, h3, ?_⟩
  have gd := gd_t (cs := cs) ⟨by omega, by omega⟩
  rw [zlw_1380, z0i (k := 1) h0 (by omega) (by omega) (by omega)]
  rw [inR_pos (i := i + 1) (n := N) (by omega) (by omega), gd, bsel_t, show envL0 m 156 [rv (some 0), iv (xs (i + 1).toNat)] s = some (r, s1) from e1, Option.bind_some]
  rw [inR_pos (i := i + 1) (n := N) (by omega) (by omega), bsel_t, show envL0 m 304 [rv (some 249), iv (xs (i + 1).toNat)] s1 = some (r, s2) from e2, Option.bind_some, if_pos rfl]
