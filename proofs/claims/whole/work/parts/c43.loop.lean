/-! ===== the law's loop: it answers 1 ===== -/
theorem tsw_or {α : Type} {k : Nat → Option α} {d : Nat} : ∀ (l : List Nat) (x lo : Int), tsw x lo d l k = k d ∨ ∃ o ∈ l, tsw x lo d l k = k o
  | [], x, lo => Or.inl rfl
  | o :: t, x, lo => by
    by_cases h : x = lo
    · exact Or.inr ⟨o, List.mem_cons_self, if_pos h⟩
    · have e : tsw x lo d (o :: t) k = tsw x (lo + 1) d t k := if_neg h
      rw [e]
      rcases tsw_or t x (lo + 1) with h1 | ⟨q, h1, h2⟩
      · exact Or.inl h1
      · exact Or.inr ⟨q, List.mem_cons_of_mem _ h1, h2⟩
def pcs : List Nat := [216, 289, 314, 327, 340, 377, 414, 482, 507, 544, 581, 618, 643, 668, 681, 694, 719, 744, 757, 782, 819, 844, 869, 882, 895, 932, 969, 1037, 1093, 1106, 1131, 1156, 1193, 1242, 1267, 1292, 1305, 1330, 1355, 1380]
/-- one turn's work ends at 1405 -/
def Turn (m N : Nat) (xs : Nat → Int) (pc : Nat) : Prop := ∀ (n : Nat) (i : Int) (s : mS) (cs : Nat × Nat), Inv s → 0 ≤ i → i + 5 < (N : Int) → cs.1 + 64 ≤ 601024 ∧ cs.2 + 1000 ≤ 7293034 →
  ∃ n' s2 cs2, n ≤ n' ∧ Inv s2 ∧ cs2.1 ≤ cs.1 + 64 ∧ cs2.2 ≤ cs.2 + 1000 ∧ zlw Z0 (envL0 m) (ewL m) N xs (n + 3) pc i s cs = zlw Z0 (envL0 m) (ewL m) N xs n' 1405 i s2 cs2
theorem turn_1 {m N pc : Nat} {xs : Nat → Int} (h : ∀ (n : Nat) (i : Int) (s : mS) (cs : Nat × Nat), Inv s → 0 ≤ i → i + 5 < (N : Int) → cs.1 + 64 ≤ 601024 ∧ cs.2 + 1000 ≤ 7293034 → ∃ s2, Inv s2 ∧ zlw Z0 (envL0 m) (ewL m) N xs (n + 1) pc i s cs = zlw Z0 (envL0 m) (ewL m) N xs n 1405 i s2 cs) : Turn m N xs pc := by
  intro n i s cs h1 h2 h3 h4
  obtain ⟨s2, h5, h6⟩ := h (n + 2) i s cs h1 h2 h3 h4
  exact ⟨n + 2, s2, cs, by omega, h5, by omega, by omega, h6⟩
theorem turn_3 {m N pc : Nat} {xs : Nat → Int} (h : ∀ (n : Nat) (i : Int) (s : mS) (cs : Nat × Nat), Inv s → 0 ≤ i → i + 5 < (N : Int) → cs.1 + 64 ≤ 601024 ∧ cs.2 + 1000 ≤ 7293034 → ∃ s2, Inv s2 ∧ zlw Z0 (envL0 m) (ewL m) N xs (n + 3) pc i s cs = zlw Z0 (envL0 m) (ewL m) N xs n 1405 i s2 (cs.1 + 64, cs.2 + 1000)) : Turn m N xs pc := by
  intro n i s cs h1 h2 h3 h4
  obtain ⟨s2, h5, h6⟩ := h n i s cs h1 h2 h3 h4
  exact ⟨n, s2, _, Nat.le_refl _, h5, Nat.le_refl _, Nat.le_refl _, h6⟩
theorem turns {m : Nat} (hm : 10000 ≤ m) {N : Nat} (h2 : N ≤ 3072) (xs : Nat → Int) : ∀ q ∈ pcs, Turn m N xs q := by
  intro q hq
  rcases List.mem_cons.mp hq with rfl | hq
  · exact turn_1 (fun n i s cs a b c d => lc_0 hm N xs n a b c h2 d)
  rcases List.mem_cons.mp hq with rfl | hq
  · exact turn_1 (fun n i s cs a b c d => lc_1 hm N xs n a b c h2 d)
  rcases List.mem_cons.mp hq with rfl | hq
  · exact turn_1 (fun n i s cs a b c d => lc_2 hm N xs n a b c h2 d)
  rcases List.mem_cons.mp hq with rfl | hq
  · exact turn_1 (fun n i s cs a b c d => lc_3 hm N xs n a b c h2 d)
  rcases List.mem_cons.mp hq with rfl | hq
  · exact turn_1 (fun n i s cs a b c d => lc_4 hm N xs n a b c h2 d)
  rcases List.mem_cons.mp hq with rfl | hq
  · exact turn_1 (fun n i s cs a b c d => lc_5 hm N xs n a b c h2 d)
  rcases List.mem_cons.mp hq with rfl | hq
  · exact turn_3 (fun n i s cs a b c d => lc_6 hm N xs n a b c h2 d)
  rcases List.mem_cons.mp hq with rfl | hq
  · exact turn_1 (fun n i s cs a b c d => lc_7 hm N xs n a b c h2 d)
  rcases List.mem_cons.mp hq with rfl | hq
  · exact turn_1 (fun n i s cs a b c d => lc_8 hm N xs n a b c h2 d)
  rcases List.mem_cons.mp hq with rfl | hq
  · exact turn_1 (fun n i s cs a b c d => lc_9 hm N xs n a b c h2 d)
  rcases List.mem_cons.mp hq with rfl | hq
  · exact turn_1 (fun n i s cs a b c d => lc_10 hm N xs n a b c h2 d)
  rcases List.mem_cons.mp hq with rfl | hq
  · exact turn_1 (fun n i s cs a b c d => lc_11 hm N xs n a b c h2 d)
  rcases List.mem_cons.mp hq with rfl | hq
  · exact turn_1 (fun n i s cs a b c d => lc_12 hm N xs n a b c h2 d)
  rcases List.mem_cons.mp hq with rfl | hq
  · exact turn_1 (fun n i s cs a b c d => lc_13 hm N xs n a b c h2 d)
  rcases List.mem_cons.mp hq with rfl | hq
  · exact turn_1 (fun n i s cs a b c d => lc_14 hm N xs n a b c h2 d)
  rcases List.mem_cons.mp hq with rfl | hq
  · exact turn_1 (fun n i s cs a b c d => lc_15 hm N xs n a b c h2 d)
  rcases List.mem_cons.mp hq with rfl | hq
  · exact turn_1 (fun n i s cs a b c d => lc_16 hm N xs n a b c h2 d)
  rcases List.mem_cons.mp hq with rfl | hq
  · exact turn_1 (fun n i s cs a b c d => lc_17 hm N xs n a b c h2 d)
  rcases List.mem_cons.mp hq with rfl | hq
  · exact turn_1 (fun n i s cs a b c d => lc_18 hm N xs n a b c h2 d)
  rcases List.mem_cons.mp hq with rfl | hq
  · exact turn_1 (fun n i s cs a b c d => lc_19 hm N xs n a b c h2 d)
  rcases List.mem_cons.mp hq with rfl | hq
  · exact turn_1 (fun n i s cs a b c d => lc_20 hm N xs n a b c h2 d)
  rcases List.mem_cons.mp hq with rfl | hq
  · exact turn_1 (fun n i s cs a b c d => lc_21 hm N xs n a b c h2 d)
  rcases List.mem_cons.mp hq with rfl | hq
  · exact turn_1 (fun n i s cs a b c d => lc_22 hm N xs n a b c h2 d)
  rcases List.mem_cons.mp hq with rfl | hq
  · exact turn_1 (fun n i s cs a b c d => lc_23 hm N xs n a b c h2 d)
  rcases List.mem_cons.mp hq with rfl | hq
  · exact turn_1 (fun n i s cs a b c d => lc_24 hm N xs n a b c h2 d)
  rcases List.mem_cons.mp hq with rfl | hq
  · exact turn_1 (fun n i s cs a b c d => lc_25 hm N xs n a b c h2 d)
  rcases List.mem_cons.mp hq with rfl | hq
  · exact turn_3 (fun n i s cs a b c d => lc_26 hm N xs n a b c h2 d)
  rcases List.mem_cons.mp hq with rfl | hq
  · exact turn_3 (fun n i s cs a b c d => lc_27 hm N xs n a b c h2 d)
  rcases List.mem_cons.mp hq with rfl | hq
  · exact turn_1 (fun n i s cs a b c d => lc_28 hm N xs n a b c h2 d)
  rcases List.mem_cons.mp hq with rfl | hq
  · exact turn_1 (fun n i s cs a b c d => lc_29 hm N xs n a b c h2 d)
  rcases List.mem_cons.mp hq with rfl | hq
  · exact turn_1 (fun n i s cs a b c d => lc_30 hm N xs n a b c h2 d)
  rcases List.mem_cons.mp hq with rfl | hq
  · exact turn_1 (fun n i s cs a b c d => lc_31 hm N xs n a b c h2 d)
  rcases List.mem_cons.mp hq with rfl | hq
  · exact turn_1 (fun n i s cs a b c d => lc_32 hm N xs n a b c h2 d)
  rcases List.mem_cons.mp hq with rfl | hq
  · exact turn_1 (fun n i s cs a b c d => lc_33 hm N xs n a b c h2 d)
  rcases List.mem_cons.mp hq with rfl | hq
  · exact turn_1 (fun n i s cs a b c d => lc_34 hm N xs n a b c h2 d)
  rcases List.mem_cons.mp hq with rfl | hq
  · exact turn_1 (fun n i s cs a b c d => lc_35 hm N xs n a b c h2 d)
  rcases List.mem_cons.mp hq with rfl | hq
  · exact turn_1 (fun n i s cs a b c d => lc_36 hm N xs n a b c h2 d)
  rcases List.mem_cons.mp hq with rfl | hq
  · exact turn_1 (fun n i s cs a b c d => lc_37 hm N xs n a b c h2 d)
  rcases List.mem_cons.mp hq with rfl | hq
  · exact turn_1 (fun n i s cs a b c d => lc_38 hm N xs n a b c h2 d)
  rcases List.mem_cons.mp hq with rfl | hq
  · exact turn_1 (fun n i s cs a b c d => lc_39 hm N xs n a b c h2 d)
  cases hq
set_option maxRecDepth 100000 in
theorem law_run {m : Nat} (hm : 10000 ≤ m) {N : Nat} (h2 : N ≤ 3072) (xs : Nat → Int) : ∀ (t n : Nat) (i : Int) (s : mS) (cs : Nat × Nat), Inv s → 0 ≤ i → i ≤ 100000 → (N : Int) - i ≤ 6 * (t : Int) + 5 → cs.1 + 64 * t ≤ 601024 → cs.2 + 1000 * t ≤ 7293034 → 5 * t + 1 ≤ n →
    ∃ s', zlw Z0 (envL0 m) (ewL m) N xs n 23 i s cs = some (1, s')
  | t, n, i, s, cs, hi, h0, h9, ht, c1, c2, hn => by
    obtain ⟨n', rfl⟩ : ∃ n', n = n' + 1 := ⟨n - 1, by omega⟩
    rw [zlw_23, show Z0 1 (N : Int) 6 = (N : Int) - 6 from w32_in (by omega) (by omega)]
    by_cases c : (N : Int) - 6 < i
    · rw [if_pos c]; exact ⟨s, rfl⟩
    · rw [if_neg c, inR_pos h0 (by omega)]
      match t, ht, c1, c2, hn with
      | 0, ht, c1, c2, hn => exact absurd ht (by omega)
      | t + 1, ht, c1, c2, hn =>
        have next : ∀ (n1 : Nat) (s2 : mS) (cs2 : Nat × Nat), 5 * t + 2 ≤ n1 → Inv s2 → cs2.1 ≤ cs.1 + 64 → cs2.2 ≤ cs.2 + 1000 → ∃ s', zlw Z0 (envL0 m) (ewL m) N xs n1 1405 i s2 cs2 = some (1, s') := by
          intro n1 s2 cs2 g1 g2 g3 g4
          obtain ⟨n2, rfl⟩ : ∃ n2, n1 = n2 + 1 := ⟨n1 - 1, by omega⟩
          rw [zlw_1405, show Z0 0 i 6 = i + 6 from w32_in (by omega) (by omega)]
          exact law_run hm h2 xs t n2 (i + 6) s2 cs2 g2 (by omega) (by omega) (by omega) (by omega) (by omega) (by omega)
        have k0 : i + 5 < (N : Int) := by omega
        have k1 : cs.1 + 64 ≤ 601024 := by omega
        have k2 : cs.2 + 1000 ≤ 7293034 := by omega
        have k3 : ∃ n'', n' = n'' + 3 := ⟨n' - 3, by omega⟩
        rcases tsw_or (k := fun q => zlw Z0 (envL0 m) (ewL m) N xs n' q i s cs) (d := 1405) pcs (Z0 3 (xs i.toNat) 63) 0 with e | ⟨o, ho, e⟩
        · rw [show (tsw (Z0 3 (xs i.toNat) 63) 0 1405 [216, 289, 314, 327, 340, 377, 414, 482, 507, 544, 581, 618, 643, 668, 681, 694, 719, 744, 757, 782, 819, 844, 869, 882, 895, 932, 969, 1037, 1093, 1106, 1131, 1156, 1193, 1242, 1267, 1292, 1305, 1330, 1355, 1380] (fun q => zlw Z0 (envL0 m) (ewL m) N xs n' q i s cs)) = _ from e]
          exact next n' s cs (by omega) hi (by omega) (by omega)
        · rw [show (tsw (Z0 3 (xs i.toNat) 63) 0 1405 [216, 289, 314, 327, 340, 377, 414, 482, 507, 544, 581, 618, 643, 668, 681, 694, 719, 744, 757, 782, 819, 844, 869, 882, 895, 932, 969, 1037, 1093, 1106, 1131, 1156, 1193, 1242, 1267, 1292, 1305, 1330, 1355, 1380] (fun q => zlw Z0 (envL0 m) (ewL m) N xs n' q i s cs)) = _ from e]
          obtain ⟨n'', rfl⟩ := k3
          obtain ⟨n1, s2, cs2, g1, g2, g3, g4, g5⟩ := turns hm h2 xs o ho n'' i s cs hi h0 k0 ⟨k1, k2⟩
          show ∃ s', zlw Z0 (envL0 m) (ewL m) N xs (n'' + 3) o i s cs = some (1, s')
          rw [g5]
          clear e g5
          exact next n1 s2 cs2 (by omega) g2 g3 g4
