/-! ===== the whole step ===== -/
section Grp4
variable {p : Program} {l : Launch} {e : Env} {R : Room} {s0 : State} {m : MethodId} {args : Array Value} {below : List Frame} {meth : Method} {c : Code} {Q : State → Prop} {D : va_G} {cT : Nat → ClassId} {B0 : Nat} {G : mG} {nL : Nat} {bud : Nat × Nat} {scr : Nat × (Nat → Int)} {own : String} {rs : List (Nat × Nat × Nat × Nat)} {cc : ByteArray} {d : Nat}
variable {q : Nat} {L : mL} {S : List mV} {T : mT} {s : mS} {cs : Nat × Nat} {α : Type} {o : α} {k : mK α}
theorem exNew_ok (C : Cxt p R s0 m args c D cT B0 G nL bud scr own rs cc d) {idx : Nat} (hd : decode cc q = .ok (.new idx, 3)) (h : exNew bud (rlook rs idx) q L S T s cs k = some o)
    (hk : ∀ pc' L' S' T' s' cs', k pc' L' S' T' s' cs' = some o → Wat p l e R s0 m args below meth c Q D cT B0 G nL bud pc' L' S' T' s' cs') : Wat p l e R s0 m args below meth c Q D cT B0 G nL bud q L S T s cs := by
  obtain ⟨hx, hb, hml, hown, hts, hK, hX, hB0, ⟨ixs, hres⟩, hR, hRc, hRs, hin⟩ := C
  cases hr : rlook rs idx with
  | mk kd ab =>
    obtain ⟨a, b⟩ := ab
    rw [hr] at h
    have hent := resB_look rs ixs hres hr
    unfold exNew at h
    split at h
    case h_1 ci0 n0 heq =>
      cases heq
      obtain ⟨h1, k1⟩ := bsel_inv h
      simp only [Bool.and_eq_true] at h1
      rcases hent with h0 | ⟨ix, hent⟩
      · cases h0
      simp only [entB, Bool.and_eq_true, decide_eq_true_eq] at hent
      obtain ⟨e1, e2, e3, e4, e5⟩ := hent
      have hlt : T.1 + 1 < wB := by simpa [Nat.blt_eq] using h1.2.2
      exact ok_new hx hb hts hin hown hK hB0 e4 e5 (hts _ (atT_mem e1)) (hts _ (atT_mem e2)) (hts _ (atT_mem e3)) hd hlt (Nat.le_of_ble_eq_true h1.1) (Nat.le_of_ble_eq_true h1.2.1) hRc hRs (hk _ _ _ _ _ _ k1)
    case h_2 => cases h
theorem exNewA_inv {tc q' : Nat} (h : exNewA bud tc q' L S T s cs k = some o) : ∃ n S', S = iv n :: S' ∧ cs.1 + 1 ≤ bud.1 ∧ cs.2 + n.toNat ≤ bud.2 ∧ n.toNat ≤ 10000 ∧ 0 ≤ n ∧ T.1 + 1 < wB ∧ k q' L (rv (some T.1) :: S') (mkArr T s tc n.toNat).1 (mkArr T s tc n.toNat).2 (cs.1 + 1, cs.2 + n.toNat) = some o := by
  unfold exNewA at h
  obtain ⟨n, S', rfl, k1⟩ := popI_inv h
  obtain ⟨h1, k2⟩ := bsel_inv k1
  simp only [Bool.and_eq_true, decide_eq_true_eq] at h1
  exact ⟨n, S', rfl, Nat.le_of_ble_eq_true h1.1, Nat.le_of_ble_eq_true h1.2.1, Nat.le_of_ble_eq_true h1.2.2.1, h1.2.2.2.1, by simpa [Nat.blt_eq] using h1.2.2.2.2, k2⟩
theorem exNewP_ok (C : Cxt p R s0 m args c D cT B0 G nL bud scr own rs cc d) (hArr : ∀ ty, ty = .int ∨ ty = .long ∨ ty = .byte ∨ ty = .boolean → Cond.arrayClass ty ∈ Tw) {at_ : ArrayType} (hpos : Nat.blt 0 (tcOf at_) = true) (hd : decode cc q = .ok (.newarray at_, 2)) (h : exNewA bud (tcOf at_) (q + 2) L S T s cs k = some o)
    (hk : ∀ pc' L' S' T' s' cs', k pc' L' S' T' s' cs' = some o → Wat p l e R s0 m args below meth c Q D cT B0 G nL bud pc' L' S' T' s' cs') : Wat p l e R s0 m args below meth c Q D cT B0 G nL bud q L S T s cs := by
  obtain ⟨hx, hb, hml, hown, hts, hK, hX, hB0, ⟨ixs, hres⟩, hR, hRc, hRs, hin⟩ := C
  obtain ⟨n, S', rfl, b1, b2, n2, n0, hlt, k1⟩ := exNewA_inv h
  have kk := hk _ _ _ _ _ _ k1
  cases at_ with
  | int => exact ok_newa (ty := .int) (t0 := 0) (tc := 1) hx hb hK hB0 (by simp) rfl (hts _ (hArr _ (by simp))) rfl (by decide) (fun U cA h => h) (fun φ T s t N cA z1 z2 => by show arrV cA N (fun j => .int (Int32.ofInt (s.1 t j))) = _; simp only [z1]; rfl) hd n0 n2 hlt b1 b2 hRc hRs kk
  | long => exact ok_newa (ty := .long) (t0 := 1) (tc := 2) hx hb hK hB0 (by simp) rfl (hts _ (hArr _ (by simp))) rfl (by decide) (fun U cA h => h) (fun φ T s t N cA z1 z2 => by show arrV cA N (fun j => .long (Int64.ofInt (s.2 t j))) = _; simp only [z2]; rfl) hd n0 n2 hlt b1 b2 hRc hRs kk
  | byte => exact ok_newa (ty := .byte) (t0 := 2) (tc := 3) hx hb hK hB0 (by simp) rfl (hts _ (hArr _ (by simp))) rfl (by decide) (fun U cA h => h) (fun φ T s t N cA z1 z2 => by show arrV cA N (fun j => .int (Int32.ofInt (s.1 t j))) = _; simp only [z1]; rfl) hd n0 n2 hlt b1 b2 hRc hRs kk
  | boolean => exact ok_newa (ty := .boolean) (t0 := 3) (tc := 4) hx hb hK hB0 (by simp) rfl (hts _ (hArr _ (by simp))) rfl (by decide) (fun U cA h => h) (fun φ T s t N cA z1 z2 => by show arrV cA N (fun j => .int (Int32.ofInt (s.1 t j))) = _; simp only [z1]; rfl) hd n0 n2 hlt b1 b2 hRc hRs kk
  | char => cases hpos
  | float => cases hpos
  | double => cases hpos
  | short => cases hpos
theorem exNewR_ok (C : Cxt p R s0 m args c D cT B0 G nL bud scr own rs cc d) {idx a b : Nat} (hr : rlook rs idx = (13, a, b)) (hpos : Nat.blt 0 (tcA a) = true) (hd : decode cc q = .ok (.anewarray idx, 3)) (h : exNewA bud (tcA a) (q + 3) L S T s cs k = some o)
    (hk : ∀ pc' L' S' T' s' cs', k pc' L' S' T' s' cs' = some o → Wat p l e R s0 m args below meth c Q D cT B0 G nL bud pc' L' S' T' s' cs') : Wat p l e R s0 m args below meth c Q D cT B0 G nL bud q L S T s cs := by
  obtain ⟨hx, hb, hml, hown, hts, hK, hX, hB0, ⟨ixs, hres⟩, hR, hRc, hRs, hin⟩ := C
  obtain ⟨n, S', rfl, b1, b2, n2, n0, hlt, k1⟩ := exNewA_inv h
  have kk := hk _ _ _ _ _ _ k1
  obtain ⟨-, -, -, -, -, -, -, -, -, -, -, -, h13, h14, -⟩ := hX
  rcases resB_look rs ixs hres hr with h0 | ⟨ix, hent⟩
  · cases h0
  simp only [entB, Bool.and_eq_true, decide_eq_true_eq] at hent
  have hl := hts _ (atT_mem hent.1)
  by_cases a4 : a = 4
  · subst a4
    exact ok_newq (t0 := 4) (tc := 6) hx hb hown hK hB0 (by simp) hl h13 rfl (fun _ _ _ _ => rfl) hd n0 n2 hlt b1 b2 hRc hRs kk
  · by_cases a2 : a = 2
    · subst a2
      exact ok_newq (t0 := 5) (tc := 7) hx hb hown hK hB0 (by simp) hl h14 rfl (fun _ _ _ _ => rfl) hd n0 n2 hlt b1 b2 hRc hRs kk
    · have : tcA a = 0 := by
        unfold tcA; split
        · exact absurd rfl a4
        · exact absurd rfl a2
        · rfl
      rw [this] at hpos; cases hpos
/-- a text constant by its long number -/
theorem ok_ldcwS (hx : p.tables.exec = Jvm.exec) (hb : c.code = cc) (hown : s0.vm.findClass own = some m.cls) {tx : String} {idx a : Nat} (ha : a < 1000) (hZ : vk_R own idx tx (G.1 a) s0) (hd : decode cc q = .ok (.ldc_w idx, 3)) (hk : Wat p l e R s0 m args below meth c Q D cT B0 G nL bud (q + 3) L (rv (some (wB + a)) :: S) T s cs) : Wat p l e R s0 m args below meth c Q D cT B0 G nL bud q L S T s cs := by
  intro φ H locs ls hS hl hL hc hbd
  have kk := hk φ H locs ls hS hl hL (cS_cons (okR_hi (Nat.le_add_right _ _) (by omega)) hc) hbd
  have e1 : (rv (some (wB + a)) :: S).map (cv φ) = .ref (G.1 a) :: S.map (cv φ) := by
    rw [List.map_cons]
    congr 1
    show Value.ref (φ (wB + a)) = _
    rw [hS.2.2.2.2.2.1]
  rw [e1] at kk
  intro U hU X
  obtain ⟨t, a1, b1⟩ := kk U hU X
  refine ⟨t, ?_, b1⟩
  obtain ⟨k0, cf, i, a', hk0, hcf, hcp, -, hr, hev'⟩ := Cond.stringRef_spec hown hZ.1
  cases hZ.2.symm.trans hev'
  obtain ⟨k', hk', he⟩ := X.warmed.alike.2.2 _ _ hk0
  have hr' : k'.resolved[idx]? = some (some (.string (G.1 a))) := by
    rcases X.warmed.entry hk0 hk' idx with h | ⟨h, -⟩
    · rw [h]; exact hr
    · rw [hr] at h; cases h
  have hdg : decode c.code (F0 m q ls (S.map (cv φ))).pc = .ok (.ldc_w idx, 3) := by rw [hb]; exact hd
  jvm_step X.here [hx, hdg, ldc_w.wp_string (s := U) (f := F0 m q ls (S.map (cv φ))) X.here.top hk' (by rw [he]; exact hcf) hcp hr']
  exact a1
theorem ok_ldcS (hx : p.tables.exec = Jvm.exec) (hb : c.code = cc) (hown : s0.vm.findClass own = some m.cls) {tx : String} {idx a : Nat} (ha : a < 1000) (hZ : vk_R own idx tx (G.1 a) s0) (hd : decode cc q = .ok (.ldc idx, 2)) (hk : Wat p l e R s0 m args below meth c Q D cT B0 G nL bud (q + 2) L (rv (some (wB + a)) :: S) T s cs) : Wat p l e R s0 m args below meth c Q D cT B0 G nL bud q L S T s cs := by
  intro φ H locs ls hS hl hL hc hbd
  have kk := hk φ H locs ls hS hl hL (cS_cons (okR_hi (Nat.le_add_right _ _) (by omega)) hc) hbd
  refine va_ldcS hx hb hown hZ hd ?_
  rw [← hS.2.2.2.2.2.1]; exact kk
end Grp4
