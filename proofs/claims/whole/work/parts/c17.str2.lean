/-! ===== charAt and length of the four texts; the method that writes them ===== -/
theorem strB_rng (j i : Nat) : 0 ≤ (strB j).getD i 0 ∧ (strB j).getD i 0 < 128 := by
  by_cases h : j < 4
  · have hl : ∀ j, j < 4 → (strB j).length ≤ 9 := by decide +kernel
    by_cases hi : i < 9
    · have : ∀ j, j < 4 → ∀ i, i < 9 → (decide (0 ≤ (strB j).getD i 0) && decide ((strB j).getD i 0 < 128)) = true := by decide +kernel
      have := this j h i hi
      simpa only [Bool.and_eq_true, decide_eq_true_eq] using this
    · have := hl j h
      rw [List.getD_eq_getElem?_getD, List.getElem?_eq_none (by omega)]
      exact ⟨Int.le_refl _, by decide⟩
  · unfold strB
    rw [List.getD_eq_getElem?_getD (l := strBl), List.getElem?_eq_none (by show 4 ≤ j; omega)]
    exact ⟨Int.le_refl _, show (0 : Int) < 128 by decide⟩
theorem strB_len {j : Nat} (h : j < 4) : (strB j).length ≤ 9 := by
  have hl : ∀ j, j < 4 → (strB j).length ≤ 9 := by decide +kernel
  exact hl j h
section Str
variable {l : Launch} {B0 : Nat} {fS : Nat → Nat}
theorem mg_114 {k : Nat} (hk : k < 4) {i : Int} (hi : can i) (h0 : 0 ≤ i) (h1 : i < ((strB k).length : Int)) (d : Nat) : PureJ l B0 fS (d + 2) 114 [.ref (fS (300 + k)), .int (Int32.ofInt i)] (some (.int (Int32.ofInt ((strB k).getD i.toNat 0)))) := by
  have hlen := strB_len hk
  have hv := strB_rng k i.toNat
  refine Met.ofW (cc := bb 114) (maxL := mx 114) (ret := rt 114) (by decide +kernel) rfl ?_
  intro p e s0 m args below meth c s₁ B hml hq
  obtain ⟨rfl, hB0, hSx⟩ := hq
  have hx := B.exec
  have hb := B.bytes
  have hr := B.returns
  have hts := atoms_spec (ws := wsJ 114) B.pre
  have hT : ∀ w ∈ Tw, w.before _ s0 = true := fun w hw => hts w (List.mem_cons_of_mem _ hw)
  have hown : s0.vm.findClass "java/lang/StringLatin1" = some m.cls := findClass_of_methodNamed B.named
  have hlocks := B.notSynchronized
  have hStr := str_T (G := (fS, TT, fun _ => 0)) hSx hk
  have hcn : can (((strB k).length : Nat) : Int) := by unfold can; omega
  have hl := lv_entry [Value.ref (fS (300 + k)), .int (Int32.ofInt i)] (n := mx 114) (Nat.le_of_ble_eq_true rfl)
  rw [lg_entry_eq]
  refine lv_iload_n hx hb (show decode (bb 114) 0 = .ok (.iload_n 1, 1) by decide +kernel) rfl (lv_at hl 1 rfl) ?_
  refine lv_aload_n hx hb (show decode (bb 114) 1 = .ok (.aload_n 0, 1) by decide +kernel) rfl (lv_at hl 0 rfl) ?_
  refine va_tlen hx hb hStr va_S.rf (v := Int32.ofInt (((strB k).length : Nat) : Int)) rfl (show decode (bb 114) 2 = .ok (.arraylength, 1) by decide +kernel) ?_
  refine pure_go (va_runS (As := [.int (Int32.ofInt i), .int (Int32.ofInt (((strB k).length : Nat) : Int))]) (rest := []) (own := "java/lang/StringLatin1") ⟨hx, hb, hml, hown, hT⟩ (mg_115 hi hcn h0 h1 d) ⟨cbJ (n := 2) hT ws_code_115 (hT _ ws_ini_S) (hT _ ws_l9) yok_115 ⟨Nat.le_refl _, Nat.le_refl _⟩, hT _ ws_static_115⟩ ⟨SxB_blind, fun U hU hW => ⟨rfl, by rw [hU]; exact hB0, SxW_still B0 fS scr0 s0 U hSx hW (fun q _ _ => by rw [hU])⟩⟩ rfl rfl hl.1 rfl (lv_room (Nat.le_of_ble_eq_true rfl)) (show decode (bb 114) 3 = .ok (.invokestatic 9, 3) by decide +kernel) ⟨Nat.le_refl _, Nat.le_refl _⟩) ?_
  refine lv_aload_n hx hb (show decode (bb 114) 6 = .ok (.aload_n 0, 1) by decide +kernel) rfl (lv_at hl 0 rfl) ?_
  refine lv_iload_n hx hb (show decode (bb 114) 7 = .ok (.iload_n 1, 1) by decide +kernel) rfl (lv_at hl 1 rfl) ?_
  refine va_tb hx hb hStr va_S.rf ((i32_in hi).mpr ⟨h0, h1⟩) (v := .int (Int32.ofInt ((strB k).getD i.toNat 0))) (by rw [i32_clamp hi]) (show decode (bb 114) 8 = .ok (.baload, 1) by decide +kernel) ?_
  refine lv_sipush hx hb (show decode (bb 114) 9 = .ok (.sipush 255, 3) by decide +kernel) (v := Int32.ofInt 255) rfl ?_
  refine lv_iand hx hb (show decode (bb 114) 12 = .ok (.iand, 1) by decide +kernel) ?_
  rw [i32_and]
  have e1 : band ((strB k).getD i.toNat 0) 255 = (strB k).getD i.toNat 0 := by
    rw [band255 (by unfold can; omega)]; omega
  rw [e1]
  refine lv_i2c hx hb (show decode (bb 114) 13 = .ok (.i2c, 1) by decide +kernel) (v := Int32.ofInt ((strB k).getD i.toNat 0)) (by rw [i32_i2c (by unfold can; omega)]; congr 1; omega) ?_
  refine W.zret hx hb hr ?_ (fun t ht _ => ⟨rfl, ht⟩) (fun q hq => by cases hq) (show decode (bb 114) 14 = .ok (.ireturn, 1) by decide +kernel)
  show Value.int _ = Value.int _
  congr 1
  show ((Int32.ofInt _).toUInt32 % 65536).toInt32 = _
  rw [i32_i2c (by unfold can; omega)]; congr 1; omega
theorem mg_112 {k : Nat} (hk : k < 4) {i : Int} (hi : can i) (h0 : 0 ≤ i) (h1 : i < ((strB k).length : Int)) (d : Nat) : PureJ l B0 fS (d + 3) 112 [.ref (fS (200 + k)), .int (Int32.ofInt i)] (some (.int (Int32.ofInt ((strB k).getD i.toNat 0)))) := by
  have hv := strB_rng k i.toNat
  refine Met.ofW (cc := bb 112) (maxL := mx 112) (ret := rt 112) (by decide +kernel) rfl ?_
  intro p e s0 m args below meth c s₁ B hml hq
  obtain ⟨rfl, hB0, hSx⟩ := hq
  have hx := B.exec
  have hb := B.bytes
  have hr := B.returns
  have hts := atoms_spec (ws := wsJ 112) B.pre
  have hT : ∀ w ∈ Tw, w.before _ s0 = true := fun w hw => hts w (List.mem_cons_of_mem _ hw)
  have hown : s0.vm.findClass "java/lang/String" = some m.cls := findClass_of_methodNamed B.named
  have hlocks := B.notSynchronized
  have hSx0 := hSx
  obtain ⟨-, -, -, -, -, -, -, -, -, h10, -⟩ := hSx0
  have hl := lv_entry [Value.ref (fS (200 + k)), .int (Int32.ofInt i)] (n := mx 112) (Nat.le_of_ble_eq_true rfl)
  rw [lg_entry_eq]
  refine lv_aload_n hx hb (show decode (bb 112) 0 = .ok (.aload_n 0, 1) by decide +kernel) rfl (lv_at hl 0 rfl) ?_
  refine pure_go (va_runV (C := "java/lang/String") (b := fS (200 + k)) (As := []) (rest := []) (own := "java/lang/String") ⟨hx, hb, hml, hown, hT⟩ (mg_113 hk (d + 2)) ⟨cbJ (n := 0) hT ws_code_113 (hT _ ws_ini_S) (hT _ ws_l492) yok_113 ⟨Nat.le_refl _, Nat.le_refl _⟩, hT _ ws_inst_113, hT _ ws_sel_113⟩ ⟨SxB_blind, vk_recv (adK := fun k => fS (200 + k)) (i := k) h10 hk va_S.rf, fun U hU hW => ⟨rfl, by rw [hU]; exact hB0, SxW_still B0 fS scr0 s0 U hSx hW (fun q _ _ => by rw [hU])⟩⟩ rfl rfl hl.1 rfl (lv_room (Nat.le_of_ble_eq_true rfl)) (show decode (bb 112) 1 = .ok (.invokevirtual 492, 3) by decide +kernel) ⟨Nat.le_refl _, Nat.le_refl _⟩) ?_
  refine lv_if_eq hx hb (show decode (bb 112) 4 = .ok (.ifCond .eq 12, 3) by decide +kernel) (tgt := 16) (by decide) (fun h => absurd h (by decide)) (fun _ => ?_)
  refine lv_aload_n hx hb (show decode (bb 112) 7 = .ok (.aload_n 0, 1) by decide +kernel) rfl (lv_at hl 0 rfl) ?_
  refine vk_getf hx hb (h10.1 k hk).2.2.1 va_S.rf hown (hT _ ws_f9) (fun _ h => h) (show decode (bb 112) 8 = .ok (.getfield 9, 3) by decide +kernel) ?_
  refine lv_iload_n hx hb (show decode (bb 112) 11 = .ok (.iload_n 1, 1) by decide +kernel) rfl (lv_at hl 1 rfl) ?_
  refine pure_go (va_runS (As := [.ref (fS (300 + k)), .int (Int32.ofInt i)]) (rest := []) (own := "java/lang/String") ⟨hx, hb, hml, hown, hT⟩ (mg_114 hk hi h0 h1 d) ⟨cbJ (n := 2) hT ws_code_114 (hT _ ws_ini_L) (hT _ ws_l495) yok_114 ⟨Nat.le_refl _, Nat.le_refl _⟩, hT _ ws_static_114⟩ ⟨SxB_blind, fun U hU hW => ⟨rfl, by rw [hU]; exact hB0, SxW_still B0 fS scr0 s0 U hSx hW (fun q _ _ => by rw [hU])⟩⟩ rfl rfl hl.1 rfl (lv_room (Nat.le_of_ble_eq_true rfl)) (show decode (bb 112) 12 = .ok (.invokestatic 495, 3) by decide +kernel) ⟨Nat.le_refl _, Nat.le_refl _⟩) ?_
  refine W.zret hx hb hr ?_ (fun t ht _ => ⟨rfl, ht⟩) (fun q hq => by cases hq) (show decode (bb 112) 15 = .ok (.ireturn, 1) by decide +kernel)
  show Value.int _ = Value.int _
  congr 1
  show ((Int32.ofInt _).toUInt32 % 65536).toInt32 = _
  rw [i32_i2c (by unfold can; omega)]; congr 1; omega
theorem mg_110 {k : Nat} (hk : k < 4) (d : Nat) : PureJ l B0 fS (d + 1) 110 [.ref (fS (200 + k))] (some (.int (Int32.ofInt (((strB k).length : Nat) : Int)))) := by
  have hlen := strB_len hk
  refine Met.ofW (cc := bb 110) (maxL := mx 110) (ret := rt 110) (by decide +kernel) rfl ?_
  intro p e s0 m args below meth c s₁ B hml hq
  obtain ⟨rfl, hB0, hSx⟩ := hq
  have hx := B.exec
  have hb := B.bytes
  have hr := B.returns
  have hts := atoms_spec (ws := wsJ 110) B.pre
  have hT : ∀ w ∈ Tw, w.before _ s0 = true := fun w hw => hts w (List.mem_cons_of_mem _ hw)
  have hown : s0.vm.findClass "java/lang/String" = some m.cls := findClass_of_methodNamed B.named
  have hlocks := B.notSynchronized
  have hSx0 := hSx
  obtain ⟨-, -, -, -, -, -, -, -, -, h10, -⟩ := hSx0
  have hStr := str_T (G := (fS, TT, fun _ => 0)) hSx hk
  have hl := lv_entry [Value.ref (fS (200 + k))] (n := mx 110) (Nat.le_of_ble_eq_true rfl)
  rw [lg_entry_eq]
  refine lv_aload_n hx hb (show decode (bb 110) 0 = .ok (.aload_n 0, 1) by decide +kernel) rfl (lv_at hl 0 rfl) ?_
  refine vk_getf hx hb (h10.1 k hk).2.2.1 va_S.rf hown (hT _ ws_f9) (fun _ h => h) (show decode (bb 110) 1 = .ok (.getfield 9, 3) by decide +kernel) ?_
  refine va_tlen hx hb hStr va_S.rf (v := Int32.ofInt (((strB k).length : Nat) : Int)) rfl (show decode (bb 110) 4 = .ok (.arraylength, 1) by decide +kernel) ?_
  refine lv_aload_n hx hb (show decode (bb 110) 5 = .ok (.aload_n 0, 1) by decide +kernel) rfl (lv_at hl 0 rfl) ?_
  refine pure_go (va_runV (C := "java/lang/String") (b := fS (200 + k)) (As := []) (rest := [.int (Int32.ofInt (((strB k).length : Nat) : Int))]) (own := "java/lang/String") ⟨hx, hb, hml, hown, hT⟩ (mg_111 hk d) ⟨cbJ (n := 0) hT ws_code_111 (hT _ ws_ini_S) (hT _ ws_l335) yok_111 ⟨Nat.le_refl _, Nat.le_refl _⟩, hT _ ws_inst_111, hT _ ws_sel_111⟩ ⟨SxB_blind, vk_recv (adK := fun k => fS (200 + k)) (i := k) h10 hk va_S.rf, fun U hU hW => ⟨rfl, by rw [hU]; exact hB0, SxW_still B0 fS scr0 s0 U hSx hW (fun q _ _ => by rw [hU])⟩⟩ rfl rfl hl.1 rfl (lv_room (Nat.le_of_ble_eq_true rfl)) (show decode (bb 110) 6 = .ok (.invokevirtual 335, 3) by decide +kernel) ⟨Nat.le_refl _, Nat.le_refl _⟩) ?_
  refine lv_ishr hx hb (show decode (bb 110) 9 = .ok (.ishr, 1) by decide +kernel) ?_
  have e1 : Int32.ofInt (((strB k).length : Nat) : Int) >>> ((0 : Int32) &&& 31) = Int32.ofInt (((strB k).length : Nat) : Int) := by
    have := i32_shr (((strB k).length : Nat) : Int) ((0 : Nat) : Int)
    rw [bshr_nat (by omega) (by omega)] at this
    simpa using this
  rw [e1]
  exact W.iret hx hb hr (fun t ht _ => ⟨rfl, ht⟩) (fun q hq => by cases hq) (show decode (bb 110) 10 = .ok (.ireturn, 1) by decide +kernel)
end Str
/-- guarded: a text's own place -/
def gStr (as : List mV) : Bool := match as with
  | .inr (some t) :: _ => gIn 2 t
  | _ => false
def F110 (as : List mV) (s : mS) : Option (Int × mS) := bsel (gStr as) (zF_110 Z0 0 as s) none
def F112 (as : List mV) (s : mS) : Option (Int × mS) := bsel (gStr as) (zF_112 Z0 0 as s) none
theorem gIn_2 {t : Nat} (h : gIn 2 t = true) : ∃ u, t = wB + (200 + u) ∧ u < 4 := by
  simp only [gIn, Bool.and_eq_true] at h
  have g1 := Nat.le_of_ble_eq_true h.1
  have g2 : t < wB + 204 := by simpa [Nat.blt_eq] using h.2
  obtain ⟨u, rfl⟩ := Nat.exists_eq_add_of_le g1
  exact ⟨u, by omega, by omega⟩
section Prim
variable {l : Launch} {D : va_G} {cT : Nat → ClassId} {B0 : Nat} {fS : Nat → Nat}
theorem pure_J {d j : Nat} {as : List mV} {As : List Value} {s : mS} {x : Int} {v : Option Value} (h : PureJ l B0 fS d j As v) (ha : ∀ φ : Nat → Nat, (∀ i, φ (wB + i) = fS i) → as.map (cv φ) = As) (hv : ∀ φ : Nat → Nat, v = rvO φ (jrk j) x) (hc : jcost j = (0, 0)) (hX : canX (jrk j) x) (hs : canS s) : MetJ D cT B0 fS (SxW B0 fS scr0) l d j as TT s x TT s := by
  intro φ
  rw [hc]
  refine Met_conv h (fun a st hp => ?_) (fun a st o t hp hq => ?_) (fun q hq => hq.elim)
  · obtain ⟨hp0, hp1, hp2, hp3, hp4, hp5, hp6⟩ := hp
    exact ⟨by rw [hp0, ha φ hp6], hp1, hp5⟩
  · obtain ⟨hp0, hp1, hp2, hp3, hp4, hp5, hp6⟩ := hp
    obtain ⟨rfl, hq2⟩ := hq
    refine ⟨⟨φ, fun _ _ => rfl, by rw [hv φ], by rw [hq2]; exact hp2, hp4, hX, hs, TT_can, Nat.le_refl _⟩, by rw [hq2]; exact Nat.le_refl _, fun q _ _ => by rw [hq2]⟩
theorem E_110 : FOk l D cT B0 fS 1 110 F110 := by
  intro d hd as s x s' hms h hs ha
  obtain ⟨d', rfl⟩ : ∃ d', d = d' + 1 := ⟨d - 1, by omega⟩
  obtain ⟨hg, h⟩ := bsel_inv h
  match as, hg, h with
  | [.inr (some t)], hg, h =>
    obtain ⟨u, rfl, hu⟩ := gIn_2 hg
    have e : wB + (200 + u) - 1200 = u := by show 1000 + (200 + u) - 1200 = u; omega
    have h : some ((((strB (wB + (200 + u) - 1200)).length : Nat) : Int), s) = some (x, s') := h
    rw [e] at h
    cases h
    have hlen := strB_len hu
    exact pure_J (As := [.ref (fS (200 + u))]) (v := some (.int (Int32.ofInt (((strB u).length : Nat) : Int)))) (mg_110 hu d') (fun φ hφ => by show [Value.ref (φ (wB + (200 + u)))] = _; rw [hφ]) (fun φ => rfl) rfl (show can _ by unfold can; omega) hs
  | .inr (some t) :: v :: r, hg, h => cases h
theorem E_112 : FOk l D cT B0 fS 3 112 F112 := by
  intro d hd as s x s' hms h hs ha
  obtain ⟨d', rfl⟩ : ∃ d', d = d' + 3 := ⟨d - 3, by omega⟩
  obtain ⟨hg, h⟩ := bsel_inv h
  match as, hg, h, ha with
  | [.inr (some t), .inl (.inl i)], hg, h, ha =>
    obtain ⟨u, rfl, hu⟩ := gIn_2 hg
    have e : wB + (200 + u) - 1200 = u := by show 1000 + (200 + u) - 1200 = u; omega
    have h : inR i (strB (wB + (200 + u) - 1200)).length (some ((strB (wB + (200 + u) - 1200)).getD i.toNat 0, s)) = some (x, s') := h
    rw [e] at h
    obtain ⟨i0, i1, h⟩ := inR_inv h
    cases h
    have hi : can i := ha (.inl (.inl i)) (by simp)
    have hv := strB_rng u i.toNat
    exact pure_J (As := [.ref (fS (200 + u)), .int (Int32.ofInt i)]) (v := some (.int (Int32.ofInt ((strB u).getD i.toNat 0)))) (mg_112 hu hi i0 i1 d') (fun φ hφ => by show [Value.ref (φ (wB + (200 + u))), Value.int (Int32.ofInt i)] = _; rw [hφ]) (fun φ => rfl) rfl (show can _ by unfold can; omega) hs
  | .inr (some t) :: .inl (.inr _) :: r, hg, h, ha => cases h
  | .inr (some t) :: .inr _ :: r, hg, h, ha => cases h
  | .inr (some t) :: .inl (.inl i) :: v :: r, hg, h, ha => cases h
  | [.inr (some t)], hg, h, ha => cases h
end Prim
