/-! ===== calls and new cells of the small machine ===== -/
section Grp3
variable {p : Program} {l : Launch} {e : Env} {R : Room} {s0 : State} {m : MethodId} {args : Array Value} {below : List Frame} {meth : Method} {c : Code} {Q : State → Prop} {D : va_G} {cT : Nat → ClassId} {B0 : Nat} {G : mG} {nL : Nat} {bud : Nat × Nat} {scr : Nat × (Nat → Int)} {own : String} {rs : List (Nat × Nat × Nat × Nat)} {cc : ByteArray} {d : Nat}
variable {q : Nat} {L : mL} {S : List mV} {T : mT} {s : mS} {cs : Nat × Nat} {α : Type} {o : α} {k : mK α}
theorem exCall_inv {cal : mCal α} {j : Nat} {as S' : List mV} (hcal : CalOk l D cT B0 G scr d T cal) (h : exCall bud cal j as S' q L T s cs k = some o) :
    msum S' ≤ 8 ∧ cs.1 + (jcost j).1 ≤ bud.1 ∧ cs.2 + (jcost j).2 ≤ bud.2 ∧ ∃ x T' s', k (q + 3) L (rvals (jsd j) x ++ S') T' s' (cs.1 + (jcost j).1, cs.2 + (jcost j).2) = some o ∧ (canS s → canT T → (∀ v ∈ as, canV T v) → MetJ D cT B0 G.1 (SxW B0 G.1 scr) l d j as T s x T' s') := by
  unfold exCall at h
  obtain ⟨h1, h2⟩ := bsel_inv h
  simp only [Bool.and_eq_true] at h1
  exact ⟨Nat.le_of_ble_eq_true h1.1, Nat.le_of_ble_eq_true h1.2.2.1, Nat.le_of_ble_eq_true h1.2.2.2, hcal j as s (Nat.le_of_ble_eq_true h1.2.1) _ o h2⟩
theorem still_O (hX : SxW B0 G.1 scr s0) {H : Heap} {locs : List Loc} {C : String} {t : Nat} (h : va_O C t (sA B0) s0 s0.heap) (hS : va_S (sA B0) s0.heap H locs) : ∃ cellB : Cell, H[t]? = some cellB ∧ cellB.vm.isStatics = false ∧ s0.vm.findClass C = some cellB.cls := by
  obtain ⟨cell, h1, h2, h3, -⟩ := h.kept (H1 := H) (fun a ha hn => hS.2.1 a ha hn)
  exact ⟨cell, h1, h2, h3⟩
theorem exInvV_ok (C : Cxt p R s0 m args c D cT B0 G nL bud scr own rs cc d) {cal : mCal α} (hcal : CalOk l D cT B0 G scr d T cal) {idx : Nat} (hd : decode cc q = .ok (.invokevirtual idx, 3)) (h : exInv bud cal 1 (rlook rs idx) q L S T s cs k = some o)
    (hk : ∀ pc' L' S' T' s' cs', k pc' L' S' T' s' cs' = some o → Wat p l e R s0 m args below meth c Q D cT B0 G nL bud pc' L' S' T' s' cs') : Wat p l e R s0 m args below meth c Q D cT B0 G nL bud q L S T s cs := by
  obtain ⟨hx, hb, hml, hown, hts, hK, hX, hB0, ⟨ixs, hres⟩, hR, hRc, hRs, hin⟩ := C
  have hst := SxW_still B0 G.1 scr
  cases hr : rlook rs idx with
  | mk kd ab =>
    obtain ⟨a, b⟩ := ab
    rw [hr] at h
    have hent := resB_look rs ixs hres hr
    unfold exInv at h
    split at h
    case h_1 j0 n0 heq1 heq =>
      cases heq
      obtain ⟨t, S', hSS, k1⟩ := popR_inv h
      obtain ⟨g0, g1, g2, k2⟩ := onObj_inv k1
      obtain ⟨hlen, k3⟩ := bsel_inv k2
      have hlen : (S.take b).length = b := Nat.eq_of_beq_eq_true hlen
      obtain ⟨hsum, hb1, hb2, x, T', s', k4, hM⟩ := exCall_inv hcal k3
      have eS : S = ((S.take b).reverse).reverse ++ rv (some t) :: S' := by rw [List.reverse_reverse, ← hSS, List.take_append_drop]
      rcases hent with h0 | ⟨ix, hent⟩
      · cases h0
      simp only [entB, Bool.and_eq_true, decide_eq_true_eq] at hent
      obtain ⟨f1, f2, f3⟩ := callB_spec hent.1
      rw [eS]
      exact ok_callV hx hb hml hts hown hK hst hX hB0 hd f3 (hts _ f2) (hts _ f1) (hts _ (atT_mem hent.2.1)) (hts _ (atT_mem hent.2.2.1)) hent.2.2.2.1 hR (by rw [List.length_reverse]; exact hlen) hent.2.2.2.2 g0 g1 g2 hsum hb1 hb2 hRc hRs hM (hk _ _ _ _ _ _ k4)
    case h_2 j0 n0 heq1 heq =>
      cases heq
      obtain ⟨t, S', hSS, k1⟩ := popR_inv h
      obtain ⟨hg, k2⟩ := ite_inv k1
      obtain ⟨hlen, k3⟩ := bsel_inv k2
      have hlen : (S.take b).length = b := Nat.eq_of_beq_eq_true hlen
      obtain ⟨hsum, hb1, hb2, x, T', s', k4, hM⟩ := exCall_inv hcal k3
      have eS : S = ((S.take b).reverse).reverse ++ rv (some t) :: S' := by rw [List.reverse_reverse, ← hSS, List.take_append_drop]
      rcases hent with h0 | ⟨ix, hent⟩
      · cases h0
      rw [eS]
      by_cases ha : a = 26
      · subst ha
        simp only [entB, Bool.and_eq_true, decide_eq_true_eq] at hent
        obtain ⟨e1, e2, e3, e4, e5, e6, e7⟩ := hent
        subst e7
        obtain ⟨u, rfl, hu⟩ := wB_of (n := 24) (show (Nat.ble wB t && Nat.blt t (wB + 24)) = true from hg)
        have hX0 := hX
        obtain ⟨-, -, -, -, -, -, -, h8, -⟩ := hX0
        have hG : GoodIn Tw (va_wsU own idx "LentBoxes$Word" "java/lang/Enum" ordX (yy 26) (wsJ 26)) := by
          intro w hw
          have hm : w ∈ Tw := by
            rcases List.mem_append.mp hw with hw | hw
            · simp only [List.mem_cons, List.not_mem_nil, or_false] at hw
              rcases hw with rfl | rfl | rfl | rfl | rfl
              · exact atT_mem e1
              · exact atT_mem e6
              · exact atT_mem e5
              · exact atT_mem e4
              · exact atT_mem e2
            · rcases List.mem_cons.mp hw with rfl | hw
              · exact atT_mem e3
              · exact hw
          exact ⟨hm, good_of_word (List.mem_filter.mp hm).2⟩
        exact ok_callU (n := 0) hx hb hml hts hown hK hst hX hB0 hd hG (by decide +kernel) (by decide +kernel) (by decide +kernel) hR (by rw [List.length_reverse]; exact hlen) (fun φ H locs hS => by rw [hS.2.2.2.2.2.1 u]; exact still_O hX (h8 u hu) hS.2.2.1) hsum hb1 hb2 hRc hRs hM (hk _ _ _ _ _ _ k4)
      · have hent' : (callB own idx a ix && (atT (ix.getD 3 0) (.instanceMethod (yy a)) && (atT (ix.getD 4 0) (.selects (yy a).cls (yy a) (yy a)) && (yOk a b && (decide ((yy a).cls = "java/lang/String") && decide (jcl a = 2)))))) = true := by
          unfold entB at hent
          split at hent
          all_goals first | (exfalso; simp at *; done) | skip
          · split at hent
            · exact absurd rfl ha
            · exact hent
        simp only [Bool.and_eq_true, decide_eq_true_eq] at hent'
        obtain ⟨f1, f2, f3⟩ := callB_spec hent'.1
        rw [hent'.2.2.2.2.2] at hg
        obtain ⟨u, rfl, hu⟩ : ∃ u, t = wB + (200 + u) ∧ u < 4 := by
          simp only [gIn, Bool.and_eq_true] at hg
          have g1 := Nat.le_of_ble_eq_true hg.1
          have g2 : t < wB + 204 := by simpa [Nat.blt_eq] using hg.2
          obtain ⟨u, rfl⟩ := Nat.exists_eq_add_of_le g1
          exact ⟨u, by omega, by omega⟩
        have hX0 := hX
        obtain ⟨-, -, -, -, -, -, -, -, -, h10, -⟩ := hX0
        exact ok_callV2 hx hb hml hts hown hK hst hX hB0 hd f3 (hts _ f2) (hts _ f1) (hts _ (atT_mem hent'.2.1)) (hts _ (atT_mem hent'.2.2.1)) hent'.2.2.2.1 hR (by rw [List.length_reverse]; exact hlen) (fun φ H locs hS => by rw [hent'.2.2.2.2.1, hS.2.2.2.2.2.1 (200 + u)]; exact still_O hX (h10.1 u hu).1 hS.2.2.1) hsum hb1 hb2 hRc hRs hM (hk _ _ _ _ _ _ k4)
    all_goals first | (exfalso; simp at *; done) | (cases h; done) | skip
theorem exCopy_ok (C : Cxt p R s0 m args c D cT B0 G nL bud scr own rs cc d) {idx : Nat} (hd : decode cc q = .ok (.invokestatic idx, 3)) (w1 : Cond.methodLink own idx arraycopyName ∈ Tw) (w2 : Cond.native arraycopyName ∈ Tw) (w3 : Cond.static arraycopyName ∈ Tw) (w4 : Cond.initialized "java/lang/System" ∈ Tw) (h : exCopy q L S T s cs k = some o)
    (hk : ∀ pc' L' S' T' s' cs', k pc' L' S' T' s' cs' = some o → Wat p l e R s0 m args below meth c Q D cT B0 G nL bud pc' L' S' T' s' cs') : Wat p l e R s0 m args below meth c Q D cT B0 G nL bud q L S T s cs := by
  obtain ⟨hx, hb, hml, hown, hts, hK, hX, hB0, ⟨ixs, hres⟩, hR, hRc, hRs, hin⟩ := C
  unfold exCopy at h
  obtain ⟨n, S1, rfl, k1⟩ := popI_inv h
  obtain ⟨dp, S2, rfl, k2⟩ := popI_inv k1
  obtain ⟨t, S3, rfl, k3⟩ := popR_inv k2
  obtain ⟨sp, S4, rfl, k4⟩ := popI_inv k3
  obtain ⟨a, S5, rfl, k5⟩ := popR_inv k4
  obtain ⟨hsum, k6⟩ := bsel_inv k5
  have hsum := Nat.le_of_ble_eq_true hsum
  obtain ⟨a0, -, k7⟩ := inR_inv k6
  obtain ⟨b0, -, k8⟩ := inR_inv k7
  obtain ⟨c0, -, k9⟩ := inR_inv k8
  cases h1 : Nat.beq (T.2.1 a).2.1 1 with
  | true =>
    rw [h1, bsel_t] at k9
    obtain ⟨g0, g1, g2, k9⟩ := onArr_inv k9
    obtain ⟨e0, e1, e2, k9⟩ := onArr_inv k9
    obtain ⟨hc, k9⟩ := ite_inv k9
    exact ok_copyI hx hb hml hown hK (hts _ w1) (hts _ w2) (hts _ w3) (hts _ w4) hd g0 g1 g2 e0 e1 e2 a0 b0 c0 hc.1 hc.2 hsum (by omega) (by omega) (hk _ _ _ _ _ _ k9)
  | false =>
    rw [h1, bsel_f] at k9
    obtain ⟨g0, g1, g2, k9⟩ := onArr_inv k9
    obtain ⟨e0, e1, e2, k9⟩ := onArr_inv k9
    obtain ⟨hc, k9⟩ := ite_inv k9
    exact ok_copyJ hx hb hml hown hK (hts _ w1) (hts _ w2) (hts _ w3) (hts _ w4) hd g0 g1 g2 e0 e1 e2 a0 b0 c0 hc.1 hc.2 hsum (by omega) (by omega) (hk _ _ _ _ _ _ k9)
theorem exInvS_ok (C : Cxt p R s0 m args c D cT B0 G nL bud scr own rs cc d) {cal : mCal α} (hcal : CalOk l D cT B0 G scr d T cal) {idx : Nat} (hd : decode cc q = .ok (.invokestatic idx, 3)) (h : exInv bud cal 2 (rlook rs idx) q L S T s cs k = some o)
    (hk : ∀ pc' L' S' T' s' cs', k pc' L' S' T' s' cs' = some o → Wat p l e R s0 m args below meth c Q D cT B0 G nL bud pc' L' S' T' s' cs') : Wat p l e R s0 m args below meth c Q D cT B0 G nL bud q L S T s cs := by
  have C0 := C
  obtain ⟨hx, hb, hml, hown, hts, hK, hX, hB0, ⟨ixs, hres⟩, hR, hRc, hRs, hin⟩ := C
  have hst := SxW_still B0 G.1 scr
  cases hr : rlook rs idx with
  | mk kd ab =>
    obtain ⟨a, b⟩ := ab
    rw [hr] at h
    have hent := resB_look rs ixs hres hr
    unfold exInv at h
    split at h
    case h_3 j0 n0 heq1 heq =>
      cases heq
      obtain ⟨hlen, k3⟩ := bsel_inv h
      have hlen : (S.take b).length = b := Nat.eq_of_beq_eq_true hlen
      obtain ⟨hsum, hb1, hb2, x, T', s', k4, hM⟩ := exCall_inv hcal k3
      have eS : S = ((S.take b).reverse).reverse ++ S.drop b := by rw [List.reverse_reverse, List.take_append_drop]
      rcases hent with h0 | ⟨ix, hent⟩
      · cases h0
      simp only [entB, Bool.and_eq_true] at hent
      obtain ⟨f1, f2, f3⟩ := callB_spec hent.1
      rw [eS]
      exact ok_callS hx hb hml hts hown hK hst hX hB0 hd f3 (hts _ f2) (hts _ f1) (hts _ (atT_mem hent.2.1)) hent.2.2 hR (by rw [List.length_reverse]; exact hlen) hsum hb1 hb2 hRc hRs hM (hk _ _ _ _ _ _ k4)
    case h_4 j0 n0 heq1 heq =>
      cases heq
      rcases hent with h0 | ⟨ix, hent⟩
      · cases h0
      simp only [entB, Bool.and_eq_true] at hent
      exact exCopy_ok C0 hd (atT_mem hent.1) (atT_mem hent.2.1) (atT_mem hent.2.2.1) (atT_mem hent.2.2.2) h hk
    all_goals first | (exfalso; simp at *; done) | (cases h; done) | skip
theorem exInvI_ok (C : Cxt p R s0 m args c D cT B0 G nL bud scr own rs cc d) {cal : mCal α} (hcal : CalOk l D cT B0 G scr d T cal) {idx : Nat} (hd : decode cc q = .ok (.invokespecial idx, 3)) (h : exInv bud cal 3 (rlook rs idx) q L S T s cs k = some o)
    (hk : ∀ pc' L' S' T' s' cs', k pc' L' S' T' s' cs' = some o → Wat p l e R s0 m args below meth c Q D cT B0 G nL bud pc' L' S' T' s' cs') : Wat p l e R s0 m args below meth c Q D cT B0 G nL bud q L S T s cs := by
  obtain ⟨hx, hb, hml, hown, hts, hK, hX, hB0, ⟨ixs, hres⟩, hR, hRc, hRs, hin⟩ := C
  have hst := SxW_still B0 G.1 scr
  cases hr : rlook rs idx with
  | mk kd ab =>
    obtain ⟨a, b⟩ := ab
    rw [hr] at h
    have hent := resB_look rs ixs hres hr
    unfold exInv at h
    split at h
    case h_5 j0 n0 heq1 heq =>
      cases heq
      obtain ⟨t, S', hSS, k1⟩ := popR_inv h
      obtain ⟨g0, g1, g2, k2⟩ := onObj_inv k1
      obtain ⟨hlen, k3⟩ := bsel_inv k2
      have hlen : (S.take b).length = b := Nat.eq_of_beq_eq_true hlen
      obtain ⟨hsum, hb1, hb2, x, T', s', k4, hM⟩ := exCall_inv hcal k3
      have eS : S = ((S.take b).reverse).reverse ++ rv (some t) :: S' := by rw [List.reverse_reverse, ← hSS, List.take_append_drop]
      rcases hent with h0 | ⟨ix, hent⟩
      · cases h0
      simp only [entB, Bool.and_eq_true, decide_eq_true_eq] at hent
      obtain ⟨f1, f2, f3⟩ := callB_spec hent.1
      rw [eS]
      exact ok_callI hx hb hml hts hown hK hst hX hB0 hd (by rw [← hent.2.2.2.1]; exact f3) hent.2.2.2.1 (hts _ f2) (hts _ f1) (hts _ (atT_mem hent.2.1)) hent.2.2.2.2 hent.2.2.1 hR (by rw [List.length_reverse]; exact hlen) hsum hb1 hb2 hRc hRs hM (hk _ _ _ _ _ _ k4)
    case h_6 j0 n0 heq1 heq =>
      cases heq
      obtain ⟨t, S', hSS, k1⟩ := popR_inv h
      obtain ⟨g0, g1, g2, k2⟩ := onObj_inv k1
      obtain ⟨hlen, k3⟩ := bsel_inv k2
      have hlen : (S.take b).length = b := Nat.eq_of_beq_eq_true hlen
      obtain ⟨hsum, hb1, hb2, x, T', s', k4, hM⟩ := exCall_inv hcal k3
      have eS : S = ((S.take b).reverse).reverse ++ rv (some t) :: S' := by rw [List.reverse_reverse, ← hSS, List.take_append_drop]
      rcases hent with h0 | ⟨ix, hent⟩
      · cases h0
      simp only [entB, Bool.and_eq_true, decide_eq_true_eq] at hent
      obtain ⟨e1, e2, e3, e4, e5, e6, e7, e8⟩ := hent
      have hX0 := hX
      obtain ⟨-, -, -, -, -, -, -, -, -, -, -, h12, -⟩ := hX0
      have hl := h12 _ e7
      rw [eS]
      exact ok_callIN hx hb hml hts hown hK hst hX hB0 hd (by rw [← e5]; exact atT_mem e2) e5 (hts _ (atT_mem e1)) (by rw [e8]; exact hl) (hts _ (atT_mem e3)) e6 e4 hR (by rw [List.length_reverse]; exact hlen) hsum hb1 hb2 hRc hRs hM (hk _ _ _ _ _ _ k4)
    case h_7 j0 n0 heq1 heq =>
      cases heq
      obtain ⟨t, S', rfl, k1⟩ := popR_inv h
      obtain ⟨hsum, k2⟩ := bsel_inv k1
      rcases hent with h0 | ⟨ix, hent⟩
      · cases h0
      simp only [entB, Bool.and_eq_true] at hent
      exact ok_objInit hx hb hml hown (hts _ (atT_mem hent.1)) (hts _ (atT_mem hent.2.1)) (hts _ (atT_mem hent.2.2)) hd (by omega) (by omega) (Nat.le_of_ble_eq_true hsum) (hk _ _ _ _ _ _ k2)
    all_goals first | (exfalso; simp at *; done) | (cases h; done) | skip
end Grp3
