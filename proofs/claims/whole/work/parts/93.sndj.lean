/-! ===== one step of the small machine is a step of the machine: by groups ===== -/
section Grp
variable {p : Program} {l : Launch} {e : Env} {R : Room} {s0 : State} {m : MethodId} {args : Array Value} {below : List Frame} {meth : Method} {c : Code} {Q : State → Prop} {D : va_G} {cT : Nat → ClassId} {B0 : Nat} {G : mG} {nL : Nat} {bud : Nat × Nat} {scr : Nat × (Nat → Int)} {own : String} {rs : List (Nat × Nat × Nat × Nat)} {cc : ByteArray} {d : Nat}
variable {q : Nat} {L : mL} {S : List mV} {T : mT} {s : mS} {cs : Nat × Nat} {α : Type} {o : α} {k : mK α}
theorem wB_of {t n : Nat} (h : (Nat.ble wB t && Nat.blt t (wB + n)) = true) : ∃ j, t = wB + j ∧ j < n := by
  simp only [Bool.and_eq_true] at h
  have h1 := Nat.le_of_ble_eq_true h.1
  have h2 : t < wB + n := by simpa [Nat.blt_eq] using h.2
  obtain ⟨j, rfl⟩ := Nat.exists_eq_add_of_le h1
  exact ⟨j, rfl, by omega⟩
theorem fvm_1 {T : mT} {s : mS} {t ci k : Nat} (h : fty ci k = 1) : fvm T s t ci k = iv (s.1 t k) := by unfold fvm; rw [h]; rfl
theorem fvm_15 {T : mT} {s : mS} {t ci k : Nat} (h : fty ci k = 15) : fvm T s t ci k = iv (s.1 t k) := by unfold fvm; rw [h]; rfl
theorem fvm_2 {T : mT} {s : mS} {t ci k : Nat} (h : fty ci k = 2) : fvm T s t ci k = jv (s.2 t k) := by unfold fvm; rw [h]; rfl
theorem fvm_4 {T : mT} {s : mS} {t ci k : Nat} (h : fty ci k = 4) : fvm T s t ci k = rv (encW (s.1 t k)) := by unfold fvm; rw [h]; rfl
theorem fvm_3 {T : mT} {s : mS} {t ci k : Nat} (h : fty ci k = 3) : fvm T s t ci k = rv (T.2.2 t k) := by unfold fvm; rw [h]; rfl
theorem fvm_16 {T : mT} {s : mS} {t ci k : Nat} (h : fty ci k = 16) : fvm T s t ci k = rv (T.2.2 t k) := by unfold fvm; rw [h]; rfl
theorem exGet_ok (C : Cxt p R s0 m args c D cT B0 G nL bud scr own rs cc d) {idx : Nat} (hd : decode cc q = .ok (.getfield idx, 3)) (h : exGet (rlook rs idx) q L S T s cs k = some o)
    (hk : ∀ pc' L' S' T' s' cs', k pc' L' S' T' s' cs' = some o → Wat p l e R s0 m args below meth c Q D cT B0 G nL bud pc' L' S' T' s' cs') : Wat p l e R s0 m args below meth c Q D cT B0 G nL bud q L S T s cs := by
  obtain ⟨hx, hb, hml, hown, hts, hK, hX, hB0, ⟨ixs, hres⟩, hR, hRc, hRs, hin⟩ := C
  cases hr : rlook rs idx with
  | mk kd ab =>
    obtain ⟨a, b⟩ := ab
    rw [hr] at h
    have hent := resB_look rs ixs hres hr
    unfold exGet at h
    obtain ⟨t, S', rfl, h⟩ := popR_inv h
    split at h
    case h_1 ci0 f0 heq =>
      cases heq
      obtain ⟨g0, g1, g2, h⟩ := onObj_inv h
      rcases hent with h0 | ⟨ix, hent⟩
      · cases h0
      simp only [entB, Bool.and_eq_true, decide_eq_true_eq] at hent
      obtain ⟨f1, f2, f3⟩ := fldB_spec hent.1
      refine ok_get hx hb hts hin hown hK (hts _ f3) f2 hd g0 g1 g2 ?_
      have e1 : fvm T s t a b = iv (s.1 t b) := fvm_1 hent.2.1
      rw [e1]; exact hk _ _ _ _ _ _ h
    case h_2 ci0 f0 heq =>
      cases heq
      obtain ⟨g0, g1, g2, h⟩ := onObj_inv h
      rcases hent with h0 | ⟨ix, hent⟩
      · cases h0
      simp only [entB, Bool.and_eq_true, decide_eq_true_eq] at hent
      obtain ⟨f1, f2, f3⟩ := fldB_spec hent.1
      refine ok_get hx hb hts hin hown hK (hts _ f3) f2 hd g0 g1 g2 ?_
      have e1 : fvm T s t a b = jv (s.2 t b) := fvm_2 hent.2.1
      rw [e1]; exact hk _ _ _ _ _ _ h
    case h_3 ci0 f0 heq =>
      cases heq
      obtain ⟨g0, g1, g2, h⟩ := onObj_inv h
      rcases hent with h0 | ⟨ix, hent⟩
      · cases h0
      simp only [entB, Bool.and_eq_true, decide_eq_true_eq] at hent
      obtain ⟨f1, f2, f3⟩ := fldB_spec hent.1
      refine ok_get hx hb hts hin hown hK (hts _ f3) f2 hd g0 g1 g2 ?_
      have e1 : fvm T s t a b = rv (T.2.2 t b) := fvm_3 hent.2.1
      rw [e1]; exact hk _ _ _ _ _ _ h
    case h_4 ci0 f0 heq =>
      cases heq
      obtain ⟨g0, g1, g2, h⟩ := onObj_inv h
      rcases hent with h0 | ⟨ix, hent⟩
      · cases h0
      simp only [entB, Bool.and_eq_true, decide_eq_true_eq] at hent
      obtain ⟨f1, f2, f3⟩ := fldB_spec hent.1
      refine ok_get hx hb hts hin hown hK (hts _ f3) f2 hd g0 g1 g2 ?_
      have e1 : fvm T s t a b = rv (T.2.2 t b) := fvm_16 hent.2.1
      rw [e1]; exact hk _ _ _ _ _ _ h
    case h_5 ci0 f0 heq =>
      cases heq
      obtain ⟨g0, g1, g2, h⟩ := onObj_inv h
      rcases hent with h0 | ⟨ix, hent⟩
      · cases h0
      simp only [entB, Bool.and_eq_true, decide_eq_true_eq] at hent
      obtain ⟨f1, f2, f3⟩ := fldB_spec hent.1
      refine ok_get hx hb hts hin hown hK (hts _ f3) f2 hd g0 g1 g2 ?_
      have e1 : fvm T s t a b = rv (encW (s.1 t b)) := fvm_4 hent.2.1
      rw [e1]; exact hk _ _ _ _ _ _ h
    case h_6 f0 b0 heq =>
      cases heq
      obtain ⟨hf, h⟩ := bsel_inv h
      obtain ⟨hg, h⟩ := ite_inv h
      rcases hent with h0 | ⟨ix, hent⟩
      · cases h0
      have hf : a < 2 := by simpa [Nat.blt_eq] using hf
      obtain ⟨-, -, -, -, -, h6, h7, -⟩ := hX
      match a, hf, hg, hent, h with
      | 0, _, hg, hent, h =>
        obtain ⟨j, rfl, hj⟩ := wB_of (n := 24) hg
        refine ok_getO (k := j) (v := jv (wL j)) hx hb hown rfl (fun φ => h6 j hj) (canJ_wL j) (hts _ (atT_mem hent)) hd ?_
        have e1 : gO 0 (wB + j) = jv (wL j) := by show jv (wL (wB + j - wB)) = _; rw [Nat.add_sub_cancel_left]
        rw [← e1]; exact hk _ _ _ _ _ _ h
      | 1, _, hg, hent, h =>
        obtain ⟨j, rfl, hj⟩ := wB_of (n := 24) hg
        refine ok_getO (k := j) (v := iv (j : Int)) hx hb hown rfl (fun φ => h7 j hj) (show can (j : Int) from by unfold can; omega) (hts _ (atT_mem hent)) hd ?_
        have e1 : gO 1 (wB + j) = iv (j : Int) := by show iv (((wB + j : Nat) : Int) - 1000) = _; congr 2; show ((1000 + j : Nat) : Int) - 1000 = _; omega
        rw [← e1]; exact hk _ _ _ _ _ _ h
    case h_7 ci0 f0 heq =>
      cases heq
      obtain ⟨g0, g1, g2, h⟩ := onObj_inv h
      rcases hent with h0 | ⟨ix, hent⟩
      · cases h0
      simp only [entB, Bool.and_eq_true, decide_eq_true_eq] at hent
      obtain ⟨f1, f2, f3⟩ := fldB_spec hent.1
      refine ok_get hx hb hts hin hown hK (hts _ f3) f2 hd g0 g1 g2 ?_
      have e1 : fvm T s t a b = iv (s.1 t b) := fvm_15 hent.2.1
      rw [e1]; exact hk _ _ _ _ _ _ h
    case h_8 => cases h
theorem fvm_other {T : mT} {s : mS} {t ci f j : Nat} {x : Int} (h : j ≠ f) : fvm T (wI s t f x) t ci j = fvm T s t ci j := by
  have e : (wI s t f x).1 t j = s.1 t j := by show u2 s.1 t f x t j = _; rw [u2_at, if_neg h]
  unfold fvm; rw [e]; rfl
theorem fvm_otherJ {T : mT} {s : mS} {t ci f j : Nat} {x : Int} (h : j ≠ f) : fvm T (wJ s t f x) t ci j = fvm T s t ci j := by
  have e : (wJ s t f x).2 t j = s.2 t j := by show u2 s.2 t f x t j = _; rw [u2_at, if_neg h]
  unfold fvm; rw [e]; rfl
theorem fvm_otherR {T : mT} {s : mS} {t ci f j : Nat} {x : Option Nat} (h : j ≠ f) : fvm (setR T t f x) s t ci j = fvm T s t ci j := by
  have e : (setR T t f x).2.2 t j = T.2.2 t j := by simp [setR, h]
  unfold fvm; rw [e]
theorem wOk_enc {x : Option Nat} (h : wOk x = true) : encW (decW x) = x := by
  cases x with
  | none => rfl
  | some t =>
    have h1 : wB ≤ t := Nat.le_of_ble_eq_true h
    unfold encW decW
    have h2 : ¬ ((t : Int) - 1000 < 0) := by have : 1000 ≤ t := h1; omega
    rw [if_neg h2]
    congr 1
    show 1000 + ((t : Int) - 1000).toNat = t
    have : 1000 ≤ t := h1
    omega
theorem can_decW {T : mT} {x : Option Nat} (h : okR T x) (hT : canT T) (hx : wOk x = true) : can (decW x) := by
  cases x with
  | none => show can (-1); unfold can; omega
  | some t =>
    have h1 : wB ≤ t := Nat.le_of_ble_eq_true hx
    have h2 := hT.1
    show can ((t : Int) - 1000)
    unfold can
    have h3 : (1000 : Nat) ≤ t := h1
    have h2 : T.1 < 1000 := h2
    rcases h t rfl with h | h
    · omega
    · have h4 : t < 1000 + 2147483648 := h.2
      omega
theorem exPut_ok (C : Cxt p R s0 m args c D cT B0 G nL bud scr own rs cc d) {ini : Bool} {oc idx : Nat} (hini : ini = true → meth.name = "<init>" ∧ clN oc = own) (hd : decode cc q = .ok (.putfield idx, 3)) (h : exPut ini oc (rlook rs idx) q L S T s cs k = some o)
    (hk : ∀ pc' L' S' T' s' cs', k pc' L' S' T' s' cs' = some o → Wat p l e R s0 m args below meth c Q D cT B0 G nL bud pc' L' S' T' s' cs') : Wat p l e R s0 m args below meth c Q D cT B0 G nL bud q L S T s cs := by
  obtain ⟨hx, hb, hml, hown, hts, hK, hX, hB0, ⟨ixs, hres⟩, hR, hRc, hRs, hin⟩ := C
  cases hr : rlook rs idx with
  | mk kd ab =>
    obtain ⟨a, b⟩ := ab
    rw [hr] at h
    have hent := resB_look rs ixs hres hr
    unfold exPut at h
    split at h
    case h_1 ci0 f0 heq =>
      cases heq
      obtain ⟨x, S1, rfl, h⟩ := popI_inv h
      obtain ⟨t, S2, rfl, h⟩ := popR_inv h
      obtain ⟨g0, g1, g2, h⟩ := onObj_inv h
      rcases hent with h0 | ⟨ix, hent⟩
      · cases h0
      simp only [entB, Bool.and_eq_true, decide_eq_true_eq] at hent
      obtain ⟨f1, f2, f3⟩ := fldB_spec hent.1
      refine ok_put (w := iv x) (T' := T) (s' := wI s t b x) hx hb hts hin hown hK (hts _ f3) f2 hd g0 g1 g2 hent.2.2.1 (fun φ => by rw [hent.2.2.2]; exact vp_nar_int _) (fun φ => by rw [hent.2.2.2]; rfl) rfl rfl (fun _ _ => rfl) (fun z ha => u2_row _ _ _ ha) (fun _ _ => rfl) ?_ (fun j hj => fvm_other hj) (fun hs _ hv => canS_wI hs hv) id (hk _ _ _ _ _ _ h)
      rw [fvm_1 hent.2.1]
      show iv (u2 s.1 t b x t b) = _
      rw [u2_self]
    case h_2 ci0 f0 heq =>
      cases heq
      obtain ⟨x, S1, rfl, h⟩ := popI_inv h
      obtain ⟨t, S2, rfl, h⟩ := popR_inv h
      obtain ⟨g0, g1, g2, h⟩ := onObj_inv h
      obtain ⟨hz, h⟩ := ite_inv h
      rcases hent with h0 | ⟨ix, hent⟩
      · cases h0
      simp only [entB, Bool.and_eq_true, decide_eq_true_eq] at hent
      obtain ⟨f1, f2, f3⟩ := fldB_spec hent.1
      refine ok_put (w := iv x) (T' := T) (s' := wI s t b x) hx hb hts hin hown hK (hts _ f3) f2 hd g0 g1 g2 hent.2.2.1 (fun φ => by rw [hent.2.2.2]; rcases hz with rfl | rfl <;> rfl) (fun φ => by rw [hent.2.2.2]; rcases hz with rfl | rfl <;> rfl) rfl rfl (fun _ _ => rfl) (fun z ha => u2_row _ _ _ ha) (fun _ _ => rfl) ?_ (fun j hj => fvm_other hj) (fun hs _ hv => canS_wI hs hv) id (hk _ _ _ _ _ _ h)
      rw [fvm_15 hent.2.1]
      show iv (u2 s.1 t b x t b) = _
      rw [u2_self]
    case h_3 ci0 f0 heq =>
      cases heq
      obtain ⟨x, S1, rfl, h⟩ := popJ_inv h
      obtain ⟨t, S2, rfl, h⟩ := popR_inv h
      obtain ⟨g0, g1, g2, h⟩ := onObj_inv h
      rcases hent with h0 | ⟨ix, hent⟩
      · cases h0
      simp only [entB, Bool.and_eq_true, decide_eq_true_eq] at hent
      obtain ⟨f1, f2, f3⟩ := fldB_spec hent.1
      refine ok_put (w := jv x) (T' := T) (s' := wJ s t b x) hx hb hts hin hown hK (hts _ f3) f2 hd g0 g1 g2 hent.2.2.1 (fun φ => by rw [hent.2.2.2]; rfl) (fun φ => by rw [hent.2.2.2]; rfl) rfl rfl (fun _ _ => rfl) (fun _ _ => rfl) (fun z ha => u2_row _ _ _ ha) ?_ (fun j hj => fvm_otherJ hj) (fun hs _ hv => canS_wJ hs hv) id (hk _ _ _ _ _ _ h)
      rw [fvm_2 hent.2.1]
      show jv (u2 s.2 t b x t b) = _
      rw [u2_self]
    case h_4 ci0 f0 heq =>
      cases heq
      obtain ⟨x, S1, rfl, h⟩ := popQ_inv h
      obtain ⟨t, S2, rfl, h⟩ := popR_inv h
      obtain ⟨g0, g1, g2, h⟩ := onObj_inv h
      obtain ⟨hw, h⟩ := bsel_inv h
      rcases hent with h0 | ⟨ix, hent⟩
      · cases h0
      simp only [entB, Bool.and_eq_true, decide_eq_true_eq] at hent
      obtain ⟨f1, f2, f3⟩ := fldB_spec hent.1
      refine ok_put (w := rv x) (T' := T) (s' := wI s t b (decW x)) hx hb hts hin hown hK (hts _ f3) f2 hd g0 g1 g2 hent.2.2.1 (fun φ => by rw [hent.2.2.2]; cases x <;> rfl) (fun φ => by rw [hent.2.2.2]; cases x <;> rfl) rfl rfl (fun _ _ => rfl) (fun z ha => u2_row _ _ _ ha) (fun _ _ => rfl) ?_ (fun j hj => fvm_other hj) (fun hs hT hv => canS_wI hs (can_decW hv hT hw)) id (hk _ _ _ _ _ _ h)
      rw [fvm_4 hent.2.1]
      show rv (encW (u2 s.1 t b (decW x) t b)) = _
      rw [u2_self, wOk_enc hw]
    case h_5 ci0 f0 heq =>
      cases heq
      obtain ⟨hi, k1⟩ := bsel_inv h
      obtain ⟨x, S1, rfl, k2⟩ := popR_inv k1
      obtain ⟨t, S2, rfl, k3⟩ := popR_inv k2
      obtain ⟨g0, g1, g2, h⟩ := onObj_inv k3
      obtain ⟨e0, e1, e2, h⟩ := onObj_inv h
      simp only [Bool.and_eq_true] at hi
      obtain ⟨hn1, hn2⟩ := hini hi.1
      have hoc : oc = a := Nat.eq_of_beq_eq_true hi.2
      rcases hent with h0 | ⟨ix, hent⟩
      · cases h0
      simp only [entB, Bool.and_eq_true, decide_eq_true_eq] at hent
      obtain ⟨f1, f2, f3⟩ := fldB_spec hent.1
      refine ok_putF (w := rv (some x)) (T' := setR T t b (some x)) (s' := s) hx hb hts hin hown hK hn1 (hts _ f3) f2 hd g0 g1 g2 hent.2.2.1 (by rw [← hoc]; exact hn2) (fun φ => by rw [hent.2.2.2]; rfl) (fun φ => by rw [hent.2.2.2]; rfl) rfl rfl (fun z ha => by funext j; simp [setR, ha]) (fun _ _ => rfl) (fun _ _ => rfl) ?_ (fun j hj => fvm_otherR hj) (fun hs _ _ => hs) (fun hT => canT_setR hT e2) (hk _ _ _ _ _ _ h)
      rw [fvm_3 hent.2.1]
      simp [setR]
    case h_6 ci0 f0 heq =>
      cases heq
      obtain ⟨hi, k1⟩ := bsel_inv h
      obtain ⟨x, S1, rfl, k2⟩ := popR_inv k1
      obtain ⟨t, S2, rfl, k3⟩ := popR_inv k2
      obtain ⟨g0, g1, g2, h⟩ := onObj_inv k3
      obtain ⟨e0, e1, e2, h⟩ := onArr_inv h
      simp only [Bool.and_eq_true] at hi
      obtain ⟨hn1, hn2⟩ := hini hi.1
      have hoc : oc = a := Nat.eq_of_beq_eq_true hi.2
      rcases hent with h0 | ⟨ix, hent⟩
      · cases h0
      simp only [entB, Bool.and_eq_true, decide_eq_true_eq] at hent
      obtain ⟨f1, f2, f3⟩ := fldB_spec hent.1
      obtain ⟨ta, hta⟩ : ∃ ta, tyX a b = .array ta := by
        have h9 := hent.2.2.2
        split at h9
        · exact ⟨_, by assumption⟩
        · cases h9
      refine ok_putF (w := rv (some x)) (T' := setR T t b (some x)) (s' := s) hx hb hts hin hown hK hn1 (hts _ f3) f2 hd g0 g1 g2 hent.2.2.1 (by rw [← hoc]; exact hn2) (fun φ => by rw [hta]; rfl) (fun φ => by rw [hta]; rfl) rfl rfl (fun z ha => by funext j; simp [setR, ha]) (fun _ _ => rfl) (fun _ _ => rfl) ?_ (fun j hj => fvm_otherR hj) (fun hs _ _ => hs) (fun hT => canT_setR hT e2) (hk _ _ _ _ _ _ h)
      rw [fvm_16 hent.2.1]
      simp [setR]
    case h_7 => cases h
end Grp
