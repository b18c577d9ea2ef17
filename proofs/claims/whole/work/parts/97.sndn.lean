/-! ===== written by gen_ex.py: one step of the small machine is one of the machine ===== -/
section Grp5
variable {p : Program} {l : Launch} {e : Env} {R : Room} {s0 : State} {m : MethodId} {args : Array Value} {below : List Frame} {meth : Method} {c : Code} {Q : State → Prop} {D : va_G} {cT : Nat → ClassId} {B0 : Nat} {G : mG} {nL : Nat} {bud : Nat × Nat} {scr : Nat × (Nat → Int)} {own : String} {rs : List (Nat × Nat × Nat × Nat)} {cc : ByteArray} {d : Nat}
variable {q : Nat} {L : mL} {S : List mV} {T : mT} {s : mS} {cs : Nat × Nat} {α : Type} {o : α} {k : mK α}
theorem blt_of {a b : Nat} (h : Nat.blt a b = true) : a < b := by simpa [Nat.blt_eq] using h
theorem exRetI_inv {rk : Nat} {kr : Int → mT → mS → Option α} (h : exRetI rk S T s kr = some o) : ∃ x, S = [iv x] ∧ (rk = 1 ∨ rk = 4 ∨ rk = 5 ∨ rk = 6) ∧ rgOk rk x ∧ kr x T s = some o := by
  unfold exRetI at h
  split at h
  · rename_i x
    refine ⟨x, rfl, ?_⟩
    split at h
    · exact ⟨Or.inl rfl, trivial, h⟩
    · obtain ⟨h1, h2⟩ := ite_inv h; exact ⟨Or.inr (Or.inl rfl), h1, h2⟩
    · obtain ⟨h1, h2⟩ := ite_inv h; exact ⟨Or.inr (Or.inr (Or.inl rfl)), h1, h2⟩
    · obtain ⟨h1, h2⟩ := ite_inv h; exact ⟨Or.inr (Or.inr (Or.inr rfl)), h1, h2⟩
    · cases h
  · cases h
set_option maxHeartbeats 4000000 in
theorem ex_ok (C : Cxt p R s0 m args c D cT B0 G nL bud scr own rs cc d) {cal : mCal α} (hcal : CalOk l D cT B0 G scr d T cal) (hArr : ∀ ty, ty = .int ∨ ty = .long ∨ ty = .byte ∨ ty = .boolean → Cond.arrayClass ty ∈ Tw) {al ini : Bool} {oc rk len : Nat} {tg : List Nat} {ins : Instr} (hini : ini = true → meth.name = "<init>" ∧ clN oc = own) (hd : decode cc q = .ok (ins, len)) (htg : tgOk q ins len tg = true) {kr : Int → mT → mS → Option α}
    (h : ex Z0 al ini oc nL bud scr rk (rlook rs) cal ins q len tg L S T s cs k kr = some o)
    (hk : ∀ pc' L' S' T' s' cs', k pc' L' S' T' s' cs' = some o → Wat p l e R s0 m args below meth c Q D cT B0 G nL bud pc' L' S' T' s' cs')
    (hr : ∀ x T' s', kr x T' s' = some o → RetOk p l e R s0 m args below meth c Q D cT B0 G bud cc rk x T' s') : Wat p l e R s0 m args below meth c Q D cT B0 G nL bud q L S T s cs := by
  have C0 := C
  obtain ⟨hx, hb, hml, hown, hts, hK, hX, hB0, ⟨ixs, hres⟩, hR, hRc, hRs, hin⟩ := C
  cases ins
  case iload i =>
    have hlen : len = 2 := Nat.eq_of_beq_eq_true htg
    subst hlen
    obtain ⟨x, hg, k1⟩ := ldI_inv h
    exact ok_iload hx hb hd hg (hk _ _ _ _ _ _ k1)
  case iload_n i =>
    have hlen : len = 1 := Nat.eq_of_beq_eq_true htg
    subst hlen
    obtain ⟨x, hg, k1⟩ := ldI_inv h
    exact ok_iload_n hx hb hd hg (hk _ _ _ _ _ _ k1)
  case lload i =>
    have hlen : len = 2 := Nat.eq_of_beq_eq_true htg
    subst hlen
    obtain ⟨x, hg, k1⟩ := ldJ_inv h
    exact ok_lload hx hb hd hg (hk _ _ _ _ _ _ k1)
  case lload_n i =>
    have hlen : len = 1 := Nat.eq_of_beq_eq_true htg
    subst hlen
    obtain ⟨x, hg, k1⟩ := ldJ_inv h
    exact ok_lload_n hx hb hd hg (hk _ _ _ _ _ _ k1)
  case aload i =>
    have hlen : len = 2 := Nat.eq_of_beq_eq_true htg
    subst hlen
    obtain ⟨x, hg, k1⟩ := ldR_inv h
    exact ok_aload hx hb hd hg (hk _ _ _ _ _ _ k1)
  case aload_n i =>
    have hlen : len = 1 := Nat.eq_of_beq_eq_true htg
    subst hlen
    obtain ⟨x, hg, k1⟩ := ldR_inv h
    exact ok_aload_n hx hb hd hg (hk _ _ _ _ _ _ k1)
  case istore i =>
    have hlen : len = 2 := Nat.eq_of_beq_eq_true htg
    subst hlen
    obtain ⟨x, S1, rfl, k1⟩ := popI_inv h
    obtain ⟨hn, k2⟩ := bsel_inv k1
    exact ok_istore hx hb hd (blt_of hn) (hk _ _ _ _ _ _ k2)
  case istore_n i =>
    have hlen : len = 1 := Nat.eq_of_beq_eq_true htg
    subst hlen
    obtain ⟨x, S1, rfl, k1⟩ := popI_inv h
    obtain ⟨hn, k2⟩ := bsel_inv k1
    exact ok_istore_n hx hb hd (blt_of hn) (hk _ _ _ _ _ _ k2)
  case lstore i =>
    have hlen : len = 2 := Nat.eq_of_beq_eq_true htg
    subst hlen
    obtain ⟨x, S1, rfl, k1⟩ := popJ_inv h
    obtain ⟨hn, k2⟩ := bsel_inv k1
    exact ok_lstore hx hb hd (blt_of hn) (hk _ _ _ _ _ _ k2)
  case lstore_n i =>
    have hlen : len = 1 := Nat.eq_of_beq_eq_true htg
    subst hlen
    obtain ⟨x, S1, rfl, k1⟩ := popJ_inv h
    obtain ⟨hn, k2⟩ := bsel_inv k1
    exact ok_lstore_n hx hb hd (blt_of hn) (hk _ _ _ _ _ _ k2)
  case astore i =>
    have hlen : len = 2 := Nat.eq_of_beq_eq_true htg
    subst hlen
    obtain ⟨x, S1, rfl, k1⟩ := popQ_inv h
    obtain ⟨hn, k2⟩ := bsel_inv k1
    exact ok_astore hx hb hd (blt_of hn) (hk _ _ _ _ _ _ k2)
  case astore_n i =>
    have hlen : len = 1 := Nat.eq_of_beq_eq_true htg
    subst hlen
    obtain ⟨x, S1, rfl, k1⟩ := popQ_inv h
    obtain ⟨hn, k2⟩ := bsel_inv k1
    exact ok_astore_n hx hb hd (blt_of hn) (hk _ _ _ _ _ _ k2)
  case iinc i n =>
    have hlen : len = 3 := Nat.eq_of_beq_eq_true htg
    subst hlen
    obtain ⟨x, hg, k1⟩ := ldI_inv h
    obtain ⟨hn, k2⟩ := bsel_inv k1
    exact ok_iinc hx hb hd hg (blt_of hn) (hk _ _ _ _ _ _ k2)
  case iconst n =>
    have hlen : len = 1 := Nat.eq_of_beq_eq_true htg
    subst hlen
    obtain ⟨hn, k1⟩ := bsel_inv h
    simp only [Bool.and_eq_true, decide_eq_true_eq] at hn
    exact ok_iconst hx hb hd (by unfold can; omega) (hk _ _ _ _ _ _ k1)
  case bipush n =>
    have hlen : len = 2 := Nat.eq_of_beq_eq_true htg
    subst hlen
    obtain ⟨hn, k1⟩ := bsel_inv h
    simp only [Bool.and_eq_true, decide_eq_true_eq] at hn
    exact ok_bipush hx hb hd hn (hk _ _ _ _ _ _ k1)
  case sipush n =>
    have hlen : len = 3 := Nat.eq_of_beq_eq_true htg
    subst hlen
    obtain ⟨hn, k1⟩ := bsel_inv h
    simp only [Bool.and_eq_true, decide_eq_true_eq] at hn
    exact ok_sipush hx hb hd hn (hk _ _ _ _ _ _ k1)
  case lconst n =>
    have hlen : len = 1 := Nat.eq_of_beq_eq_true htg
    subst hlen
    exact ok_lconst hx hb hd (hk _ _ _ _ _ _ h)
  case aconst_null =>
    have hlen : len = 1 := Nat.eq_of_beq_eq_true htg
    subst hlen
    exact ok_null hx hb hd (hk _ _ _ _ _ _ h)
  case ldc x =>
    have hlen : len = 2 := Nat.eq_of_beq_eq_true htg
    subst hlen
    cases hrl : rlook rs x with
    | mk kd ab =>
      obtain ⟨a, b⟩ := ab
      have hent := resB_look rs ixs hres hrl
      have h : (match rlook rs x with | (25, a, _) => k (q + 2) L (iv (a : Int) :: S) T s cs | (27, a, _) => k (q + 2) L (rv (some (wB + a)) :: S) T s cs | _ => none) = some o := h
      rw [hrl] at h
      split at h
      case h_1 a0 b0 heq =>
        cases heq
        rcases hent with h0 | ⟨ix, hent⟩
        · cases h0
        simp only [entB, Bool.and_eq_true, decide_eq_true_eq] at hent
        exact ok_ldc hx hb hown (by unfold can; omega) (hts _ (atT_mem hent.1)) hd (hk _ _ _ _ _ _ h)
      case h_2 a0 b0 heq =>
        cases heq
        rcases hent with h0 | ⟨ix, hent⟩
        · cases h0
        simp only [entB, Bool.and_eq_true, decide_eq_true_eq] at hent
        obtain ⟨e1, e2, e3, e4⟩ := hent
        obtain ⟨u, rfl⟩ := Nat.exists_eq_add_of_le e2
        rw [Nat.add_sub_cancel_left] at e4
        have hu : u < 4 := by omega
        obtain ⟨-, -, -, -, -, -, -, -, -, -, h11, -⟩ := hX
        have hZ := h11 u hu
        rw [← e4, ← e1] at hZ
        have : ∀ u, u < 4 → ¬ (strI u ≤ 255) := by decide +kernel
        exact ok_ldcS hx hb hown (by omega) hZ hd (hk _ _ _ _ _ _ h)
      case h_3 => cases h
  case ldc_w x =>
    have hlen : len = 3 := Nat.eq_of_beq_eq_true htg
    subst hlen
    cases hrl : rlook rs x with
    | mk kd ab =>
      obtain ⟨a, b⟩ := ab
      have hent := resB_look rs ixs hres hrl
      have h : (match rlook rs x with | (25, a, _) => k (q + 3) L (iv (a : Int) :: S) T s cs | (27, a, _) => k (q + 3) L (rv (some (wB + a)) :: S) T s cs | _ => none) = some o := h
      rw [hrl] at h
      split at h
      case h_1 a0 b0 heq =>
        cases heq
        rcases hent with h0 | ⟨ix, hent⟩
        · cases h0
        simp only [entB, Bool.and_eq_true, decide_eq_true_eq] at hent
        exact ok_ldcw hx hb hown (by unfold can; omega) (hts _ (atT_mem hent.1)) hd (hk _ _ _ _ _ _ h)
      case h_2 a0 b0 heq =>
        cases heq
        rcases hent with h0 | ⟨ix, hent⟩
        · cases h0
        simp only [entB, Bool.and_eq_true, decide_eq_true_eq] at hent
        obtain ⟨e1, e2, e3, e4⟩ := hent
        obtain ⟨u, rfl⟩ := Nat.exists_eq_add_of_le e2
        rw [Nat.add_sub_cancel_left] at e4
        have hu : u < 4 := by omega
        obtain ⟨-, -, -, -, -, -, -, -, -, -, h11, -⟩ := hX
        have hZ := h11 u hu
        rw [← e4, ← e1] at hZ
        exact ok_ldcwS hx hb hown (by omega) hZ hd (hk _ _ _ _ _ _ h)
      case h_3 => cases h
  case ldc2_w x =>
    have hlen : len = 3 := Nat.eq_of_beq_eq_true htg
    subst hlen
    cases hrl : rlook rs x with
    | mk kd ab =>
      obtain ⟨a, b⟩ := ab
      have hent := resB_look rs ixs hres hrl
      have h : (match rlook rs x with | (26, a, _) => k (q + 3) L (jv (a : Int) :: S) T s cs | _ => none) = some o := h
      rw [hrl] at h
      split at h
      case h_1 a0 b0 heq =>
        cases heq
        rcases hent with h0 | ⟨ix, hent⟩
        · cases h0
        simp only [entB, Bool.and_eq_true, decide_eq_true_eq] at hent
        exact ok_ldc2 hx hb hown (by unfold canJ; omega) (hts _ (atT_mem hent.1)) hd (hk _ _ _ _ _ _ h)
      case h_2 => cases h
  case dup =>
    have hlen : len = 1 := Nat.eq_of_beq_eq_true htg
    subst hlen
    match S, h with
    | a :: S1, h =>
      obtain ⟨hc, k1⟩ := bsel_inv h
      exact ok_dup hx hb hd (Nat.eq_of_beq_eq_true hc) (hk _ _ _ _ _ _ k1)
  case dup2 =>
    have hlen : len = 1 := Nat.eq_of_beq_eq_true htg
    subst hlen
    match S, h with
    | a :: b :: S1, h =>
      obtain ⟨hc, k1⟩ := bsel_inv h
      simp only [Bool.and_eq_true] at hc
      exact ok_dup2 hx hb hd (Nat.eq_of_beq_eq_true hc.1) (Nat.eq_of_beq_eq_true hc.2) (hk _ _ _ _ _ _ k1)
  case pop =>
    have hlen : len = 1 := Nat.eq_of_beq_eq_true htg
    subst hlen
    match S, h with
    | a :: S1, h =>
      obtain ⟨hc, k1⟩ := bsel_inv h
      exact ok_pop hx hb hd (Nat.eq_of_beq_eq_true hc) (hk _ _ _ _ _ _ k1)
  case idiv =>
    have hlen : len = 1 := Nat.eq_of_beq_eq_true htg
    subst hlen
    obtain ⟨y, S1, rfl, k1⟩ := popI_inv h
    obtain ⟨x, S2, rfl, k2⟩ := popI_inv k1
    obtain ⟨h0, k3⟩ := iteN_inv k2
    exact ok_idiv hx hb hd h0 (hk _ _ _ _ _ _ k3)
  case irem =>
    have hlen : len = 1 := Nat.eq_of_beq_eq_true htg
    subst hlen
    obtain ⟨y, S1, rfl, k1⟩ := popI_inv h
    obtain ⟨x, S2, rfl, k2⟩ := popI_inv k1
    obtain ⟨h0, k3⟩ := iteN_inv k2
    exact ok_irem hx hb hd h0 (hk _ _ _ _ _ _ k3)
  case ldiv =>
    have hlen : len = 1 := Nat.eq_of_beq_eq_true htg
    subst hlen
    obtain ⟨y, S1, rfl, k1⟩ := popJ_inv h
    obtain ⟨x, S2, rfl, k2⟩ := popJ_inv k1
    obtain ⟨h0, k3⟩ := iteN_inv k2
    exact ok_ldiv hx hb hd h0 (hk _ _ _ _ _ _ k3)
  case lrem =>
    have hlen : len = 1 := Nat.eq_of_beq_eq_true htg
    subst hlen
    obtain ⟨y, S1, rfl, k1⟩ := popJ_inv h
    obtain ⟨x, S2, rfl, k2⟩ := popJ_inv k1
    obtain ⟨h0, k3⟩ := iteN_inv k2
    exact ok_lrem hx hb hd h0 (hk _ _ _ _ _ _ k3)
  case lshl =>
    have hlen : len = 1 := Nat.eq_of_beq_eq_true htg
    subst hlen
    obtain ⟨y, S1, rfl, k1⟩ := popI_inv h
    obtain ⟨x, S2, rfl, k2⟩ := popJ_inv k1
    exact ok_lshl hx hb hd (hk _ _ _ _ _ _ k2)
  case lushr =>
    have hlen : len = 1 := Nat.eq_of_beq_eq_true htg
    subst hlen
    obtain ⟨y, S1, rfl, k1⟩ := popI_inv h
    obtain ⟨x, S2, rfl, k2⟩ := popJ_inv k1
    exact ok_lushr hx hb hd (hk _ _ _ _ _ _ k2)
  case lcmp =>
    have hlen : len = 1 := Nat.eq_of_beq_eq_true htg
    subst hlen
    obtain ⟨y, S1, rfl, k1⟩ := popJ_inv h
    obtain ⟨x, S2, rfl, k2⟩ := popJ_inv k1
    exact ok_lcmp hx hb hd (hk _ _ _ _ _ _ k2)
  case i2l =>
    have hlen : len = 1 := Nat.eq_of_beq_eq_true htg
    subst hlen
    obtain ⟨x, S1, rfl, k1⟩ := popI_inv h
    exact ok_i2l hx hb hd (hk _ _ _ _ _ _ k1)
  case l2i =>
    have hlen : len = 1 := Nat.eq_of_beq_eq_true htg
    subst hlen
    obtain ⟨x, S1, rfl, k1⟩ := popJ_inv h
    exact ok_l2i hx hb hd (hk _ _ _ _ _ _ k1)
  case i2b =>
    have hlen : len = 1 := Nat.eq_of_beq_eq_true htg
    subst hlen
    obtain ⟨x, S1, rfl, k1⟩ := popI_inv h
    exact ok_i2b hx hb hd (hk _ _ _ _ _ _ k1)
  case i2c =>
    have hlen : len = 1 := Nat.eq_of_beq_eq_true htg
    subst hlen
    obtain ⟨x, S1, rfl, k1⟩ := popI_inv h
    exact ok_i2c hx hb hd (hk _ _ _ _ _ _ k1)
  case ifCond cd off =>
    simp only [tgOk, Bool.and_eq_true, decide_eq_true_eq] at htg
    have hlen : len = 3 := Nat.eq_of_beq_eq_true htg.1
    subst hlen
    obtain ⟨x, S1, rfl, k1⟩ := popI_inv h
    cases cd with
    | eq => exact ok_if_eq hx hb hd htg.2 (fun z => hk _ _ _ _ _ _ ((if_pos z).symm.trans k1)) (fun z => hk _ _ _ _ _ _ ((if_neg z).symm.trans k1))
    | ne => exact ok_if_ne hx hb hd htg.2 (fun z => hk _ _ _ _ _ _ ((if_neg z).symm.trans k1)) (fun z => hk _ _ _ _ _ _ ((if_pos z).symm.trans k1))
    | lt => exact ok_if_lt hx hb hd htg.2 (fun z => hk _ _ _ _ _ _ ((if_pos z).symm.trans k1)) (fun z => hk _ _ _ _ _ _ ((if_neg z).symm.trans k1))
    | ge => exact ok_if_ge hx hb hd htg.2 (fun z => hk _ _ _ _ _ _ ((if_neg z).symm.trans k1)) (fun z => hk _ _ _ _ _ _ ((if_pos z).symm.trans k1))
    | gt => exact ok_if_gt hx hb hd htg.2 (fun z => hk _ _ _ _ _ _ ((if_pos z).symm.trans k1)) (fun z => hk _ _ _ _ _ _ ((if_neg z).symm.trans k1))
    | le => exact ok_if_le hx hb hd htg.2 (fun z => hk _ _ _ _ _ _ ((if_neg z).symm.trans k1)) (fun z => hk _ _ _ _ _ _ ((if_pos z).symm.trans k1))
  case if_icmp cd off =>
    simp only [tgOk, Bool.and_eq_true, decide_eq_true_eq] at htg
    have hlen : len = 3 := Nat.eq_of_beq_eq_true htg.1
    subst hlen
    obtain ⟨y, S1, rfl, k1⟩ := popI_inv h
    obtain ⟨x, S2, rfl, k2⟩ := popI_inv k1
    cases cd with
    | eq => exact ok_icmp_eq hx hb hd htg.2 (fun z => hk _ _ _ _ _ _ ((if_pos z).symm.trans k2)) (fun z => hk _ _ _ _ _ _ ((if_neg z).symm.trans k2))
    | ne => exact ok_icmp_ne hx hb hd htg.2 (fun z => hk _ _ _ _ _ _ ((if_neg z).symm.trans k2)) (fun z => hk _ _ _ _ _ _ ((if_pos z).symm.trans k2))
    | lt => exact ok_icmp_lt hx hb hd htg.2 (fun z => hk _ _ _ _ _ _ ((if_pos z).symm.trans k2)) (fun z => hk _ _ _ _ _ _ ((if_neg z).symm.trans k2))
    | ge => exact ok_icmp_ge hx hb hd htg.2 (fun z => hk _ _ _ _ _ _ ((if_neg z).symm.trans k2)) (fun z => hk _ _ _ _ _ _ ((if_pos z).symm.trans k2))
    | gt => exact ok_icmp_gt hx hb hd htg.2 (fun z => hk _ _ _ _ _ _ ((if_pos z).symm.trans k2)) (fun z => hk _ _ _ _ _ _ ((if_neg z).symm.trans k2))
    | le => exact ok_icmp_le hx hb hd htg.2 (fun z => hk _ _ _ _ _ _ ((if_neg z).symm.trans k2)) (fun z => hk _ _ _ _ _ _ ((if_pos z).symm.trans k2))
  case if_acmp cd off =>
    simp only [tgOk, Bool.and_eq_true, decide_eq_true_eq] at htg
    have hlen : len = 3 := Nat.eq_of_beq_eq_true htg.1
    subst hlen
    cases cd with
    | eq =>
      obtain ⟨y, S1, rfl, k1⟩ := popQ_inv h
      obtain ⟨x, S2, rfl, k2⟩ := popQ_inv k1
      obtain ⟨h3, k4⟩ := bsel_inv k2
      simp only [Bool.and_eq_true] at h3
      exact ok_acmp_eq hx hb hX h3.1 h3.2 hd htg.2 (fun z => hk _ _ _ _ _ _ ((if_pos z).symm.trans k4)) (fun z => hk _ _ _ _ _ _ ((if_neg z).symm.trans k4))
    | ne =>
      obtain ⟨y, S1, rfl, k1⟩ := popQ_inv h
      obtain ⟨x, S2, rfl, k2⟩ := popQ_inv k1
      obtain ⟨h3, k4⟩ := bsel_inv k2
      simp only [Bool.and_eq_true] at h3
      exact ok_acmp_ne hx hb hX h3.1 h3.2 hd htg.2 (fun z => hk _ _ _ _ _ _ ((if_neg z).symm.trans k4)) (fun z => hk _ _ _ _ _ _ ((if_pos z).symm.trans k4))
  case ifnull off =>
    simp only [tgOk, Bool.and_eq_true, decide_eq_true_eq] at htg
    have hlen : len = 3 := Nat.eq_of_beq_eq_true htg.1
    subst hlen
    obtain ⟨x, S1, rfl, k1⟩ := popQ_inv h
    exact ok_ifnull hx hb hd htg.2 (fun z => hk _ _ _ _ _ _ ((if_pos z).symm.trans k1)) (fun z => hk _ _ _ _ _ _ ((if_neg z).symm.trans k1))
  case ifnonnull off =>
    simp only [tgOk, Bool.and_eq_true, decide_eq_true_eq] at htg
    have hlen : len = 3 := Nat.eq_of_beq_eq_true htg.1
    subst hlen
    obtain ⟨x, S1, rfl, k1⟩ := popQ_inv h
    exact ok_ifnonnull hx hb hd htg.2 (fun z => hk _ _ _ _ _ _ ((if_pos z).symm.trans k1)) (fun z => hk _ _ _ _ _ _ ((if_neg z).symm.trans k1))
  case goto off =>
    simp only [tgOk, Bool.and_eq_true, decide_eq_true_eq] at htg
    have hlen : len = 3 := Nat.eq_of_beq_eq_true htg.1
    subst hlen
    exact ok_goto hx hb hd htg.2 (hk _ _ _ _ _ _ h)
  case tableswitch df lo hi offs =>
    simp only [tgOk, Bool.and_eq_true, decide_eq_true_eq] at htg
    obtain ⟨x, S1, rfl, k1⟩ := popI_inv h
    exact ok_table hx hb hd htg.1 htg.2.1 htg.2.2 k1 (fun t kt => hk _ _ _ _ _ _ kt)
  case lookupswitch df ps =>
    simp only [tgOk, Bool.and_eq_true, decide_eq_true_eq] at htg
    obtain ⟨x, S1, rfl, k1⟩ := popI_inv h
    exact ok_lookup hx hb hd htg.1 htg.2.1 htg.2.2 k1 (fun t kt => hk _ _ _ _ _ _ kt)
  case getfield x =>
    have hlen : len = 3 := Nat.eq_of_beq_eq_true htg
    subst hlen
    exact exGet_ok C0 hd h hk
  case putfield x =>
    have hlen : len = 3 := Nat.eq_of_beq_eq_true htg
    subst hlen
    exact exPut_ok C0 hini hd h hk
  case getstatic x =>
    have hlen : len = 3 := Nat.eq_of_beq_eq_true htg
    subst hlen
    cases hrl : rlook rs x with
    | mk kd ab =>
      obtain ⟨a, b⟩ := ab
      have hent := resB_look rs ixs hres hrl
      have h : (match rlook rs x with | (6, a, _) => k (q + 3) L (gF a :: S) T s cs | _ => none) = some o := h
      rw [hrl] at h
      split at h
      case h_1 a0 b0 heq =>
        cases heq
        rcases hent with h0 | ⟨ix, hent⟩
        · cases h0
        simp only [entB, Bool.and_eq_true, Bool.or_eq_true, decide_eq_true_eq] at hent
        obtain ⟨z1, z2, -, z4, -⟩ := hX
        have hl := hts _ (atT_mem hent.1)
        rcases hent.2 with ha | rfl | rfl
        · have e1 : gF a = rv (some (wB + a)) := by unfold gF; split; (· omega); rfl
          rw [e1] at h
          have e2 : stC a = "LentBoxes$Word" := by unfold stC; split; (· omega); rfl
          have e3 : stN a = wNm a := by unfold stN; split; (· omega); (· omega); rfl
          have e4 : stD a = "LLentBoxes$Word;" := by unfold stD; split; (· omega); (· omega); rfl
          rw [e2, e3, e4] at hl
          exact ok_gets hx hb hown (by omega) (z1 a ha) hl hd (hk _ _ _ _ _ _ h)
        · exact ok_gets hx hb hown (by omega) z2 hl hd (hk _ _ _ _ _ _ h)
        · exact ok_gets hx hb hown (by omega) z4 hl hd (hk _ _ _ _ _ _ h)
      case h_2 => cases h
  case iaload =>
    have hlen : len = 1 := Nat.eq_of_beq_eq_true htg
    subst hlen
    exact exAld_ok (tc := 1) C0 (by simp) hd h hk
  case laload =>
    have hlen : len = 1 := Nat.eq_of_beq_eq_true htg
    subst hlen
    exact exAld_ok (tc := 2) C0 (by simp) hd h hk
  case baload =>
    have hlen : len = 1 := Nat.eq_of_beq_eq_true htg
    subst hlen
    match S, h with
    | v :: .inr (some t) :: S1, h =>
      cases hb4 : (Nat.blt t wB && Nat.beq (T.2.1 t).2.1 4) with
      | true =>
        have h : bsel (Nat.blt t wB && Nat.beq (T.2.1 t).2.1 4) (exAld scr 4 q L (v :: .inr (some t) :: S1) T s cs k) (exAld scr 3 q L (v :: .inr (some t) :: S1) T s cs k) = some o := h
        rw [hb4, bsel_t] at h
        exact exAld_ok (tc := 4) C0 (by simp) hd h hk
      | false =>
        have h : bsel (Nat.blt t wB && Nat.beq (T.2.1 t).2.1 4) (exAld scr 4 q L (v :: .inr (some t) :: S1) T s cs k) (exAld scr 3 q L (v :: .inr (some t) :: S1) T s cs k) = some o := h
        rw [hb4, bsel_f] at h
        exact exAld_ok (tc := 3) C0 (by simp) hd h hk
  case aaload =>
    have hlen : len = 1 := Nat.eq_of_beq_eq_true htg
    subst hlen
    match S, h with
    | v :: .inr (some t) :: S1, h =>
      have h : bsel (Nat.blt t wB) (bsel (Nat.beq (T.2.1 t).2.1 6) (exAld scr 6 q L (v :: .inr (some t) :: S1) T s cs k) (exAld scr 7 q L (v :: .inr (some t) :: S1) T s cs k)) (exAld scr 5 q L (v :: .inr (some t) :: S1) T s cs k) = some o := h
      cases hb4 : Nat.blt t wB with
      | true =>
        rw [hb4, bsel_t] at h
        cases hb6 : Nat.beq (T.2.1 t).2.1 6 with
        | true => rw [hb6, bsel_t] at h; exact exAld_ok (tc := 6) C0 (by simp) hd h hk
        | false => rw [hb6, bsel_f] at h; exact exAld_ok (tc := 7) C0 (by simp) hd h hk
      | false =>
        rw [hb4, bsel_f] at h
        exact exAld_ok (tc := 5) C0 (by simp) hd h hk
  case iastore =>
    have hlen : len = 1 := Nat.eq_of_beq_eq_true htg
    subst hlen
    exact exAst_ok (tc := 1) (al := al) C0 (by simp) hd h hk
  case lastore =>
    have hlen : len = 1 := Nat.eq_of_beq_eq_true htg
    subst hlen
    exact exAst_ok (tc := 2) (al := al) C0 (by simp) hd h hk
  case bastore =>
    have hlen : len = 1 := Nat.eq_of_beq_eq_true htg
    subst hlen
    exact exAst_ok (tc := 3) (al := al) C0 (by simp) hd h hk
  case aastore =>
    have hlen : len = 1 := Nat.eq_of_beq_eq_true htg
    subst hlen
    exact exAst_ok (tc := 6) (al := al) C0 (by simp) hd h hk
  case arraylength =>
    have hlen : len = 1 := Nat.eq_of_beq_eq_true htg
    subst hlen
    exact exLen_ok C0 hd h hk
  case invokevirtual x =>
    have hlen : len = 3 := Nat.eq_of_beq_eq_true htg
    subst hlen
    exact exInvV_ok C0 hcal hd h hk
  case invokestatic x =>
    have hlen : len = 3 := Nat.eq_of_beq_eq_true htg
    subst hlen
    exact exInvS_ok C0 hcal hd h hk
  case invokespecial x =>
    have hlen : len = 3 := Nat.eq_of_beq_eq_true htg
    subst hlen
    exact exInvI_ok C0 hcal hd h hk
  case new x =>
    have hlen : len = 3 := Nat.eq_of_beq_eq_true htg
    subst hlen
    obtain ⟨-, k1⟩ := bsel_inv h
    exact exNew_ok C0 hd k1 hk
  case newarray a =>
    have hlen : len = 2 := Nat.eq_of_beq_eq_true htg
    subst hlen
    obtain ⟨h1, k1⟩ := bsel_inv h
    simp only [Bool.and_eq_true] at h1
    exact exNewP_ok C0 hArr h1.2 hd k1 hk
  case anewarray x =>
    have hlen : len = 3 := Nat.eq_of_beq_eq_true htg
    subst hlen
    cases hrl : rlook rs x with
    | mk kd ab =>
      obtain ⟨a, b⟩ := ab
      have h : (match rlook rs x with | (13, ci, _) => bsel (al && Nat.blt 0 (tcA ci)) (exNewA bud (tcA ci) (q + 3) L S T s cs k) (none) | _ => none) = some o := h
      rw [hrl] at h
      split at h
      case h_1 a0 b0 heq =>
        cases heq
        obtain ⟨h1, k1⟩ := bsel_inv h
        simp only [Bool.and_eq_true] at h1
        exact exNewR_ok C0 hrl h1.2 hd k1 hk
      case h_2 => cases h
  case ireturn =>
    have hlen : len = 1 := Nat.eq_of_beq_eq_true htg
    subst hlen
    obtain ⟨x, rfl, hrk, hrg, k1⟩ := exRetI_inv h
    intro φ H locs ls hS hl hL hc hbd
    have hcx : can x := cS_head hc
    refine W.widen hbd.1 hbd.2 ?_
    rcases hrk with rfl | rfl | rfl | rfl <;> exact hr x T s k1 φ H locs ls q hS hcx hrg hd
  case lreturn =>
    have hlen : len = 1 := Nat.eq_of_beq_eq_true htg
    subst hlen
    match S, h with
    | [.inl (.inr x)], h =>
      obtain ⟨h1, k1⟩ := bsel_inv h
      have hrk : rk = 2 := Nat.eq_of_beq_eq_true h1
      subst hrk
      intro φ H locs ls hS hl hL hc hbd
      have hcx : canJ x := cS_head hc
      exact W.widen hbd.1 hbd.2 (hr x T s k1 φ H locs ls q hS hcx trivial hd)
  case areturn =>
    have hlen : len = 1 := Nat.eq_of_beq_eq_true htg
    subst hlen
    match S, h with
    | [.inr r], h =>
      obtain ⟨h1, k0⟩ := bsel_inv h
      obtain ⟨h2, k1⟩ := bsel_inv k0
      have hrk : rk = 3 := Nat.eq_of_beq_eq_true h1
      subst hrk
      intro φ H locs ls hS hl hL hc hbd
      have hcx : okR T r := cS_head hc
      have hh := hr (decW r) T s k1 φ H locs ls q hS (can_decW hcx hS.2.2.2.2.1 h2) trivial hd
      have e1 : (rvO φ 3 (decW r)).toList = [Sum.inr r].map (cv φ) := by show [va_rf ((encW (decW r)).map φ)] = _; rw [wOk_enc h2]; rfl
      rw [e1] at hh
      exact W.widen hbd.1 hbd.2 hh
  case return_ =>
    have hlen : len = 1 := Nat.eq_of_beq_eq_true htg
    subst hlen
    match S, h with
    | [], h =>
      obtain ⟨h1, k1⟩ := bsel_inv h
      have hrk : rk = 0 := Nat.eq_of_beq_eq_true h1
      subst hrk
      intro φ H locs ls hS hl hL hc hbd
      exact W.widen hbd.1 hbd.2 (hr 0 T s k1 φ H locs ls q hS trivial trivial hd)
  case iadd =>
    have hlen : len = 1 := Nat.eq_of_beq_eq_true htg
    subst hlen
    match S, h with
    | .inl (.inl y) :: .inl (.inl x) :: S1, h => exact ok_iadd hx hb hd (hk _ _ _ _ _ _ h)
    | .inl (.inr y) :: .inl (.inr x) :: S1, h => cases h
  case isub =>
    have hlen : len = 1 := Nat.eq_of_beq_eq_true htg
    subst hlen
    match S, h with
    | .inl (.inl y) :: .inl (.inl x) :: S1, h => exact ok_isub hx hb hd (hk _ _ _ _ _ _ h)
    | .inl (.inr y) :: .inl (.inr x) :: S1, h => cases h
  case imul =>
    have hlen : len = 1 := Nat.eq_of_beq_eq_true htg
    subst hlen
    match S, h with
    | .inl (.inl y) :: .inl (.inl x) :: S1, h => exact ok_imul hx hb hd (hk _ _ _ _ _ _ h)
    | .inl (.inr y) :: .inl (.inr x) :: S1, h => cases h
  case iand =>
    have hlen : len = 1 := Nat.eq_of_beq_eq_true htg
    subst hlen
    match S, h with
    | .inl (.inl y) :: .inl (.inl x) :: S1, h => exact ok_iand hx hb hd (hk _ _ _ _ _ _ h)
    | .inl (.inr y) :: .inl (.inr x) :: S1, h => cases h
  case ior =>
    have hlen : len = 1 := Nat.eq_of_beq_eq_true htg
    subst hlen
    match S, h with
    | .inl (.inl y) :: .inl (.inl x) :: S1, h => exact ok_ior hx hb hd (hk _ _ _ _ _ _ h)
    | .inl (.inr y) :: .inl (.inr x) :: S1, h => cases h
  case ixor =>
    have hlen : len = 1 := Nat.eq_of_beq_eq_true htg
    subst hlen
    match S, h with
    | .inl (.inl y) :: .inl (.inl x) :: S1, h => exact ok_ixor hx hb hd (hk _ _ _ _ _ _ h)
    | .inl (.inr y) :: .inl (.inr x) :: S1, h => cases h
  case ishl =>
    have hlen : len = 1 := Nat.eq_of_beq_eq_true htg
    subst hlen
    match S, h with
    | .inl (.inl y) :: .inl (.inl x) :: S1, h => exact ok_ishl hx hb hd (hk _ _ _ _ _ _ h)
    | .inl (.inr y) :: .inl (.inr x) :: S1, h => cases h
  case ishr =>
    have hlen : len = 1 := Nat.eq_of_beq_eq_true htg
    subst hlen
    match S, h with
    | .inl (.inl y) :: .inl (.inl x) :: S1, h => exact ok_ishr hx hb hd (hk _ _ _ _ _ _ h)
    | .inl (.inr y) :: .inl (.inr x) :: S1, h => cases h
  case iushr =>
    have hlen : len = 1 := Nat.eq_of_beq_eq_true htg
    subst hlen
    match S, h with
    | .inl (.inl y) :: .inl (.inl x) :: S1, h => exact ok_iushr hx hb hd (hk _ _ _ _ _ _ h)
    | .inl (.inr y) :: .inl (.inr x) :: S1, h => cases h
  case ladd =>
    have hlen : len = 1 := Nat.eq_of_beq_eq_true htg
    subst hlen
    match S, h with
    | .inl (.inl y) :: .inl (.inl x) :: S1, h => cases h
    | .inl (.inr y) :: .inl (.inr x) :: S1, h => exact ok_ladd hx hb hd (hk _ _ _ _ _ _ h)
  case lsub =>
    have hlen : len = 1 := Nat.eq_of_beq_eq_true htg
    subst hlen
    match S, h with
    | .inl (.inl y) :: .inl (.inl x) :: S1, h => cases h
    | .inl (.inr y) :: .inl (.inr x) :: S1, h => exact ok_lsub hx hb hd (hk _ _ _ _ _ _ h)
  case lmul =>
    have hlen : len = 1 := Nat.eq_of_beq_eq_true htg
    subst hlen
    match S, h with
    | .inl (.inl y) :: .inl (.inl x) :: S1, h => cases h
    | .inl (.inr y) :: .inl (.inr x) :: S1, h => exact ok_lmul hx hb hd (hk _ _ _ _ _ _ h)
  case land =>
    have hlen : len = 1 := Nat.eq_of_beq_eq_true htg
    subst hlen
    match S, h with
    | .inl (.inl y) :: .inl (.inl x) :: S1, h => cases h
    | .inl (.inr y) :: .inl (.inr x) :: S1, h => exact ok_land hx hb hd (hk _ _ _ _ _ _ h)
  case lor =>
    have hlen : len = 1 := Nat.eq_of_beq_eq_true htg
    subst hlen
    match S, h with
    | .inl (.inl y) :: .inl (.inl x) :: S1, h => cases h
    | .inl (.inr y) :: .inl (.inr x) :: S1, h => exact ok_lor hx hb hd (hk _ _ _ _ _ _ h)
  all_goals
    exfalso
    match S, h with
    | .inl (.inl y) :: .inl (.inl x) :: S1, h => cases h
    | .inl (.inr y) :: .inl (.inr x) :: S1, h => cases h
end Grp5
