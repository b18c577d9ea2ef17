/-! ===== what the law's walk stands on, at its entry ===== -/
theorem wn_0 : Cond.methodLinkNest "LentBoxes" 9 (nestY 1) "LentBoxes" ∈ lw_tbl := tl_1 (i := 37) rfl
theorem wn_1 : Cond.methodLinkNest "LentBoxes$World" 9 (nestY 3) "LentBoxes" ∈ lw_tbl := tl_1 (i := 98) rfl
theorem wn_2 : Cond.methodLinkNest "LentBoxes$World" 18 (nestY 4) "LentBoxes" ∈ lw_tbl := tl_1 (i := 196) rfl
theorem wn_3 : Cond.methodLinkNest "LentBoxes$World" 25 (nestY 5) "LentBoxes" ∈ lw_tbl := tl_2 (i := 21) rfl
theorem wn_4 : Cond.methodLinkNest "LentBoxes$Past" 17 (nestY 4) "LentBoxes" ∈ lw_tbl := tl_2 (i := 81) rfl
theorem wn_5 : Cond.methodLinkNest "LentBoxes" 36 (nestY 4) "LentBoxes" ∈ lw_tbl := tl_2 (i := 93) rfl
theorem wn_6 : Cond.methodLinkNest "LentBoxes" 43 (nestY 3) "LentBoxes" ∈ lw_tbl := tl_2 (i := 95) rfl
theorem wn_7 : Cond.methodLinkNest "LentBoxes" 50 (nestY 5) "LentBoxes" ∈ lw_tbl := tl_2 (i := 97) rfl
theorem wn_8 : Cond.methodLinkNest "LentBoxes" 57 (nestY 7) "LentBoxes" ∈ lw_tbl := tl_2 (i := 100) rfl
theorem wn_9 : Cond.methodLinkNest "LentBoxes" 71 (nestY 9) "LentBoxes" ∈ lw_tbl := tl_2 (i := 141) rfl
theorem wn_State : Cond.arrayOver (.object "LentBoxes$State") ∈ lw_tbl := tl_2 (i := 80) rfl
theorem wn_World : Cond.arrayOver (.object "LentBoxes$World") ∈ lw_tbl := tl_2 (i := 72) rfl
section Ks
variable {args : Array Value} {s : State}
theorem nest_0 (hts : ∀ w ∈ lw_tbl, w.before args s = true) : ∀ q ∈ nestL, va_Nw (.methodLinkNest q.1 q.2.1 (nestY q.2.2) "LentBoxes") s := by
  intro q hq
  rcases List.mem_cons.mp hq with rfl | hq
  · exact hts _ wn_0
  rcases List.mem_cons.mp hq with rfl | hq
  · exact hts _ wn_1
  rcases List.mem_cons.mp hq with rfl | hq
  · exact hts _ wn_2
  rcases List.mem_cons.mp hq with rfl | hq
  · exact hts _ wn_3
  rcases List.mem_cons.mp hq with rfl | hq
  · exact hts _ wn_4
  rcases List.mem_cons.mp hq with rfl | hq
  · exact hts _ wn_5
  rcases List.mem_cons.mp hq with rfl | hq
  · exact hts _ wn_6
  rcases List.mem_cons.mp hq with rfl | hq
  · exact hts _ wn_7
  rcases List.mem_cons.mp hq with rfl | hq
  · exact hts _ wn_8
  rcases List.mem_cons.mp hq with rfl | hq
  · exact hts _ wn_9
  cases hq
theorem K_0 (hts : ∀ w ∈ lw_tbl, w.before args s = true) : ∃ (D : va_G) (cT : Nat → ClassId), va_K D clL (tysL cT) s := by
  have hT : ∀ w ∈ Tw, w.before args s = true := fun w hw => hts w (List.mem_filter.mp hw).1
  have hin : ∀ ci, ci < 11 → (Cond.instantiable (clN ci) (nF ci)).before args s = true := by
    intro ci h
    match ci, h with
    | 0, _ => exact hT _ wz_in_0
    | 1, _ => exact hT _ wz_in_1
    | 2, _ => exact hT _ wz_in_2
    | 3, _ => exact hT _ wz_in_3
    | 4, _ => exact hT _ wz_in_4
    | 5, _ => exact hT _ wz_in_5
    | 6, _ => exact hT _ wz_in_6
    | 7, _ => exact hT _ wz_in_7
    | 8, _ => exact hT _ wz_in_8
    | 9, _ => exact hT _ wz_in_9
    | 10, _ => exact hT _ wz_in_10
    | i + 11, hi => exact absurd hi (by omega)
  have h0 : ∀ ci : Nat, ∃ q : ClassId × (Nat → Nat), ci < 11 → u_Kn s (clN ci) (tX ci) (nF ci) q.1 q.2 := by
    intro ci
    by_cases h : ci < 11
    · obtain ⟨cC, iS, hk⟩ := u_known hT (hin_ok ci h) (hin ci h)
      exact ⟨(cC, iS), fun _ => hk⟩
    · exact ⟨(0, fun _ => 0), fun z => absurd z h⟩
  obtain ⟨f, hf⟩ := Classical.axiomOfChoice h0
  have arr : ∀ ty : FieldType, ty = .int ∨ ty = .long ∨ ty = .byte ∨ ty = .boolean → ∃ cA, ArrOfT s cA ty ∧ va_RA s cA ty := by
    intro ty h
    obtain ⟨c, k, comp, e1, e2, e3⟩ := Cond.arrayClass_spec (hT _ (hArr_ok ty h))
    refine ⟨c, fun n z => ⟨fun k h => (by cases h), k, e2, comp, e3⟩, ?_⟩
    rcases h with rfl | rfl | rfl | rfl <;> exact e1
  have obj : ∀ C : String, (Cond.arrayOver (.object C)).before args s = true → ∃ cA, ArrOfT s cA (.object C) ∧ va_RA s cA (.object C) := by
    intro C h
    obtain ⟨comp, c, k, e1, -, e2, e3, e4⟩ := Cond.arrayOver_spec h
    exact ⟨c, fun n z => ⟨fun k h => (by cases h), k, e2, comp, e3⟩, k, comp, e2, e3, e1, e4⟩
  obtain ⟨c1, a1⟩ := arr .int (Or.inl rfl)
  obtain ⟨c2, a2⟩ := arr .long (Or.inr (Or.inl rfl))
  obtain ⟨c3, a3⟩ := arr .byte (Or.inr (Or.inr (Or.inl rfl)))
  obtain ⟨c4, a4⟩ := arr .boolean (Or.inr (Or.inr (Or.inr rfl)))
  obtain ⟨c6, a6⟩ := obj _ (hts _ wn_State)
  obtain ⟨c7, a7⟩ := obj _ (hts _ wn_World)
  refine ⟨(fun ci => (f ci).1, fun ci => (f ci).2), fun tc => match tc with
    | 1 => c1
    | 2 => c2
    | 3 => c3
    | 4 => c4
    | 6 => c6
    | _ => c7, fun c q hq => ?_, fun k q hk => ?_⟩
  · by_cases h : c < 11
    · rw [clL_get c h] at hq
      cases hq
      exact hf c h
    · have : clL.length = 11 := rfl
      rw [List.getElem?_eq_none (by omega)] at hq
      cases hq
  · match k, hk with
    | 0, hk => cases hk; exact a1
    | 1, hk => cases hk; exact a2
    | 2, hk => cases hk; exact a3
    | 3, hk => cases hk; exact a4
    | 4, hk => cases hk; exact a6
    | 5, hk => cases hk; exact a7
    | k + 6, hk => cases hk
def fS0 (ad : Nat → Nat) (a0 a1 : Nat) (adK adV : Nat → Nat) (b : Nat) : Nat → Nat := fun i => if i < 24 then ad i else if i = 100 then a0 else if i = 101 then a1 else if i < 300 then adK (i - 200) else if i < 400 then adV (i - 300) else b
theorem SxW_0 {b L : Nat} {xs : Nat → Int32} (hL : L ≤ 3072) (h : (Jvm.Cond.and given_1 narrow_1).before args s = true) (hts : ∀ w ∈ lw_tbl, w.before args s = true) (hX : va_X b L xs s s.heap) (hb : b < s.heap.size) :
    ∃ fS : Nat → Nat, fS 400 = b ∧ SxW s.heap.size fS (L + 1, fun j => (xs j).toInt) s := by
  have hT : ∀ w ∈ Tw, w.before args s = true := fun w hw => hts w (List.mem_filter.mp hw).1
  have hA : ∀ a : Nat, a < s.heap.size → ¬ sA s.heap.size a := fun a ha => Nat.not_le.mpr ha
  obtain ⟨ad, a0, a1, w1, w2, w3, w4, w5, w6, w7, w8, w9⟩ := words_0 h hts (hT _ wz_ini_W) (hT _ wz_ini_1) hA
  obtain ⟨adK, adV, t1, t2⟩ := texts_0 h hA
  have f1 : ∀ k, k < 24 → fS0 ad a0 a1 adK adV b k = ad k := fun k hk => if_pos hk
  have f2 : fS0 ad a0 a1 adK adV b 100 = a0 := rfl
  have f3 : fS0 ad a0 a1 adK adV b 101 = a1 := rfl
  have f4 : ∀ k, k < 4 → fS0 ad a0 a1 adK adV b (200 + k) = adK k := by
    intro k hk
    unfold fS0
    rw [if_neg (by omega), if_neg (by omega), if_neg (by omega), if_pos (by omega), show 200 + k - 200 = k by omega]
  have f5 : ∀ k, k < 4 → fS0 ad a0 a1 adK adV b (300 + k) = adV k := by
    intro k hk
    unfold fS0
    rw [if_neg (by omega), if_neg (by omega), if_neg (by omega), if_neg (by omega), if_pos (by omega), show 300 + k - 300 = k by omega]
  have f6 : fS0 ad a0 a1 adK adV b 400 = b := rfl
  refine ⟨fS0 ad a0 a1 adK adV b, f6, fun k hk => by rw [f1 k hk]; exact w1 k hk, by rw [f2]; exact w2, ?_, by rw [f3]; exact w4, by rw [f3]; exact w5, fun k hk => by rw [f1 k hk]; exact w6 k hk, fun k hk => by rw [f1 k hk]; exact w7 k hk, fun k hk => by rw [f1 k hk]; exact w8 k hk, fun j k hj hk he => w9 j k hj hk (by rw [f1 j hj, f1 k hk] at he; exact he), ?_, ?_, nest_0 hts, va_AO.of (hts _ wn_State), va_AO.of (hts _ wn_World), ?_, ?_, ?_, StrW_0 h hts (hT _ ws_ini_S) (hT _ ws_ini_P) (hT _ wd_t18)⟩
  · rw [f2]
    obtain ⟨cell, g1, g2, g3, g4, g5, g6, g7⟩ := w3
    exact ⟨cell, g1, g2, g3, g4, g5, fun j hj => by rw [g6 j hj]; show some (Value.ref (ad j)) = some (Value.ref (fS0 ad a0 a1 adK adV b j)); rw [f1 j hj], g7⟩
  · refine ⟨fun i hi => ?_, fun i j hi hj he => t1.2 i j hi hj ((f4 i hi).symm.trans (Eq.trans he (f4 j hj)))⟩
    simp only [f4 i hi, f5 i hi]
    exact t1.1 i hi
  · intro k hk
    rw [f4 k hk]
    match k, hk with
    | 0, hk => exact vk_R.of (hts _ wz_sr_333) (t2 0 hk)
    | 1, hk => exact vk_R.of (hts _ wz_sr_338) (t2 1 hk)
    | 2, hk => exact vk_R.of (hts _ wz_sr_340) (t2 2 hk)
    | 3, hk => exact vk_R.of (hts _ wz_sr_345) (t2 3 hk)
    | k + 4, hk => exact absurd hk (by omega)
  · intro _
    rw [f6]
    refine ⟨?_, hb, hA b hb⟩
    have e : (fun j => Int32.ofInt ((xs j).toInt)) = xs := by funext j; exact Int32.ofInt_toInt (xs j)
    show va_X b L (fun j => Int32.ofInt ((xs j).toInt)) s s.heap
    rw [e]; exact hX
  · show L + 1 ≤ 3073
    omega
  · intro j
    show -2147483648 ≤ (xs j).toInt ∧ (xs j).toInt < 2147483648
    have g1 := Int32.le_toInt (xs j)
    have g2 := Int32.toInt_lt (xs j)
    constructor <;> omega
theorem LSW_0 (hts : ∀ w ∈ lw_tbl, w.before args s = true) : LSW s.heap.size s := ⟨LSx_of (hts _ wt_20) (Nat.le_refl _), LSx_of (hts _ wt_22) (Nat.le_refl _)⟩
end Ks
