/-! ===== arrays, calls, new cells, returns: by groups ===== -/
section Grp2
variable {p : Program} {l : Launch} {e : Env} {R : Room} {s0 : State} {m : MethodId} {args : Array Value} {below : List Frame} {meth : Method} {c : Code} {Q : State → Prop} {D : va_G} {cT : Nat → ClassId} {B0 : Nat} {G : mG} {nL : Nat} {bud : Nat × Nat} {scr : Nat × (Nat → Int)} {own : String} {rs : List (Nat × Nat × Nat × Nat)} {cc : ByteArray} {d : Nat}
variable {q : Nat} {L : mL} {S : List mV} {T : mT} {s : mS} {cs : Nat × Nat} {α : Type} {o : α} {k : mK α}
def aldIns (tc : Nat) : Instr := match tc with
  | 1 => .iaload
  | 2 => .laload
  | 3 => .baload
  | 4 => .baload
  | _ => .aaload
theorem bsel_f {β : Type} (x y : β) : bsel false x y = y := rfl
theorem bsel_t {β : Type} (x y : β) : bsel true x y = x := rfl
theorem gA_cases (scr : Nat × (Nat → Int)) (o : Nat) : o = 100 ∨ o = 101 ∨ o = 300 ∨ o = 301 ∨ o = 302 ∨ o = 303 ∨ o = 400 ∨ (gA scr o).1 = 0 := by
  unfold gA
  split <;> simp
theorem can_strB (j : Nat) (i : Nat) : can ((strB j).getD i 0) := by
  have h : ∀ j, j < 4 → ∀ i, i < 9 → decide (-2147483648 ≤ (strB j).getD i 0) && decide ((strB j).getD i 0 < 2147483648) = true := by decide +kernel
  by_cases hj : j < 4
  · by_cases hi : i < 9
    · have := h j hj i hi
      simp only [Bool.and_eq_true, decide_eq_true_eq] at this
      exact this
    · have hl : ∀ j, j < 4 → (strB j).length ≤ 9 := by decide +kernel
      have := hl j hj
      rw [List.getD_eq_getElem?_getD, List.getElem?_eq_none (by omega)]
      exact can_0
  · unfold strB
    rw [List.getD_eq_getElem?_getD (l := strBl), List.getElem?_eq_none (by show 4 ≤ j; omega)]
    exact can_0
theorem str_T (hX : SxW B0 G.1 scr s0) {j : Nat} (hj : j < 4) : va_T .byte (G.1 (300 + j)) (strB j).length (fun i => .int (Int32.ofInt ((strB j).getD i 0))) (sA B0) s0 s0.heap := by
  obtain ⟨-, -, -, -, -, -, -, -, -, h10, -⟩ := hX
  have h := (h10.1 j hj).2.2.2
  have e1 : ∀ j, j < 4 → strN.getD j 0 = (strB j).length := by decide +kernel
  have e2 : (fun i => Value.int ((str32.getD j []).getD i 0)) = (fun i => Value.int (Int32.ofInt ((strB j).getD i 0))) := by
    funext i
    congr 1
    unfold str32 strB
    rw [List.getD_eq_getElem?_getD (l := strBl.map _), List.getElem?_map, List.getD_eq_getElem?_getD (l := strBl)]
    cases strBl[j]? with
    | none => rfl
    | some l =>
      simp only [Option.map_some, Option.getD_some]
      rw [List.getD_eq_getElem?_getD, List.getD_eq_getElem?_getD, List.getElem?_map]
      cases l[i]? <;> rfl
  rw [e1 j hj, e2] at h
  exact h
theorem exAld_ok (C : Cxt p R s0 m args c D cT B0 G nL bud scr own rs cc d) {tc : Nat} (htc : tc = 1 ∨ tc = 2 ∨ tc = 3 ∨ tc = 4 ∨ tc = 5 ∨ tc = 6 ∨ tc = 7) (hd : decode cc q = .ok (aldIns tc, 1)) (h : exAld scr tc q L S T s cs k = some o)
    (hk : ∀ pc' L' S' T' s' cs', k pc' L' S' T' s' cs' = some o → Wat p l e R s0 m args below meth c Q D cT B0 G nL bud pc' L' S' T' s' cs') : Wat p l e R s0 m args below meth c Q D cT B0 G nL bud q L S T s cs := by
  obtain ⟨hx, hb, hml, hown, hts, hK, hX, hB0, ⟨ixs, hres⟩, hR, hRc, hRs, hin⟩ := C
  unfold exAld at h
  obtain ⟨i, S1, rfl, k1⟩ := popI_inv h
  obtain ⟨t, S2, rfl, k2⟩ := popR_inv k1
  cases hbt : Nat.blt t wB with
  | true =>
    rw [hbt] at k2
    obtain ⟨g0, g1, g2, k3⟩ := onArr_inv k2
    obtain ⟨i0, i1, k4⟩ := inR_inv k3
    rcases htc with rfl | rfl | rfl | rfl | rfl | rfl | rfl
    · exact ok_iald hx hb hK hd g0 g1 g2 ⟨i0, i1⟩ (hk _ _ _ _ _ _ k4)
    · exact ok_lald hx hb hK hd g0 g1 g2 ⟨i0, i1⟩ (hk _ _ _ _ _ _ k4)
    · exact ok_bald hx hb hK hd g0 g1 g2 ⟨i0, i1⟩ (hk _ _ _ _ _ _ k4)
    · exact ok_zald hx hb hK hd g0 g1 g2 ⟨i0, i1⟩ (hk _ _ _ _ _ _ k4)
    · cases k4
    · exact ok_aald6 hx hb hK hd g0 g1 g2 ⟨i0, i1⟩ (hk _ _ _ _ _ _ k4)
    · exact ok_aald7 hx hb hK hd g0 g1 g2 ⟨i0, i1⟩ (hk _ _ _ _ _ _ k4)
  | false =>
    rw [hbt, bsel_f] at k2
    obtain ⟨ha, k3⟩ := bsel_inv k2
    have ha : (gA scr (t - wB)).1 = tc := Nat.eq_of_beq_eq_true ha
    obtain ⟨i0, i1, k4⟩ := inR_inv k3
    have hge : wB ≤ t := by
      rcases Nat.lt_or_ge t wB with h9 | h9
      · have : Nat.blt t wB = true := by simpa [Nat.blt_eq] using h9
        rw [this] at hbt; cases hbt
      · exact h9
    obtain ⟨u, rfl⟩ := Nat.exists_eq_add_of_le hge
    rw [Nat.add_sub_cancel_left] at ha i1 k4
    have hX0 := hX
    obtain ⟨-, -, h3, -, h5, -⟩ := hX0
    have str : ∀ j, j < 4 → u = 300 + j → (gA scr u) = (3, (strB j).length, fun i => (strB j).getD i 0) → Wat p l e R s0 m args below meth c Q D cT B0 G nL bud q L (iv i :: rv (some (wB + u)) :: S2) T s cs := by
      intro j hj hu he
      rw [he] at ha i1 k4
      cases ha
      exact ok_tB hx hb (by rw [hu]) (str_T hX hj) (can_strB j) ⟨i0, i1⟩ hd (hk _ _ _ _ _ _ k4)
    rcases gA_cases scr u with rfl | rfl | rfl | rfl | rfl | rfl | rfl | h0
    · have ha : 5 = tc := ha
      subst ha
      exact ok_tQ hx hb rfl h3 ⟨i0, i1⟩ hd (hk _ _ _ _ _ _ k4)
    · have ha : 1 = tc := ha
      subst ha
      exact ok_tI hx hb rfl h5 can_swM ⟨i0, i1⟩ hd (hk _ _ _ _ _ _ k4)
    · exact str 0 (by decide) rfl rfl
    · exact str 1 (by decide) rfl rfl
    · exact str 2 (by decide) rfl rfl
    · exact str 3 (by decide) rfl rfl
    · by_cases hz : scr.1 = 0
      · have e0 : (gA scr 400).1 = 0 := by show bsel (Nat.beq scr.1 0) 0 1 = 0; rw [hz]
        rw [e0] at ha
        subst ha
        simp at htc
      · have e0 : (gA scr 400).1 = 1 := by
          show bsel (Nat.beq scr.1 0) 0 1 = 1
          cases h9 : Nat.beq scr.1 0 with
          | true => exact absurd (Nat.eq_of_beq_eq_true h9) hz
          | false => rfl
        rw [e0] at ha
        subst ha
        exact ok_sld hx hb hX hz rfl ⟨i0, i1⟩ hd (hk _ _ _ _ _ _ k4)
    · rw [h0] at ha
      subst ha
      simp at htc
def astIns (tc : Nat) : Instr := match tc with
  | 1 => .iastore
  | 2 => .lastore
  | 3 => .bastore
  | _ => .aastore
theorem exAst_ok (C : Cxt p R s0 m args c D cT B0 G nL bud scr own rs cc d) {tc : Nat} {al : Bool} (htc : tc = 1 ∨ tc = 2 ∨ tc = 3 ∨ tc = 6) (hd : decode cc q = .ok (astIns tc, 1)) (h : exAst Z0 al tc q L S T s cs k = some o)
    (hk : ∀ pc' L' S' T' s' cs', k pc' L' S' T' s' cs' = some o → Wat p l e R s0 m args below meth c Q D cT B0 G nL bud pc' L' S' T' s' cs') : Wat p l e R s0 m args below meth c Q D cT B0 G nL bud q L S T s cs := by
  obtain ⟨hx, hb, hml, hown, hts, hK, hX, hB0, ⟨ixs, hres⟩, hR, hRc, hRs, hin⟩ := C
  rcases htc with rfl | rfl | rfl | rfl
  · obtain ⟨x, S1, rfl, k1⟩ := popI_inv h
    obtain ⟨i, S2, rfl, k2⟩ := popI_inv k1
    obtain ⟨t, S3, rfl, k3⟩ := popR_inv k2
    obtain ⟨g0, g1, g2, k4⟩ := onArr_inv k3
    obtain ⟨i0, i1, k5⟩ := inR_inv k4
    exact ok_iast hx hb hK hd g0 g1 g2 ⟨i0, i1⟩ (hk _ _ _ _ _ _ k5)
  · obtain ⟨x, S1, rfl, k1⟩ := popJ_inv h
    obtain ⟨i, S2, rfl, k2⟩ := popI_inv k1
    obtain ⟨t, S3, rfl, k3⟩ := popR_inv k2
    obtain ⟨g0, g1, g2, k4⟩ := onArr_inv k3
    obtain ⟨i0, i1, k5⟩ := inR_inv k4
    exact ok_last hx hb hK hd g0 g1 g2 ⟨i0, i1⟩ (hk _ _ _ _ _ _ k5)
  · obtain ⟨x, S1, rfl, k1⟩ := popI_inv h
    obtain ⟨i, S2, rfl, k2⟩ := popI_inv k1
    obtain ⟨t, S3, rfl, k3⟩ := popR_inv k2
    cases h3 : Nat.beq (T.2.1 t).2.1 3 with
    | true =>
      rw [h3] at k3
      obtain ⟨g0, g1, g2, k4⟩ := onArr_inv k3
      obtain ⟨i0, i1, k5⟩ := inR_inv k4
      exact ok_bast hx hb hK hd g0 g1 g2 ⟨i0, i1⟩ (hk _ _ _ _ _ _ k5)
    | false =>
      rw [h3] at k3
      obtain ⟨g0, g1, g2, k4⟩ := onArr_inv k3
      obtain ⟨i0, i1, k5⟩ := inR_inv k4
      obtain ⟨hz, k6⟩ := ite_inv k5
      exact ok_zast hx hb hK hd g0 g1 g2 ⟨i0, i1⟩ hz (hk _ _ _ _ _ _ k6)
  · obtain ⟨-, k0⟩ := bsel_inv h
    obtain ⟨x, S1, rfl, k1⟩ := popR_inv k0
    obtain ⟨i, S2, rfl, k2⟩ := popI_inv k1
    obtain ⟨t, S3, rfl, k3⟩ := popR_inv k2
    obtain ⟨g0, -, g2, k4⟩ := onArr_inv k3
    obtain ⟨e0, e1, e2, k5⟩ := onObj_inv k4
    obtain ⟨i0, i1, k6⟩ := inR_inv k5
    by_cases h6 : (T.2.1 t).2.1 = 6
    · rw [h6] at e1
      exact ok_aast (tc := 6) (t0 := 4) (ci := 4) hx hb hK hd g0 h6 g2 rfl (fun _ _ _ _ => rfl) ⟨i0, i1⟩ e0 e1 e2 (hk _ _ _ _ _ _ k6)
    · by_cases h7 : (T.2.1 t).2.1 = 7
      · rw [h7] at e1
        exact ok_aast (tc := 7) (t0 := 5) (ci := 2) hx hb hK hd g0 h7 g2 rfl (fun _ _ _ _ => rfl) ⟨i0, i1⟩ e0 e1 e2 (hk _ _ _ _ _ _ k6)
      · have h9 : acls (T.2.1 t).2.1 = 99 := by
          unfold acls; split
          · exact absurd ‹_› h6
          · exact absurd ‹_› h7
          · rfl
        intro φ H locs ls hS hl hL hc hbd
        have := (sh_obj hS.2.2.2.2.1 e2 e0 e1).1
        omega
theorem exLen_ok (C : Cxt p R s0 m args c D cT B0 G nL bud scr own rs cc d) (hd : decode cc q = .ok (.arraylength, 1)) (h : exLen scr q L S T s cs k = some o)
    (hk : ∀ pc' L' S' T' s' cs', k pc' L' S' T' s' cs' = some o → Wat p l e R s0 m args below meth c Q D cT B0 G nL bud pc' L' S' T' s' cs') : Wat p l e R s0 m args below meth c Q D cT B0 G nL bud q L S T s cs := by
  obtain ⟨hx, hb, hml, hown, hts, hK, hX, hB0, ⟨ixs, hres⟩, hR, hRc, hRs, hin⟩ := C
  unfold exLen at h
  obtain ⟨t, S1, rfl, k1⟩ := popR_inv h
  cases hbt : Nat.blt t wB with
  | true =>
    rw [hbt] at k1
    obtain ⟨g0, -, g2, k2⟩ := onArr_inv k1
    have kk := hk _ _ _ _ _ _ k2
    by_cases t1 : (T.2.1 t).2.1 = 1
    · exact ok_alen (t0 := 0) hx hb hK hd g0 (by rw [t1]; rfl) g2 kk
    by_cases t2 : (T.2.1 t).2.1 = 2
    · exact ok_alen (t0 := 1) hx hb hK hd g0 (by rw [t2]; rfl) g2 kk
    by_cases t3 : (T.2.1 t).2.1 = 3
    · exact ok_alen (t0 := 2) hx hb hK hd g0 (by rw [t3]; rfl) g2 kk
    by_cases t4 : (T.2.1 t).2.1 = 4
    · exact ok_alen (t0 := 3) hx hb hK hd g0 (by rw [t4]; rfl) g2 kk
    by_cases t6 : (T.2.1 t).2.1 = 6
    · exact ok_alen (t0 := 4) hx hb hK hd g0 (by rw [t6]; rfl) g2 kk
    by_cases t7 : (T.2.1 t).2.1 = 7
    · exact ok_alen (t0 := 5) hx hb hK hd g0 (by rw [t7]; rfl) g2 kk
    intro φ H locs ls hS hl hL hc hbd
    exfalso
    rcases hS.2.2.2.2.1.2.2 t g2 with h9 | h9
    · omega
    · have := h9.2.2
      omega
  | false =>
    rw [hbt] at k1
    cases h0 : Nat.beq (gA scr (t - wB)).1 0 with
    | true => rw [h0] at k1; cases k1
    | false =>
      rw [h0] at k1
      have hge : wB ≤ t := by
        rcases Nat.lt_or_ge t wB with h9 | h9
        · have : Nat.blt t wB = true := by simpa [Nat.blt_eq] using h9
          rw [this] at hbt; cases hbt
        · exact h9
      obtain ⟨u, rfl⟩ := Nat.exists_eq_add_of_le hge
      rw [Nat.add_sub_cancel_left] at h0 k1
      have kk := hk _ _ _ _ _ _ k1
      have hX0 := hX
      obtain ⟨-, -, h3, -, h5, -⟩ := hX0
      rcases gA_cases scr u with rfl | rfl | rfl | rfl | rfl | rfl | rfl | h9
      · exact ok_tLen hx hb rfl h3 (by decide) hd kk
      · exact ok_tLen hx hb rfl h5 (by decide) hd kk
      · exact ok_tLen hx hb rfl (str_T hX (j := 0) (by decide)) (by decide) hd kk
      · exact ok_tLen hx hb rfl (str_T hX (j := 1) (by decide)) (by decide) hd kk
      · exact ok_tLen hx hb rfl (str_T hX (j := 2) (by decide)) (by decide) hd kk
      · exact ok_tLen hx hb rfl (str_T hX (j := 3) (by decide)) (by decide) hd kk
      · by_cases hz : scr.1 = 0
        · have e0 : (gA scr 400).1 = 0 := by show bsel (Nat.beq scr.1 0) 0 1 = 0; rw [hz]
          rw [e0] at h0; cases h0
        · exact ok_slen hx hb hX hz rfl hd kk
      · rw [h9] at h0; cases h0
end Grp2
