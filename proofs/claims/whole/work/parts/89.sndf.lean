/-! ===== what stands still: words, texts, the script; and rows over it ===== -/
def nestL : List (String × Nat × Nat) := [("LentBoxes", 9, 1), ("LentBoxes$World", 9, 3), ("LentBoxes$World", 18, 4), ("LentBoxes$World", 25, 5), ("LentBoxes$Past", 17, 4), ("LentBoxes", 36, 4), ("LentBoxes", 43, 3), ("LentBoxes", 50, 5), ("LentBoxes", 57, 7), ("LentBoxes", 71, 9)]
def nestY (ci : Nat) : MethodName := ⟨clN ci, "<init>", "()V"⟩
def strI (k : Nat) : Nat := [333, 338, 340, 345].getD k 0
def strT (k : Nat) : String := [" comes", " waits", " lies in ", " laid in "].getD k ""
def strN : List Nat := [6, 6, 9, 9]
def str32 : List (List Int32) := strBl.map (fun l => l.map Int32.ofInt)
/-- a reference or null -/
def isR (v : Value) : Prop := v = .null ∨ ∃ a, v = .ref a
/-- what String's own methods and the exceptions ask of statics and texts -/
def StrW (B0 : Nat) (U : State) : Prop :=
  va_Z "java/lang/String" "COMPACT_STRINGS" "Z" (.int 1) (sA B0) U U.heap ∧
  (∃ v, isR v ∧ va_Z "jdk/internal/util/Preconditions" "SIOOBE_FORMATTER" "Ljava/util/function/BiFunction;" v (sA B0) U U.heap) ∧
  (∃ v, isR v ∧ va_Z "java/lang/Throwable" "UNASSIGNED_STACK" "[Ljava/lang/StackTraceElement;" v (sA B0) U U.heap) ∧
  (∃ v, isR v ∧ va_Z "java/lang/Throwable" "SUPPRESSED_SENTINEL" "Ljava/util/List;" v (sA B0) U U.heap) ∧
  (∃ a, vk_R "LentBoxes" 185 "no such one" a U) ∧ (∃ a, vk_R "LentBoxes" 214 "no such what" a U) ∧ ∃ a, vk_R "LentBoxes" 316 "no such ones" a U
theorem StrW_still (B0 : Nat) : Still B0 (StrW B0) := by
  intro u t h hW hq
  obtain ⟨h1, ⟨v2, r2, h2⟩, ⟨v3, r3, h3⟩, ⟨v4, r4, h4⟩, ⟨a5, h5⟩, ⟨a6, h6⟩, ⟨a7, h7⟩⟩ := h
  have hA := hW.alike
  exact ⟨va_Z.moved hA (h1.kept hq), ⟨v2, r2, va_Z.moved hA (h2.kept hq)⟩, ⟨v3, r3, va_Z.moved hA (h3.kept hq)⟩, ⟨v4, r4, va_Z.moved hA (h4.kept hq)⟩, ⟨a5, vk_R.warm hW h5⟩, ⟨a6, vk_R.warm hW h6⟩, ⟨a7, vk_R.warm hW h7⟩⟩
/-- what stands still, at the addresses that fS gives: words k, their array 100, the switch map 101, texts 200 + k with their bytes 300 + k, the script 400 -/
def SxW (B0 : Nat) (fS : Nat → Nat) (scr : Nat × (Nat → Int)) (U : State) : Prop :=
  (∀ k : Nat, k < 24 → va_Z "LentBoxes$Word" (wNm k) "LLentBoxes$Word;" (.ref (fS k)) (sA B0) U U.heap) ∧
  va_Z "LentBoxes$Word" "ALL" "[LLentBoxes$Word;" (.ref (fS 100)) (sA B0) U U.heap ∧
  va_T (.object "LentBoxes$Word") (fS 100) 24 (fun j => .ref (fS j)) (sA B0) U U.heap ∧
  va_Z "LentBoxes$1" "$SwitchMap$LentBoxes$Word" "[I" (.ref (fS 101)) (sA B0) U U.heap ∧
  va_T .int (fS 101) 24 (fun j => .int (Int32.ofInt (swM j))) (sA B0) U U.heap ∧
  (∀ k : Nat, k < 24 → va_OF "LentBoxes$Word" "letters" "J" (.long (Int64.ofInt (wL k))) (fS k) (sA B0) U U.heap) ∧
  (∀ k : Nat, k < 24 → va_OF "java/lang/Enum" "ordinal" "I" (.int (Int32.ofInt (k : Int))) (fS k) (sA B0) U U.heap) ∧
  (∀ k : Nat, k < 24 → va_O "LentBoxes$Word" (fS k) (sA B0) U U.heap) ∧
  (∀ j k, j < 24 → k < 24 → fS j = fS k → j = k) ∧
  vk_S 4 strN str32 (fun k => fS (200 + k)) (fun k => fS (300 + k)) (sA B0) U U.heap ∧
  (∀ k, k < 4 → vk_R "LentBoxes" (strI k) (strT k) (fS (200 + k)) U) ∧
  (∀ q ∈ nestL, va_Nw (.methodLinkNest q.1 q.2.1 (nestY q.2.2) "LentBoxes") U) ∧
  va_AO "LentBoxes$State" U ∧ va_AO "LentBoxes$World" U ∧
  (scr.1 ≠ 0 → va_X (fS 400) (scr.1 - 1) (fun j => Int32.ofInt (scr.2 j)) U U.heap ∧ fS 400 < U.heap.size ∧ ¬ sA B0 (fS 400)) ∧ scr.1 ≤ 3073 ∧ (∀ j, can (scr.2 j)) ∧ StrW B0 U
theorem SxW_still (B0 : Nat) (fS : Nat → Nat) (scr : Nat × (Nat → Int)) : Still B0 (SxW B0 fS scr) := by
  intro u t h hW hq
  obtain ⟨h1, h2, h3, h4, h5, h6, h7, h8, h9, h10, h11, h12, h13, h14, h15, h18, h19⟩ := h
  have hA := hW.alike
  refine ⟨fun k hk => va_Z.moved hA ((h1 k hk).kept hq), va_Z.moved hA (h2.kept hq), va_T.moved hA (h3.kept hq), va_Z.moved hA (h4.kept hq), va_T.moved hA (h5.kept hq), fun k hk => va_OF.moved hA ((h6 k hk).kept hq), fun k hk => va_OF.moved hA ((h7 k hk).kept hq), fun k hk => va_O.moved hA ((h8 k hk).kept hq), h9, vk_S.moved hA (h10.kept hq), fun k hk => vk_R.warm hW (h11 k hk), fun q h => va_Nw.warmM hW (h12 q h), va_AO.moved hA h13, va_AO.moved hA h14, fun h0 => ?_, h18, h19.1, StrW_still B0 u t h19.2 hW hq⟩
  obtain ⟨h15, h16, h17⟩ := h15 h0
  refine ⟨va_X.moved hA (h15.kept (hq _ h16 h17)), ?_, h17⟩
  obtain ⟨scrc, hc, -⟩ := h15.kept (hq _ h16 h17)
  rcases Nat.lt_or_ge (fS 400) t.heap.size with h | h
  · exact h
  · rw [Array.getElem?_eq_none h] at hc; cases hc
/-- without a script -/
theorem SxW_none {B0 : Nat} {fS : Nat → Nat} {scr : Nat × (Nat → Int)} {U : State} (h : SxW B0 fS scr U) : SxW B0 fS (0, fun _ => 0) U := by
  obtain ⟨h1, h2, h3, h4, h5, h6, h7, h8, h9, h10, h11, h12, h13, h14, h15, h18, h19⟩ := h
  exact ⟨h1, h2, h3, h4, h5, h6, h7, h8, h9, h10, h11, h12, h13, h14, fun h => absurd rfl h, Nat.zero_le _, fun _ => can_0, h19.2⟩
theorem canJ_wL (k : Nat) : canJ (wL k) := by
  by_cases h : k < 24
  · have : ∀ k, k < 24 → decide (-9223372036854775808 ≤ wL k) && decide (wL k < 9223372036854775808) = true := by decide +kernel
    have := this k h
    simp only [Bool.and_eq_true, decide_eq_true_eq] at this
    exact this
  · unfold wL
    rw [List.getD_eq_getElem?_getD, List.getElem?_eq_none (by show 24 ≤ k; omega)]
    unfold canJ; simp
theorem can_swM (k : Nat) : can (swM k) := by
  by_cases h : k < 24
  · have : ∀ k, k < 24 → decide (-2147483648 ≤ swM k) && decide (swM k < 2147483648) = true := by decide +kernel
    have := this k h
    simp only [Bool.and_eq_true, decide_eq_true_eq] at this
    exact this
  · unfold swM
    rw [List.getD_eq_getElem?_getD, List.getElem?_eq_none (by show 24 ≤ k; omega)]
    unfold can; simp
section Stat
variable {p : Program} {l : Launch} {e : Env} {R : Room} {s0 : State} {m : MethodId} {args : Array Value} {below : List Frame} {meth : Method} {c : Code} {Q : State → Prop} {D : va_G} {cT : Nat → ClassId} {B0 : Nat} {G : mG} {nL : Nat} {bud : Nat × Nat} {scr : Nat × (Nat → Int)}
variable {cc : ByteArray} {q : Nat} {L : mL} {S : List mV} {T : mT} {s : mS} {cs : Nat × Nat} {own : String}
theorem okR_hi {T : mT} {t : Nat} (h : wB ≤ t) (h2 : t < wB + 2147483648) : okR T (some t) := fun i hi => by cases hi; exact Or.inr ⟨h, h2⟩
/-- a static that holds what stands at offset a -/
theorem ok_gets (hx : p.tables.exec = Jvm.exec) (hb : c.code = cc) (hown : s0.vm.findClass own = some m.cls) {C n d : String} {idx a : Nat} (ha : a < 1000) (hZ : va_Z C n d (.ref (G.1 a)) (sA B0) s0 s0.heap) (hlink : (Cond.fieldLink own idx C n d).before args s0 = true) (hd : decode cc q = .ok (.getstatic idx, 3))
    (hk : Wat p l e R s0 m args below meth c Q D cT B0 G nL bud (q + 3) L (rv (some (wB + a)) :: S) T s cs) : Wat p l e R s0 m args below meth c Q D cT B0 G nL bud q L S T s cs := by
  intro φ H locs ls hS hl hL hc hbd
  have kk := hk φ H locs ls hS hl hL (cS_cons (okR_hi (Nat.le_add_right _ _) (by omega)) hc) hbd
  refine va_gets hx hb hZ hS.2.2.1 hown hlink (fun _ h => h) hd ?_
  rw [← hS.2.2.2.2.2.1 a]; exact kk
/-- a field of a constant object -/
theorem ok_getO (hx : p.tables.exec = Jvm.exec) (hb : c.code = cc) (hown : s0.vm.findClass own = some m.cls) {o n d : String} {idx t k : Nat} {v : mV} (htk : t = wB + k) (hE : ∀ φ : Nat → Nat, va_OF o n d (cv φ v) (G.1 k) (sA B0) s0 s0.heap) (hv : canV T v) (hlink : (Cond.fieldLink own idx o n d).before args s0 = true) (hd : decode cc q = .ok (.getfield idx, 3))
    (hk : Wat p l e R s0 m args below meth c Q D cT B0 G nL bud (q + 3) L (v :: S) T s cs) : Wat p l e R s0 m args below meth c Q D cT B0 G nL bud q L (rv (some t) :: S) T s cs := by
  intro φ H locs ls hS hl hL hc hbd
  have kk := hk φ H locs ls hS hl hL (cS_cons hv (cS_tail hc)) hbd
  have e1 : φ t = G.1 k := by rw [htk]; exact hS.2.2.2.2.2.1 k
  show W p l e R s0 m args below meth c H locs cs.1 cs.2 Q (F0 m q ls (.ref (φ t) :: S.map (cv φ)))
  rw [e1]
  exact vk_getf hx hb (hE φ) hS.2.2.1 hown hlink (fun _ h => h) hd kk
/-- an element of a constant array -/
theorem ok_tI (hx : p.tables.exec = Jvm.exec) (hb : c.code = cc) {t k n : Nat} {f : Nat → Int} {i : Int} (htk : t = wB + k) (hT : va_T .int (G.1 k) n (fun j => .int (Int32.ofInt (f j))) (sA B0) s0 s0.heap) (hf : ∀ j, can (f j)) (hi : 0 ≤ i ∧ i < (n : Int)) (hd : decode cc q = .ok (.iaload, 1))
    (hk : Wat p l e R s0 m args below meth c Q D cT B0 G nL bud (q + 1) L (iv (f i.toNat) :: S) T s cs) : Wat p l e R s0 m args below meth c Q D cT B0 G nL bud q L (iv i :: rv (some t) :: S) T s cs := by
  intro φ H locs ls hS hl hL hc hbd
  have hci : can i := cS_head hc
  have kk := hk φ H locs ls hS hl hL (cS_cons (hf _) (cS_tail (cS_tail hc))) hbd
  have e1 : φ t = G.1 k := by rw [htk]; exact hS.2.2.2.2.2.1 k
  show W p l e R s0 m args below meth c H locs cs.1 cs.2 Q (F0 m q ls (.int (Int32.ofInt i) :: .ref (φ t) :: S.map (cv φ)))
  rw [e1]
  exact va_ti hx hb hT hS.2.2.1 ((i32_in hci).mpr hi) (by rw [i32_clamp hci]; rfl) hd kk
theorem ok_tB (hx : p.tables.exec = Jvm.exec) (hb : c.code = cc) {t k n : Nat} {f : Nat → Int} {i : Int} (htk : t = wB + k) (hT : va_T .byte (G.1 k) n (fun j => .int (Int32.ofInt (f j))) (sA B0) s0 s0.heap) (hf : ∀ j, can (f j)) (hi : 0 ≤ i ∧ i < (n : Int)) (hd : decode cc q = .ok (.baload, 1))
    (hk : Wat p l e R s0 m args below meth c Q D cT B0 G nL bud (q + 1) L (iv (f i.toNat) :: S) T s cs) : Wat p l e R s0 m args below meth c Q D cT B0 G nL bud q L (iv i :: rv (some t) :: S) T s cs := by
  intro φ H locs ls hS hl hL hc hbd
  have hci : can i := cS_head hc
  have kk := hk φ H locs ls hS hl hL (cS_cons (hf _) (cS_tail (cS_tail hc))) hbd
  have e1 : φ t = G.1 k := by rw [htk]; exact hS.2.2.2.2.2.1 k
  show W p l e R s0 m args below meth c H locs cs.1 cs.2 Q (F0 m q ls (.int (Int32.ofInt i) :: .ref (φ t) :: S.map (cv φ)))
  rw [e1]
  exact va_tb hx hb hT hS.2.2.1 ((i32_in hci).mpr hi) (by rw [i32_clamp hci]; rfl) hd kk
theorem ok_tQ (hx : p.tables.exec = Jvm.exec) (hb : c.code = cc) {t k n : Nat} {C : String} {i : Int} (htk : t = wB + k) (hT : va_T (.object C) (G.1 k) n (fun j => .ref (G.1 j)) (sA B0) s0 s0.heap) (hi : 0 ≤ i ∧ i < (n : Int)) (hd : decode cc q = .ok (.aaload, 1))
    (hk : Wat p l e R s0 m args below meth c Q D cT B0 G nL bud (q + 1) L (rv (some (wB + i.toNat)) :: S) T s cs) : Wat p l e R s0 m args below meth c Q D cT B0 G nL bud q L (iv i :: rv (some t) :: S) T s cs := by
  intro φ H locs ls hS hl hL hc hbd
  have hci : can i := cS_head hc
  have kk := hk φ H locs ls hS hl hL (cS_cons (okR_hi (Nat.le_add_right _ _) (by unfold can at hci; omega)) (cS_tail (cS_tail hc))) hbd
  have e1 : φ t = G.1 k := by rw [htk]; exact hS.2.2.2.2.2.1 k
  show W p l e R s0 m args below meth c H locs cs.1 cs.2 Q (F0 m q ls (.int (Int32.ofInt i) :: .ref (φ t) :: S.map (cv φ)))
  rw [e1]
  refine vb_tq hx hb hT hS.2.2.1 ((i32_in hci).mpr hi) (v := .ref (φ (wB + i.toNat))) ?_ hd kk
  rw [i32_clamp hci, hS.2.2.2.2.2.1]
theorem ok_tLen (hx : p.tables.exec = Jvm.exec) (hb : c.code = cc) {t k n : Nat} {ty : FieldType} {f : Nat → Value} (htk : t = wB + k) (hT : va_T ty (G.1 k) n f (sA B0) s0 s0.heap) (hn : n ≤ 10000) (hd : decode cc q = .ok (.arraylength, 1))
    (hk : Wat p l e R s0 m args below meth c Q D cT B0 G nL bud (q + 1) L (iv (n : Int) :: S) T s cs) : Wat p l e R s0 m args below meth c Q D cT B0 G nL bud q L (rv (some t) :: S) T s cs := by
  intro φ H locs ls hS hl hL hc hbd
  have kk := hk φ H locs ls hS hl hL (cS_cons (show can (n : Int) from by unfold can; omega) (cS_tail hc)) hbd
  have e1 : φ t = G.1 k := by rw [htk]; exact hS.2.2.2.2.2.1 k
  show W p l e R s0 m args below meth c H locs cs.1 cs.2 Q (F0 m q ls (.ref (φ t) :: S.map (cv φ)))
  rw [e1]
  exact va_tlen hx hb hT hS.2.2.1 (v := Int32.ofInt (n : Int)) rfl hd kk
/-- the script -/
theorem ok_sld (hx : p.tables.exec = Jvm.exec) (hb : c.code = cc) {t : Nat} {i : Int} (hX : SxW B0 G.1 scr s0) (hn : scr.1 ≠ 0) (htk : t = wB + 400) (hi : 0 ≤ i ∧ i < ((scr.1 - 1 : Nat) : Int)) (hd : decode cc q = .ok (.iaload, 1))
    (hk : Wat p l e R s0 m args below meth c Q D cT B0 G nL bud (q + 1) L (iv (scr.2 i.toNat) :: S) T s cs) : Wat p l e R s0 m args below meth c Q D cT B0 G nL bud q L (iv i :: rv (some t) :: S) T s cs := by
  obtain ⟨-, -, -, -, -, -, -, -, -, -, -, -, -, -, h15, h18, h19⟩ := hX
  obtain ⟨h15, h16, h17⟩ := h15 hn
  intro φ H locs ls hS hl hL hc hbd
  have hci : can i := cS_head hc
  have kk := hk φ H locs ls hS hl hL (cS_cons (h19.1 _) (cS_tail (cS_tail hc))) hbd
  have e1 : φ t = G.1 400 := by rw [htk]; exact hS.2.2.2.2.2.1 400
  show W p l e R s0 m args below meth c H locs cs.1 cs.2 Q (F0 m q ls (.int (Int32.ofInt i) :: .ref (φ t) :: S.map (cv φ)))
  rw [e1]
  refine va_sld hx hb h15 h16 h17 hS.2.2.1 ((i32_in hci).mpr hi) hd ?_
  rw [i32_clamp hci]; exact kk
theorem ok_slen (hx : p.tables.exec = Jvm.exec) (hb : c.code = cc) {t : Nat} (hX : SxW B0 G.1 scr s0) (hn : scr.1 ≠ 0) (htk : t = wB + 400) (hd : decode cc q = .ok (.arraylength, 1))
    (hk : Wat p l e R s0 m args below meth c Q D cT B0 G nL bud (q + 1) L (iv ((scr.1 - 1 : Nat) : Int) :: S) T s cs) : Wat p l e R s0 m args below meth c Q D cT B0 G nL bud q L (rv (some t) :: S) T s cs := by
  obtain ⟨-, -, -, -, -, -, -, -, -, -, -, -, -, -, h15, h18, h19⟩ := hX
  obtain ⟨h15, h16, h17⟩ := h15 hn
  intro φ H locs ls hS hl hL hc hbd
  have kk := hk φ H locs ls hS hl hL (cS_cons (show can ((scr.1 - 1 : Nat) : Int) from by unfold can; omega) (cS_tail hc)) hbd
  have e1 : φ t = G.1 400 := by rw [htk]; exact hS.2.2.2.2.2.1 400
  show W p l e R s0 m args below meth c H locs cs.1 cs.2 Q (F0 m q ls (.ref (φ t) :: S.map (cv φ)))
  rw [e1]
  exact va_slen hx hb h15 h16 h17 hS.2.2.1 hd kk
/-- words are compared by their addresses -/
theorem ref_inj (hX : SxW B0 G.1 scr s0) {φ : Nat → Nat} (hf : ∀ i, φ (wB + i) = G.1 i) {x y : Option Nat} (hx : refOk x = true) (hy : refOk y = true) : x.map φ = y.map φ ↔ x = y := by
  obtain ⟨-, -, -, -, -, -, -, -, h9, -⟩ := hX
  constructor
  · intro h
    cases x with
    | none => cases y with
      | none => rfl
      | some y => cases h
    | some x => cases y with
      | none => cases h
      | some y =>
        simp only [refOk, Bool.and_eq_true] at hx hy
        have hx1 := Nat.le_of_ble_eq_true hx.1
        have hy1 := Nat.le_of_ble_eq_true hy.1
        have hx2 : x < wB + 24 := by simpa [Nat.blt_eq] using hx.2
        have hy2 : y < wB + 24 := by simpa [Nat.blt_eq] using hy.2
        obtain ⟨a, rfl⟩ := Nat.exists_eq_add_of_le hx1
        obtain ⟨b, rfl⟩ := Nat.exists_eq_add_of_le hy1
        simp only [Option.map_some, Option.some.injEq] at h
        rw [hf, hf] at h
        rw [h9 a b (by omega) (by omega) h]
  · intro h; rw [h]
theorem ok_acmp_eq (hx : p.tables.exec = Jvm.exec) (hb : c.code = cc) (hX : SxW B0 G.1 scr s0) {off : Int} {tgt : Nat} {x y : Option Nat} (hrx : refOk x = true) (hry : refOk y = true) (hd : decode cc q = .ok (.if_acmp .eq off, 3)) (ht : (q : Int) + off = (tgt : Int))
    (hkt : x = y → Wat p l e R s0 m args below meth c Q D cT B0 G nL bud tgt L S T s cs) (hkf : ¬ x = y → Wat p l e R s0 m args below meth c Q D cT B0 G nL bud (q + 3) L S T s cs) : Wat p l e R s0 m args below meth c Q D cT B0 G nL bud q L (rv y :: rv x :: S) T s cs := by
  intro φ H locs ls hS hl hL hc hbd
  have hc2 := cS_tail (cS_tail hc)
  have hi := ref_inj hX hS.2.2.2.2.2.1 hrx hry
  exact lv_acmp_eq hx hb hd ht (fun h => hkt (hi.mp h) φ H locs ls hS hl hL hc2 hbd) (fun h => hkf (fun z => h (hi.mpr z)) φ H locs ls hS hl hL hc2 hbd)
theorem ok_acmp_ne (hx : p.tables.exec = Jvm.exec) (hb : c.code = cc) (hX : SxW B0 G.1 scr s0) {off : Int} {tgt : Nat} {x y : Option Nat} (hrx : refOk x = true) (hry : refOk y = true) (hd : decode cc q = .ok (.if_acmp .ne off, 3)) (ht : (q : Int) + off = (tgt : Int))
    (hkt : ¬ x = y → Wat p l e R s0 m args below meth c Q D cT B0 G nL bud tgt L S T s cs) (hkf : x = y → Wat p l e R s0 m args below meth c Q D cT B0 G nL bud (q + 3) L S T s cs) : Wat p l e R s0 m args below meth c Q D cT B0 G nL bud q L (rv y :: rv x :: S) T s cs := by
  intro φ H locs ls hS hl hL hc hbd
  have hc2 := cS_tail (cS_tail hc)
  have hi := ref_inj hX hS.2.2.2.2.2.1 hrx hry
  exact lv_acmp_ne hx hb hd ht (fun h => hkt (fun z => h (hi.mpr z)) φ H locs ls hS hl hL hc2 hbd) (fun h => hkf (hi.mp h) φ H locs ls hS hl hL hc2 hbd)
end Stat
