/-! ===== what the small machine's steps ask: inversions ===== -/
section Inv
variable {α : Type} {o : α}
theorem bsel_inv {c : Bool} {x : Option α} (h : bsel c x none = some o) : c = true ∧ x = some o := by
  cases c
  · cases h
  · exact ⟨rfl, h⟩
theorem ldI_inv {L : mL} {i : Nat} {k : Int → Option α} (h : ldI L i k = some o) : ∃ x, lget L i = some (iv x) ∧ k x = some o := by
  unfold ldI at h
  split at h
  · rename_i x hx; exact ⟨x, hx, h⟩
  · cases h
theorem ldJ_inv {L : mL} {i : Nat} {k : Int → Option α} (h : ldJ L i k = some o) : ∃ x, lget L i = some (jv x) ∧ k x = some o := by
  unfold ldJ at h
  split at h
  · rename_i x hx; exact ⟨x, hx, h⟩
  · cases h
theorem ldR_inv {L : mL} {i : Nat} {k : Option Nat → Option α} (h : ldR L i k = some o) : ∃ x, lget L i = some (rv x) ∧ k x = some o := by
  unfold ldR at h
  split at h
  · rename_i x hx; exact ⟨x, hx, h⟩
  · cases h
theorem popI_inv {S : List mV} {k : Int → List mV → Option α} (h : popI S k = some o) : ∃ x S', S = iv x :: S' ∧ k x S' = some o := by
  unfold popI at h
  split at h
  · exact ⟨_, _, rfl, h⟩
  · cases h
theorem popJ_inv {S : List mV} {k : Int → List mV → Option α} (h : popJ S k = some o) : ∃ x S', S = jv x :: S' ∧ k x S' = some o := by
  unfold popJ at h
  split at h
  · exact ⟨_, _, rfl, h⟩
  · cases h
theorem popQ_inv {S : List mV} {k : Option Nat → List mV → Option α} (h : popQ S k = some o) : ∃ x S', S = rv x :: S' ∧ k x S' = some o := by
  unfold popQ at h
  split at h
  · exact ⟨_, _, rfl, h⟩
  · cases h
theorem onS_inv {r : Option Nat} {k : Nat → Option α} (h : onS r k = some o) : ∃ x, r = some x ∧ k x = some o := by
  unfold onS at h
  split at h
  · exact ⟨_, rfl, h⟩
  · cases h
theorem popR_inv {S : List mV} {k : Nat → List mV → Option α} (h : popR S k = some o) : ∃ x S', S = rv (some x) :: S' ∧ k x S' = some o := by
  unfold popR at h
  split at h
  · obtain ⟨x, rfl, h⟩ := onS_inv h
    exact ⟨_, _, rfl, h⟩
  · cases h
theorem onObj_inv {T : mT} {t ci : Nat} {x : Option α} (h : onObj T t ci x = some o) : (T.2.1 t).1 = 0 ∧ (T.2.1 t).2.1 = ci ∧ t < T.1 ∧ x = some o := by
  obtain ⟨h1, h2⟩ := bsel_inv h
  simp only [Bool.and_eq_true] at h1
  exact ⟨Nat.eq_of_beq_eq_true h1.1, Nat.eq_of_beq_eq_true h1.2.1, by simpa [Nat.blt_eq] using h1.2.2, h2⟩
theorem onArr_inv {T : mT} {t tc : Nat} {x : Option α} (h : onArr T t tc x = some o) : (T.2.1 t).1 = 1 ∧ (T.2.1 t).2.1 = tc ∧ t < T.1 ∧ x = some o := by
  obtain ⟨h1, h2⟩ := bsel_inv h
  simp only [Bool.and_eq_true] at h1
  exact ⟨Nat.eq_of_beq_eq_true h1.1, Nat.eq_of_beq_eq_true h1.2.1, by simpa [Nat.blt_eq] using h1.2.2, h2⟩
theorem inR_inv {i : Int} {n : Nat} {x : Option α} (h : inR i n x = some o) : 0 ≤ i ∧ i < n ∧ x = some o := by
  unfold inR at h
  split at h
  · rename_i hc; exact ⟨hc.1, hc.2, h⟩
  · cases h
theorem ite_inv {P : Prop} [Decidable P] {x : Option α} (h : (if P then x else none) = some o) : P ∧ x = some o := by
  by_cases hp : P
  · rw [if_pos hp] at h; exact ⟨hp, h⟩
  · rw [if_neg hp] at h; cases h
theorem iteN_inv {P : Prop} [Decidable P] {x : Option α} (h : (if P then none else x) = some o) : ¬ P ∧ x = some o := by
  by_cases hp : P
  · rw [if_pos hp] at h; cases h
  · rw [if_neg hp] at h; exact ⟨hp, h⟩
end Inv
theorem cS_cons {T : mT} {v : mV} {S : List mV} (hv : canV T v) (hS : ∀ w ∈ S, canV T w) : ∀ w ∈ v :: S, canV T w := by
  intro w hw
  rcases List.mem_cons.mp hw with rfl | hw
  · exact hv
  · exact hS w hw
theorem cS_head {T : mT} {v : mV} {S : List mV} (h : ∀ w ∈ v :: S, canV T w) : canV T v := h v List.mem_cons_self
theorem cS_tail {T : mT} {v : mV} {S : List mV} (h : ∀ w ∈ v :: S, canV T w) : ∀ w ∈ S, canV T w := fun w hw => h w (List.mem_cons_of_mem _ hw)
/-- what the heap, the locals and the stack have to do with each other at a step -/
abbrev sA (B0 : Nat) : Nat → Prop := fun q => B0 ≤ q
def tysL (cT : Nat → ClassId) : List (ClassId × FieldType) := [(cT 1, .int), (cT 2, .long), (cT 3, .byte), (cT 4, .boolean), (cT 6, .object "LentBoxes$State"), (cT 7, .object "LentBoxes$World")]
def extF (T : mT) (φ φ' : Nat → Nat) : Prop := ∀ i, i < T.1 ∨ wB ≤ i → φ' i = φ i
/-- where what stands still is; the heap's shape and addresses at the method's entry -/
abbrev mG : Type := (Nat → Nat) × mT × (Nat → Nat)
def Fx (G : mG) (φ : Nat → Nat) (T : mT) : Prop := (∀ i, φ (wB + i) = G.1 i) ∧ G.2.1.1 ≤ T.1 ∧ extF G.2.1 G.2.2 φ
def St8 (D : va_G) (cT : Nat → ClassId) (B0 : Nat) (G : mG) (s0 : State) (φ : Nat → Nat) (T : mT) (s : mS) (H : Heap) (locs : List Loc) : Prop :=
  va_P D clL (conc φ cT T s) H ∧ va_D (sA B0) (conc φ cT T s) ∧ va_S (sA B0) s0.heap H locs ∧ canS s ∧ canT T ∧ Fx G φ T
section Wat
variable (p : Program) (l : Launch) (e : Env) (R : Room) (s0 : State) (m : MethodId) (args : Array Value) (below : List Frame) (meth : Method) (c : Code) (Q : State → Prop) (D : va_G) (cT : Nat → ClassId) (B0 : Nat) (G : mG) (nL : Nat) (bud : Nat × Nat)
def Wat (pc : Nat) (L : mL) (S : List mV) (T : mT) (s : mS) (cs : Nat × Nat) : Prop := ∀ (φ : Nat → Nat) (H : Heap) (locs : List Loc) (ls : Array Slot),
  St8 D cT B0 G s0 φ T s H locs → lv_has ls nL (L.map (cvp φ)) → (∀ q ∈ L, canV T q.2) → (∀ v ∈ S, canV T v) → (cs.1 ≤ bud.1 ∧ cs.2 ≤ bud.2) →
  W p l e R s0 m args below meth c H locs cs.1 cs.2 Q (F0 m pc ls (S.map (cv φ)))
end Wat
section Simple
variable {p : Program} {l : Launch} {e : Env} {R : Room} {s0 : State} {m : MethodId} {args : Array Value} {below : List Frame} {meth : Method} {c : Code} {Q : State → Prop} {D : va_G} {cT : Nat → ClassId} {B0 : Nat} {G : mG} {nL : Nat} {bud : Nat × Nat}
variable {cc : ByteArray} {q : Nat} {L : mL} {S : List mV} {T : mT} {s : mS} {cs : Nat × Nat}
theorem ok_iload (hx : p.tables.exec = Jvm.exec) (hb : c.code = cc) {i : Nat} {x : Int} (hd : decode cc q = .ok (.iload i, 2)) (hg : lget L i = some (iv x)) (hk : Wat p l e R s0 m args below meth c Q D cT B0 G nL bud (q + 2) L (iv x :: S) T s cs) : Wat p l e R s0 m args below meth c Q D cT B0 G nL bud q L S T s cs :=
  fun φ H locs ls hS hl hL hc hbd => lv_iload hx hb hd (lget_at hl hg) (hk φ H locs ls hS hl hL (cS_cons (lget_can hL hg) hc) hbd)
theorem ok_iload_n (hx : p.tables.exec = Jvm.exec) (hb : c.code = cc) {i : Fin 4} {x : Int} (hd : decode cc q = .ok (.iload_n i, 1)) (hg : lget L i.val = some (iv x)) (hk : Wat p l e R s0 m args below meth c Q D cT B0 G nL bud (q + 1) L (iv x :: S) T s cs) : Wat p l e R s0 m args below meth c Q D cT B0 G nL bud q L S T s cs :=
  fun φ H locs ls hS hl hL hc hbd => lv_iload_n hx hb hd rfl (lget_at hl hg) (hk φ H locs ls hS hl hL (cS_cons (lget_can hL hg) hc) hbd)
theorem ok_lload (hx : p.tables.exec = Jvm.exec) (hb : c.code = cc) {i : Nat} {x : Int} (hd : decode cc q = .ok (.lload i, 2)) (hg : lget L i = some (jv x)) (hk : Wat p l e R s0 m args below meth c Q D cT B0 G nL bud (q + 2) L (jv x :: S) T s cs) : Wat p l e R s0 m args below meth c Q D cT B0 G nL bud q L S T s cs :=
  fun φ H locs ls hS hl hL hc hbd => lv_lload hx hb hd (lget_at hl hg) (hk φ H locs ls hS hl hL (cS_cons (lget_can hL hg) hc) hbd)
theorem ok_lload_n (hx : p.tables.exec = Jvm.exec) (hb : c.code = cc) {i : Fin 4} {x : Int} (hd : decode cc q = .ok (.lload_n i, 1)) (hg : lget L i.val = some (jv x)) (hk : Wat p l e R s0 m args below meth c Q D cT B0 G nL bud (q + 1) L (jv x :: S) T s cs) : Wat p l e R s0 m args below meth c Q D cT B0 G nL bud q L S T s cs :=
  fun φ H locs ls hS hl hL hc hbd => lv_lload_n hx hb hd rfl (lget_at hl hg) (hk φ H locs ls hS hl hL (cS_cons (lget_can hL hg) hc) hbd)
theorem ok_aload (hx : p.tables.exec = Jvm.exec) (hb : c.code = cc) {i : Nat} {x : Option Nat} (hd : decode cc q = .ok (.aload i, 2)) (hg : lget L i = some (rv x)) (hk : Wat p l e R s0 m args below meth c Q D cT B0 G nL bud (q + 2) L (rv x :: S) T s cs) : Wat p l e R s0 m args below meth c Q D cT B0 G nL bud q L S T s cs := by
  intro φ H locs ls hS hl hL hc hbd
  have k := hk φ H locs ls hS hl hL (cS_cons (lget_can hL hg) hc) hbd
  have a := lget_at hl hg
  cases x with
  | none => exact lv_aloadN hx hb hd a k
  | some x => exact lv_aload hx hb hd a k
theorem ok_aload_n (hx : p.tables.exec = Jvm.exec) (hb : c.code = cc) {i : Fin 4} {x : Option Nat} (hd : decode cc q = .ok (.aload_n i, 1)) (hg : lget L i.val = some (rv x)) (hk : Wat p l e R s0 m args below meth c Q D cT B0 G nL bud (q + 1) L (rv x :: S) T s cs) : Wat p l e R s0 m args below meth c Q D cT B0 G nL bud q L S T s cs := by
  intro φ H locs ls hS hl hL hc hbd
  have k := hk φ H locs ls hS hl hL (cS_cons (lget_can hL hg) hc) hbd
  have a := lget_at hl hg
  cases x with
  | none => exact lv_aload_nN hx hb hd rfl a k
  | some x => exact lv_aload_n hx hb hd rfl a k
theorem ok_istore (hx : p.tables.exec = Jvm.exec) (hb : c.code = cc) {i : Nat} {x : Int} (hd : decode cc q = .ok (.istore i, 2)) (hn : i < nL) (hk : Wat p l e R s0 m args below meth c Q D cT B0 G nL bud (q + 2) (lset1 L i (iv x)) S T s cs) : Wat p l e R s0 m args below meth c Q D cT B0 G nL bud q L (iv x :: S) T s cs :=
  fun φ H locs ls hS hl hL hc hbd => lv_istore hx hb hd hl hn (lset1_cv φ L i (iv x)) (fun ls' hl' => hk φ H locs ls' hS hl' (lset1_can hL (cS_head hc)) (cS_tail hc) hbd)
theorem ok_istore_n (hx : p.tables.exec = Jvm.exec) (hb : c.code = cc) {i : Fin 4} {x : Int} (hd : decode cc q = .ok (.istore_n i, 1)) (hn : i.val < nL) (hk : Wat p l e R s0 m args below meth c Q D cT B0 G nL bud (q + 1) (lset1 L i.val (iv x)) S T s cs) : Wat p l e R s0 m args below meth c Q D cT B0 G nL bud q L (iv x :: S) T s cs :=
  fun φ H locs ls hS hl hL hc hbd => lv_istore_n hx hb hd rfl hl hn (lset1_cv φ L i.val (iv x)) (fun ls' hl' => hk φ H locs ls' hS hl' (lset1_can hL (cS_head hc)) (cS_tail hc) hbd)
theorem ok_lstore (hx : p.tables.exec = Jvm.exec) (hb : c.code = cc) {i : Nat} {x : Int} (hd : decode cc q = .ok (.lstore i, 2)) (hn : i + 1 < nL) (hk : Wat p l e R s0 m args below meth c Q D cT B0 G nL bud (q + 2) (lset2 L i (jv x)) S T s cs) : Wat p l e R s0 m args below meth c Q D cT B0 G nL bud q L (jv x :: S) T s cs :=
  fun φ H locs ls hS hl hL hc hbd => lv_lstore hx hb hd hl hn (lset2_cv φ L i (jv x)) (fun ls' hl' => hk φ H locs ls' hS hl' (lset2_can hL (cS_head hc)) (cS_tail hc) hbd)
theorem ok_lstore_n (hx : p.tables.exec = Jvm.exec) (hb : c.code = cc) {i : Fin 4} {x : Int} (hd : decode cc q = .ok (.lstore_n i, 1)) (hn : i.val + 1 < nL) (hk : Wat p l e R s0 m args below meth c Q D cT B0 G nL bud (q + 1) (lset2 L i.val (jv x)) S T s cs) : Wat p l e R s0 m args below meth c Q D cT B0 G nL bud q L (jv x :: S) T s cs :=
  fun φ H locs ls hS hl hL hc hbd => lv_lstore_n hx hb hd rfl hl hn (lset2_cv φ L i.val (jv x)) (fun ls' hl' => hk φ H locs ls' hS hl' (lset2_can hL (cS_head hc)) (cS_tail hc) hbd)
theorem ok_astore (hx : p.tables.exec = Jvm.exec) (hb : c.code = cc) {i : Nat} {x : Option Nat} (hd : decode cc q = .ok (.astore i, 2)) (hn : i < nL) (hk : Wat p l e R s0 m args below meth c Q D cT B0 G nL bud (q + 2) (lset1 L i (rv x)) S T s cs) : Wat p l e R s0 m args below meth c Q D cT B0 G nL bud q L (rv x :: S) T s cs := by
  intro φ H locs ls hS hl hL hc hbd
  cases x with
  | none => exact lv_astoreN hx hb hd hl hn (lset1_cv φ L i (rv none)) (fun ls' hl' => hk φ H locs ls' hS hl' (lset1_can hL (cS_head hc)) (cS_tail hc) hbd)
  | some x => exact lv_astore hx hb hd hl hn (lset1_cv φ L i (rv (some x))) (fun ls' hl' => hk φ H locs ls' hS hl' (lset1_can hL (cS_head hc)) (cS_tail hc) hbd)
theorem ok_astore_n (hx : p.tables.exec = Jvm.exec) (hb : c.code = cc) {i : Fin 4} {x : Option Nat} (hd : decode cc q = .ok (.astore_n i, 1)) (hn : i.val < nL) (hk : Wat p l e R s0 m args below meth c Q D cT B0 G nL bud (q + 1) (lset1 L i.val (rv x)) S T s cs) : Wat p l e R s0 m args below meth c Q D cT B0 G nL bud q L (rv x :: S) T s cs := by
  intro φ H locs ls hS hl hL hc hbd
  cases x with
  | none => exact lv_astore_nN hx hb hd rfl hl hn (lset1_cv φ L i.val (rv none)) (fun ls' hl' => hk φ H locs ls' hS hl' (lset1_can hL (cS_head hc)) (cS_tail hc) hbd)
  | some x => exact lv_astore_n hx hb hd rfl hl hn (lset1_cv φ L i.val (rv (some x))) (fun ls' hl' => hk φ H locs ls' hS hl' (lset1_can hL (cS_head hc)) (cS_tail hc) hbd)
theorem ok_iinc (hx : p.tables.exec = Jvm.exec) (hb : c.code = cc) {i : Nat} {n x : Int} (hd : decode cc q = .ok (.iinc i n, 3)) (hg : lget L i = some (iv x)) (hn : i < nL) (hk : Wat p l e R s0 m args below meth c Q D cT B0 G nL bud (q + 3) (lset1 L i (iv (w32 (x + n)))) S T s cs) : Wat p l e R s0 m args below meth c Q D cT B0 G nL bud q L S T s cs := by
  intro φ H locs ls hS hl hL hc hbd
  obtain ⟨k, hk0⟩ := lget_mem hg
  exact lv_iinc (k := k) (x := Int32.ofInt x) (v := Int32.ofInt (w32 (x + n))) hx hb hd hl (by rw [List.getElem?_map, hk0]; rfl) (i32_add x n) hn (lset1_cv φ L i (iv (w32 (x + n)))) (fun ls' hl' => hk φ H locs ls' hS hl' (lset1_can hL (can_w32 _)) hc hbd)
theorem ok_iconst (hx : p.tables.exec = Jvm.exec) (hb : c.code = cc) {n : Int} (hd : decode cc q = .ok (.iconst n, 1)) (hn : can n) (hk : Wat p l e R s0 m args below meth c Q D cT B0 G nL bud (q + 1) L (iv n :: S) T s cs) : Wat p l e R s0 m args below meth c Q D cT B0 G nL bud q L S T s cs :=
  fun φ H locs ls hS hl hL hc hbd => lv_iconst hx hb hd rfl (hk φ H locs ls hS hl hL (cS_cons hn hc) hbd)
theorem i8_32 {n : Int} (h : -128 ≤ n ∧ n ≤ 127) : (Int8.ofInt n).toInt32 = Int32.ofInt n := by
  apply i32_eq; rw [Int8.toInt_toInt32, Int8.toInt_ofInt_of_le (by omega) (by omega)]
theorem i16_32 {n : Int} (h : -32768 ≤ n ∧ n ≤ 32767) : (Int16.ofInt n).toInt32 = Int32.ofInt n := by
  apply i32_eq; rw [Int16.toInt_toInt32, Int16.toInt_ofInt_of_le (by omega) (by omega)]
theorem ok_bipush (hx : p.tables.exec = Jvm.exec) (hb : c.code = cc) {n : Int} (hd : decode cc q = .ok (.bipush n, 2)) (hn : -128 ≤ n ∧ n ≤ 127) (hk : Wat p l e R s0 m args below meth c Q D cT B0 G nL bud (q + 2) L (iv n :: S) T s cs) : Wat p l e R s0 m args below meth c Q D cT B0 G nL bud q L S T s cs :=
  fun φ H locs ls hS hl hL hc hbd => lv_bipush hx hb hd (i8_32 hn) (hk φ H locs ls hS hl hL (cS_cons (show can n from by unfold can; omega) hc) hbd)
theorem ok_sipush (hx : p.tables.exec = Jvm.exec) (hb : c.code = cc) {n : Int} (hd : decode cc q = .ok (.sipush n, 3)) (hn : -32768 ≤ n ∧ n ≤ 32767) (hk : Wat p l e R s0 m args below meth c Q D cT B0 G nL bud (q + 3) L (iv n :: S) T s cs) : Wat p l e R s0 m args below meth c Q D cT B0 G nL bud q L S T s cs :=
  fun φ H locs ls hS hl hL hc hbd => lv_sipush hx hb hd (i16_32 hn) (hk φ H locs ls hS hl hL (cS_cons (show can n from by unfold can; omega) hc) hbd)
theorem ok_lconst (hx : p.tables.exec = Jvm.exec) (hb : c.code = cc) {n : Fin 2} (hd : decode cc q = .ok (.lconst n, 1)) (hk : Wat p l e R s0 m args below meth c Q D cT B0 G nL bud (q + 1) L (jv (n.val : Int) :: S) T s cs) : Wat p l e R s0 m args below meth c Q D cT B0 G nL bud q L S T s cs :=
  fun φ H locs ls hS hl hL hc hbd => lv_lconst hx hb hd (v := Int64.ofInt (n.val : Int)) rfl (hk φ H locs ls hS hl hL (cS_cons (show canJ (n.val : Int) from by unfold canJ; omega) hc) hbd)
theorem ok_null (hx : p.tables.exec = Jvm.exec) (hb : c.code = cc) (hd : decode cc q = .ok (.aconst_null, 1)) (hk : Wat p l e R s0 m args below meth c Q D cT B0 G nL bud (q + 1) L (rv none :: S) T s cs) : Wat p l e R s0 m args below meth c Q D cT B0 G nL bud q L S T s cs :=
  fun φ H locs ls hS hl hL hc hbd => lv_null hx hb hd (hk φ H locs ls hS hl hL (cS_cons (okR_none T) hc) hbd)
theorem ok_dup (hx : p.tables.exec = Jvm.exec) (hb : c.code = cc) {v : mV} (hd : decode cc q = .ok (.dup, 1)) (hv : mcat v = 1) (hk : Wat p l e R s0 m args below meth c Q D cT B0 G nL bud (q + 1) L (v :: v :: S) T s cs) : Wat p l e R s0 m args below meth c Q D cT B0 G nL bud q L (v :: S) T s cs :=
  fun φ H locs ls hS hl hL hc hbd => lv_dup hx hb hd (by rw [cat_cv]; exact hv) (hk φ H locs ls hS hl hL (cS_cons (cS_head hc) hc) hbd)
theorem ok_dup2 (hx : p.tables.exec = Jvm.exec) (hb : c.code = cc) {v w : mV} (hd : decode cc q = .ok (.dup2, 1)) (hv : mcat v = 1) (hw : mcat w = 1) (hk : Wat p l e R s0 m args below meth c Q D cT B0 G nL bud (q + 1) L (v :: w :: v :: w :: S) T s cs) : Wat p l e R s0 m args below meth c Q D cT B0 G nL bud q L (v :: w :: S) T s cs :=
  fun φ H locs ls hS hl hL hc hbd => lv_dup2_11 hx hb hd (by rw [cat_cv]; exact hv) (by rw [cat_cv]; exact hw) (hk φ H locs ls hS hl hL (cS_cons (cS_head hc) (cS_cons (cS_head (cS_tail hc)) hc)) hbd)
theorem ok_pop (hx : p.tables.exec = Jvm.exec) (hb : c.code = cc) {v : mV} (hd : decode cc q = .ok (.pop, 1)) (hv : mcat v = 1) (hk : Wat p l e R s0 m args below meth c Q D cT B0 G nL bud (q + 1) L S T s cs) : Wat p l e R s0 m args below meth c Q D cT B0 G nL bud q L (v :: S) T s cs :=
  fun φ H locs ls hS hl hL hc hbd => lv_pop hx hb hd (by rw [cat_cv]; exact hv) (hk φ H locs ls hS hl hL (cS_tail hc) hbd)
end Simple
