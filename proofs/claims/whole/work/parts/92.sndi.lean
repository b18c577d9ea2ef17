/-! ===== the pool's entries, and one step of the small machine ===== -/
def atT (i : Nat) (w : Cond) : Bool := decide (lw_tbl[i]? = some w) && goodWord w
theorem atT_mem {i : Nat} {w : Cond} (h : atT i w = true) : w ∈ Tw := by
  simp only [atT, Bool.and_eq_true, decide_eq_true_eq] at h
  exact List.mem_filter.mpr ⟨List.mem_of_getElem? h.1, h.2⟩
def fldB (own : String) (i a b : Nat) (ix : List Nat) : Bool := decide (a < 11) && (decide (b < nF a) && atT (ix.getD 0 0) (.fieldLink own i (tX a b).1 (tX a b).2.1 (tX a b).2.2.1))
def stC (a : Nat) : String := match a with
  | 101 => "LentBoxes$1"
  | _ => "LentBoxes$Word"
def stN (a : Nat) : String := match a with
  | 100 => "ALL"
  | 101 => "$SwitchMap$LentBoxes$Word"
  | _ => wNm a
def stD (a : Nat) : String := match a with
  | 100 => "[LLentBoxes$Word;"
  | 101 => "[I"
  | _ => "LLentBoxes$Word;"
def ordX : MethodName := ⟨"LentBoxes$Word", "ordinal", "()I"⟩
def callB (own : String) (i j : Nat) (ix : List Nat) : Bool := atT (ix.getD 0 0) (.methodLink own i (yy j)) && (atT (ix.getD 1 0) (.initialized (yy j).cls) && atT (ix.getD 2 0) (.code (yy j) (bb j) (mx j) (rt j)))
def entB (own : String) (i k a b : Nat) (ix : List Nat) : Bool := match k with
  | 1 => fldB own i a b ix && (decide (fty a b = 1) && (decide ((tX a b).2.2.2 = false) && decide (tyX a b = .int)))
  | 15 => fldB own i a b ix && (decide (fty a b = 15) && (decide ((tX a b).2.2.2 = false) && decide (tyX a b = .boolean)))
  | 2 => fldB own i a b ix && (decide (fty a b = 2) && (decide ((tX a b).2.2.2 = false) && decide (tyX a b = .long)))
  | 4 => fldB own i a b ix && (decide (fty a b = 4) && (decide ((tX a b).2.2.2 = false) && decide (tyX a b = .object "LentBoxes$Word")))
  | 3 => fldB own i a b ix && (decide (fty a b = 3) && (decide ((tX a b).2.2.2 = true) && decide (tyX a b = .object (clN (rcls a b)))))
  | 16 => fldB own i a b ix && (decide (fty a b = 16) && (decide ((tX a b).2.2.2 = true) && (match tyX a b with | .array _ => true | _ => false)))
  | 5 => match a with
    | 0 => atT (ix.getD 0 0) (.fieldLink own i "LentBoxes$Word" "letters" "J")
    | 1 => atT (ix.getD 0 0) (.fieldLink own i "java/lang/Enum" "ordinal" "I")
    | _ => true
  | 6 => atT (ix.getD 0 0) (.fieldLink own i (stC a) (stN a) (stD a)) && (decide (a < 24) || (decide (a = 100) || decide (a = 101)))
  | 7 => callB own i a ix && (atT (ix.getD 3 0) (.instanceMethod (yy a)) && (atT (ix.getD 4 0) (.selects (yy a).cls (yy a) (yy a)) && (yOk a b && decide ((yy a).cls = clN (jcl a)))))
  | 8 => match a with
    | 26 => atT (ix.getD 0 0) (.methodLink own i ordX) && (atT (ix.getD 1 0) (.initialized (yy 26).cls) && (atT (ix.getD 2 0) (.code (yy 26) (bb 26) (mx 26) (rt 26)) && (atT (ix.getD 3 0) (.instanceMethod (yy 26)) && (atT (ix.getD 4 0) (.selects "LentBoxes$Word" ordX (yy 26)) && (atT (ix.getD 5 0) (.sameMethod "LentBoxes$Word" "java/lang/Enum" "ordinal" "()I") && decide (b = 0))))))
    | _ => callB own i a ix && (atT (ix.getD 3 0) (.instanceMethod (yy a)) && (atT (ix.getD 4 0) (.selects (yy a).cls (yy a) (yy a)) && (yOk a b && (decide ((yy a).cls = "java/lang/String") && decide (jcl a = 2)))))
  | 9 => callB own i a ix && (atT (ix.getD 3 0) (.static (yy a)) && yOk a b)
  | 10 => callB own i a ix && (atT (ix.getD 3 0) (.instanceMethod (yy a)) && (yOk a b && (decide (rt a = none) && decide ((yy a).name = "<init>"))))
  | 18 => atT (ix.getD 1 0) (.initialized (yy a).cls) && (atT (ix.getD 2 0) (.code (yy a) (bb a) (mx a) (rt a)) && (atT (ix.getD 3 0) (.instanceMethod (yy a)) && (yOk a b && (decide (rt a = none) && (decide ((yy a).name = "<init>") && (decide ((own, i, jcl a) ∈ nestL) && decide (yy a = nestY (jcl a))))))))
  | 11 => atT (ix.getD 0 0) (.methodLink own i Lib.objectInit) && (atT (ix.getD 1 0) (.instanceMethod Lib.objectInit) && atT (ix.getD 2 0) (.code Lib.objectInit ⟨#[0xb1]⟩ 1 none))
  | 12 => atT (ix.getD 0 0) (.methodLink own i arraycopyName) && (atT (ix.getD 1 0) (.native arraycopyName) && (atT (ix.getD 2 0) (.static arraycopyName) && atT (ix.getD 3 0) (.initialized "java/lang/System")))
  | 13 => atT (ix.getD 0 0) (.classLink own i (clN a)) && (atT (ix.getD 1 0) (.instantiable (clN a) b) && (atT (ix.getD 2 0) (.initialized (clN a)) && (decide (a < 11) && decide (b = nF a))))
  | 25 => atT (ix.getD 0 0) (.constant own i (Int32.ofInt (a : Int))) && decide (a < 2147483648)
  | 26 => atT (ix.getD 0 0) (.constantLong own i (Int64.ofInt (a : Int))) && decide (a < 4611686018427387904)
  | 27 => decide (own = "LentBoxes") && (decide (200 ≤ a) && (decide (a < 204) && decide (i = strI (a - 200))))
  | _ => true
def resB (own : String) : List (Nat × Nat × Nat × Nat) → List (List Nat) → Bool
  | [], _ => true
  | (i, k, a, b) :: rs, ix :: ixs => entB own i k a b ix && resB own rs ixs
  | _ :: _, [] => false
theorem resB_look {own : String} {x k a b : Nat} : ∀ (rs : List (Nat × Nat × Nat × Nat)) (ixs : List (List Nat)), resB own rs ixs = true → rlook rs x = (k, a, b) → k = 0 ∨ ∃ ix, entB own x k a b ix = true
  | [], _, _, h => by
    unfold rlook at h; cases h; exact Or.inl rfl
  | (i, r) :: rs, [], h, _ => by simp [resB] at h
  | (i, k', a', b') :: rs, ix :: ixs, h, hl => by
    simp only [resB, Bool.and_eq_true] at h
    unfold rlook at hl
    cases hb : Nat.beq i x with
    | true =>
      rw [hb] at hl
      have e : i = x := Nat.eq_of_beq_eq_true hb
      subst e
      cases hl
      exact Or.inr ⟨ix, h.1⟩
    | false =>
      rw [hb] at hl
      exact resB_look rs ixs h.2 hl
theorem fldB_spec {own : String} {i a b : Nat} {ix : List Nat} (h : fldB own i a b ix = true) : a < 11 ∧ b < nF a ∧ Cond.fieldLink own i (tX a b).1 (tX a b).2.1 (tX a b).2.2.1 ∈ Tw := by
  simp only [fldB, Bool.and_eq_true, decide_eq_true_eq] at h
  exact ⟨h.1, h.2.1, atT_mem h.2.2⟩
theorem callB_spec {own : String} {i j : Nat} {ix : List Nat} (h : callB own i j ix = true) : Cond.methodLink own i (yy j) ∈ Tw ∧ Cond.initialized (yy j).cls ∈ Tw ∧ Cond.code (yy j) (bb j) (mx j) (rt j) ∈ Tw := by
  simp only [callB, Bool.and_eq_true] at h
  exact ⟨atT_mem h.1, atT_mem h.2.1, atT_mem h.2.2⟩
/-- the instruction's length, and its targets -/
def tgOk (q : Nat) (ins : Instr) (len : Nat) (tg : List Nat) : Bool := match ins with
  | .aload _ | .iload _ | .lload _ | .astore _ | .istore _ | .lstore _ | .bipush _ | .ldc _ | .newarray _ => Nat.beq len 2
  | .iinc _ _ | .sipush _ | .ldc_w _ | .ldc2_w _ | .getfield _ | .putfield _ | .getstatic _ | .invokevirtual _ | .invokestatic _ | .invokespecial _ | .new _ | .anewarray _ => Nat.beq len 3
  | .ifCond _ o | .if_icmp _ o | .if_acmp _ o | .ifnull o | .ifnonnull o | .goto o => Nat.beq len 3 && decide ((q : Int) + o = ((tg.headD 0 : Nat) : Int))
  | .tableswitch d lo hi offs => decide ((q : Int) + d = ((tg.headD 0 : Nat) : Int)) && (decide (hi + 1 - lo = (tg.tail.length : Int)) && decide (offs.toList.map (fun o => (q : Int) + o) = tg.tail.map (fun t : Nat => (t : Int))))
  | .lookupswitch d ps => decide ((q : Int) + d = ((tg.headD 0 : Nat) : Int)) && ((ps.toList.zip (ps.toList.drop 1)).all (fun (a, next) => a.1 < next.1) && decide (ps.toList.map (fun e => (q : Int) + e.2) = tg.tail.map (fun t : Nat => (t : Int))))
  | _ => Nat.beq len 1
/-- each row of a method's code is what its bytes decode to -/
def codeOk (cc : ByteArray) (cd : List mI) : Prop := ∀ r ∈ cd, decode cc r.1 = .ok (r.2.1, r.2.2.1) ∧ tgOk r.1 r.2.1 r.2.2.1 r.2.2.2 = true
section Ex
variable (p : Program) (l : Launch) (e : Env) (R : Room) (s0 : State) (m : MethodId) (args : Array Value) (below : List Frame) (meth : Method) (c : Code) (Q : State → Prop) (D : va_G) (cT : Nat → ClassId) (B0 : Nat) (G : mG) (nL : Nat) (bud : Nat × Nat) (scr : Nat × (Nat → Int)) (own : String) (rs : List (Nat × Nat × Nat × Nat)) (cc : ByteArray) (d : Nat)
def Cxt : Prop := p.tables.exec = Jvm.exec ∧ c.code = cc ∧ c.maxLocals = nL ∧ s0.vm.findClass own = some m.cls ∧ (∀ w ∈ Tw, w.before args s0 = true) ∧ va_K D clL (tysL cT) s0 ∧ SxW B0 G.1 scr s0 ∧ B0 ≤ s0.heap.size ∧ (∃ ixs, resB own rs ixs = true) ∧ (d + 1 ≤ R.frames ∧ 64 * (d + 1) ≤ R.locals) ∧ bud.1 ≤ R.cells ∧ bud.2 ≤ R.slots ∧ ∀ ci, ci < 11 → ∀ w ∈ u_ws (clN ci) (tX ci) (nF ci), w ∈ Tw
def CalOk {α : Type} (T : mT) (cal : mCal α) : Prop := ∀ (j : Nat) (as : List mV) (s : mS), msum as ≤ jmx j → ∀ (kk : Int → mT → mS → Option α) (o : α), cal j as T s kk = some o → ∃ x T' s', kk x T' s' = some o ∧ (canS s → canT T → (∀ v ∈ as, canV T v) → MetJ D cT B0 G.1 (SxW B0 G.1 scr) l d j as T s x T' s')
def retIns (rk : Nat) : Instr := match rk with
  | 0 => .return_
  | 2 => .lreturn
  | 3 => .areturn
  | _ => .ireturn
def rgOk (rk : Nat) (x : Int) : Prop := match rk with
  | 4 => x = 0 ∨ x = 1
  | 5 => 0 ≤ x ∧ x < 65536
  | 6 => -128 ≤ x ∧ x < 128
  | _ => True
def RetOk (rk : Nat) (x : Int) (T : mT) (s : mS) : Prop := ∀ (φ : Nat → Nat) (H : Heap) (locs : List Loc) (ls : Array Slot) (pc : Nat), St8 D cT B0 G s0 φ T s H locs → canX rk x → rgOk rk x → decode cc pc = .ok (retIns rk, 1) → W p l e R s0 m args below meth c H locs bud.1 bud.2 Q (F0 m pc ls (rvO φ rk x).toList)
end Ex
