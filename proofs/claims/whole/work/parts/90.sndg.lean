/-! ===== making cells; copying; constructors of nest mates; the words' ordinal ===== -/
section Make
variable {p : Program} {l : Launch} {e : Env} {R : Room} {s0 : State} {m : MethodId} {args : Array Value} {below : List Frame} {meth : Method} {c : Code} {Q : State → Prop} {D : va_G} {cT : Nat → ClassId} {B0 : Nat} {G : mG} {nL : Nat} {bud : Nat × Nat} {scr : Nat × (Nat → Int)} {Sx : State → Prop}
variable {cc : ByteArray} {q : Nat} {L : mL} {S : List mV} {T : mT} {s : mS} {cs : Nat × Nat} {own : String} {Ts : List Cond}
theorem ok_objInit (hx : p.tables.exec = Jvm.exec) (hb : c.code = cc) (hml : c.maxLocals = nL) (hown : s0.vm.findClass own = some m.cls) {idx t : Nat} (hlink : (Cond.methodLink own idx Lib.objectInit).before args s0 = true) (hinst : (Cond.instanceMethod Lib.objectInit).before args s0 = true) (hcode : (Cond.code Lib.objectInit ⟨#[0xb1]⟩ 1 none).before args s0 = true)
    (hd : decode cc q = .ok (.invokespecial idx, 3)) (hRf : 1 ≤ R.frames) (hRl : 64 ≤ R.locals) (hsum : msum S ≤ 8)
    (hk : Wat p l e R s0 m args below meth c Q D cT B0 G nL bud (q + 3) L S T s cs) : Wat p l e R s0 m args below meth c Q D cT B0 G nL bud q L (rv (some t) :: S) T s cs := by
  intro φ H locs ls hS hl hL hc hbd
  have kk := hk φ H locs ls hS hl hL (cS_tail hc) hbd
  refine W.objInit hx hb hown hlink hinst hcode (g := F0 m q ls (.ref (φ t) :: S.map (cv φ))) rfl (by rw [hml]; exact hl.1) rfl hd hRf ?_ (W.eq rfl kk)
  rw [sum_cv]
  show 2 * 0 + msum S + 12 ≤ R.locals
  omega
/-- a new cell at the end -/
theorem conc_push {φ : Nat → Nat} {T T' : mT} {s s' : mS} {a : Nat} (hcs : canS s) (hcT : canT T) (hn : T'.1 = T.1 + 1) (hsh : ∀ t, t ≠ T.1 → T'.2.1 t = T.2.1 t) (hR : ∀ t, t ≠ T.1 → T'.2.2 t = T.2.2 t) (hI : ∀ t, t ≠ T.1 → s'.1 t = s.1 t) (hJ : ∀ t, t ≠ T.1 → s'.2 t = s.2 t) :
    conc (fun i => if i = T.1 then a else φ i) cT T' s' = conc φ cT T s ++ [(a, cellE (fun i => if i = T.1 then a else φ i) cT T' s' T.1)] := by
  unfold conc
  rw [hn, List.range_succ, List.map_append]
  congr 1
  · apply List.map_congr_left
    intro t ht
    have ht : t < T.1 := List.mem_range.mp ht
    have hne : t ≠ T.1 := Nat.ne_of_lt ht
    have e1 : cellE (fun i => if i = T.1 then a else φ i) cT T' s' t = cellE (fun i => if i = T.1 then a else φ i) cT T s t := by
      have f1 : ∀ ci, fval (fun i => if i = T.1 then a else φ i) T' s' t ci = fval (fun i => if i = T.1 then a else φ i) T s t ci := by
        intro ci; funext k; unfold fval fvm; rw [hR t hne, hI t hne, hJ t hne]
      have f2 : ∀ tc, acon (fun i => if i = T.1 then a else φ i) T' s' t tc = acon (fun i => if i = T.1 then a else φ i) T s t tc := by
        intro tc; unfold acon; rw [hR t hne, hI t hne, hJ t hne]
      unfold cellE cellO cellA; rw [hsh t hne]; simp only [f1, f2]
    have e2 : cellE (fun i => if i = T.1 then a else φ i) cT T s t = cellE φ cT T s t := by
      refine cell_ok (fun i hi => ?_) hcs hcT t
      have : i ≠ T.1 := by
        have := hcT.1
        rcases hi with h | h
        · omega
        · omega
      simp [this]
    show (if t = T.1 then a else φ t, _) = _
    rw [if_neg hne, e1, e2]
  · simp
theorem ext_push {φ : Nat → Nat} {T : mT} {a : Nat} (hcT : canT T) : extF T φ (fun i => if i = T.1 then a else φ i) := by
  intro i hi
  have : i ≠ T.1 := by
    have := hcT.1
    rcases hi with h | h
    · omega
    · omega
  simp [this]
theorem Fx_push {φ : Nat → Nat} {T T' : mT} {a : Nat} (hf : Fx G φ T) (hcT : canT T) (hn : T.1 ≤ T'.1) : Fx G (fun i => if i = T.1 then a else φ i) T' := by
  have he := ext_push (φ := φ) (a := a) hcT
  exact ⟨fun i => (he (wB + i) (Or.inr (Nat.le_add_right _ _))).trans (hf.1 i), Nat.le_trans hf.2.1 hn, fun i hi => (he i (hi.imp (fun z => Nat.lt_of_lt_of_le z hf.2.1) id)).trans (hf.2.2 i hi)⟩
theorem okR_up {T T' : mT} (h : T.1 ≤ T'.1) {r : Option Nat} (hr : okR T r) : okR T' r := fun i hi => (hr i hi).imp (fun z => Nat.lt_of_lt_of_le z h) id
theorem canT_obj {ci n : Nat} (hcT : canT T) (hlt : T.1 + 1 < wB) (hsh : shOk (0, ci, n)) : canT (mkObj T s ci n).1 := by
  refine ⟨hlt, fun t k => ?_, fun t ht => ?_⟩
  · show okR (mkObj T s ci n).1 (if t = T.1 then none else T.2.2 t k)
    split
    · exact okR_none _
    · exact okR_up (Nat.le_succ _) (hcT.2.1 t k)
  · show shOk (if t = T.1 then (0, ci, n) else T.2.1 t)
    have ht : t < T.1 + 1 := ht
    split
    · exact hsh
    · exact hcT.2.2 t (by omega)
theorem canT_arr {tc n : Nat} (hcT : canT T) (hlt : T.1 + 1 < wB) (htk : tc = 1 ∨ tc = 2 ∨ tc = 3 ∨ tc = 4 ∨ tc = 6 ∨ tc = 7) (hn : n ≤ 10000) : canT (mkArr T s tc n).1 := by
  refine ⟨hlt, fun t k => ?_, fun t ht => ?_⟩
  · show okR (mkArr T s tc n).1 (if t = T.1 then none else T.2.2 t k)
    split
    · exact okR_none _
    · exact okR_up (Nat.le_succ _) (hcT.2.1 t k)
  · show shOk (if t = T.1 then (1, tc, n) else T.2.1 t)
    have ht : t < T.1 + 1 := ht
    split
    · exact Or.inr ⟨rfl, hn, htk⟩
    · exact hcT.2.2 t (by omega)
theorem can_fini (ci j : Nat) : can (fini ci j) := by
  unfold fini bsel can; split <;> omega
theorem canS_obj {ci n : Nat} (hcs : canS s) : canS (mkObj T s ci n).2 := by
  refine ⟨fun t k => ?_, fun t k => ?_⟩
  · show can (if t = T.1 then fini ci k else s.1 t k)
    split
    · exact can_fini ci k
    · exact hcs.1 t k
  · show canJ (if t = T.1 then 0 else s.2 t k)
    split
    · unfold canJ; omega
    · exact hcs.2 t k
theorem canS_arr {tc n : Nat} (hcs : canS s) : canS (mkArr T s tc n).2 := by
  refine ⟨fun t k => ?_, fun t k => ?_⟩
  · show can (if t = T.1 then 0 else s.1 t k)
    split
    · exact can_0
    · exact hcs.1 t k
  · show canJ (if t = T.1 then 0 else s.2 t k)
    split
    · unfold canJ; omega
    · exact hcs.2 t k
def dfv (f : Nat) : Value := match f with
  | 1 => .int 0
  | 15 => .int 0
  | 2 => .long 0
  | _ => .null
theorem dfv_ok : ∀ ci, ci < 11 → ∀ k, k < nF ci → defaultValue (tyX ci k) = dfv (fty ci k) := by decide +kernel
theorem fval_new {φ : Nat → Nat} {ci n : Nat} (k : Nat) : fval φ (mkObj T s ci n).1 (mkObj T s ci n).2 T.1 ci k = dfv (fty ci k) := by
  have e1 : (mkObj T s ci n).2.1 T.1 k = fini ci k := by simp [mkObj]
  have e2 : (mkObj T s ci n).2.2 T.1 k = 0 := by simp [mkObj]
  have e3 : (mkObj T s ci n).1.2.2 T.1 k = none := by simp [mkObj]
  unfold fval fvm
  rw [e1, e2, e3]
  unfold fini bsel dfv
  split
  · rename_i h; rw [h]; rfl
  · rename_i h; rw [h]; rfl
  · rename_i h; rw [h]; rfl
  · rename_i h; rw [h]; rfl
  · rename_i h1 h2 h3 h4
    split
    · exact absurd ‹_› h1
    · exact absurd ‹_› h2
    · exact absurd ‹_› h3
    · rfl
theorem ok_new (hx : p.tables.exec = Jvm.exec) (hb : c.code = cc) (hts : ∀ w ∈ Ts, w.before args s0 = true) (hin : ∀ ci, ci < 11 → ∀ w ∈ u_ws (clN ci) (tX ci) (nF ci), w ∈ Ts) (hown : s0.vm.findClass own = some m.cls) (hK : va_K D clL (tysL cT) s0) (hB0 : B0 ≤ s0.heap.size)
    {idx ci n : Nat} (hci : ci < 11) (hn : n = nF ci) (hcl : (Cond.classLink own idx (clN ci)).before args s0 = true) (hinst : (Cond.instantiable (clN ci) n).before args s0 = true) (hini : (Cond.initialized (clN ci)).before args s0 = true) (hd : decode cc q = .ok (.new idx, 3)) (hlt : T.1 + 1 < wB) (hb1 : cs.1 + 1 ≤ bud.1) (hb2 : cs.2 + n ≤ bud.2) (hRc : bud.1 ≤ R.cells) (hRs : bud.2 ≤ R.slots)
    (hk : Wat p l e R s0 m args below meth c Q D cT B0 G nL bud (q + 3) L (rv (some T.1) :: S) (mkObj T s ci n).1 (mkObj T s ci n).2 (cs.1 + 1, cs.2 + n)) : Wat p l e R s0 m args below meth c Q D cT B0 G nL bud q L S T s cs := by
  subst hn
  intro φ H locs ls hS hl hL hc hbd
  obtain ⟨hP, hD, hSS, hcs, hcT, hf⟩ := hS
  refine va_new (ci := ci) (fs := (List.range (nF ci)).map (fun k => dfv (fty ci k))) hx hb hts (hin ci hci) (tyX ci) (tyX_ok ci hci) hown hcl hinst hini hK hP hD hSS (fun q h => Nat.le_trans hB0 h) (clL_get ci hci) (fun j hj => ?_) (Nat.le_trans hb1 hRc) (Nat.le_trans hb2 hRs) hd (fun a H1 hP1 hD1 hS1 => ?_)
  · rw [dfv_ok ci hci j hj]; simp [vp_V, hj]
  · have ec : conc (fun i => if i = T.1 then a else φ i) cT (mkObj T s ci (nF ci)).1 (mkObj T s ci (nF ci)).2 = conc φ cT T s ++ [(a, .inr (ci, (List.range (nF ci)).map (fun k => dfv (fty ci k))))] := by
      rw [conc_push (a := a) (φ := φ) hcs hcT rfl (fun t h => by simp [mkObj, h]) (fun t h => by funext k; simp [mkObj, h]) (fun t h => by funext k; simp [mkObj, h]) (fun t h => by funext k; simp [mkObj, h])]
      congr 2
      have e0 : (mkObj T s ci (nF ci)).1.2.1 T.1 = (0, ci, nF ci) := by simp [mkObj]
      unfold cellE
      rw [e0]
      show ((_, cellO _ _ _ _ _ _) : Nat × va_E) = _
      unfold cellO
      congr 3
      apply List.map_congr_left
      intro k _
      exact fval_new k
    have k := hk (fun i => if i = T.1 then a else φ i) H1 locs ls ⟨by rw [ec]; exact hP1, by rw [ec]; exact hD1, hS1, canS_obj hcs, canT_obj hcT hlt (Or.inl ⟨rfl, hci, rfl⟩), Fx_push hf hcT (Nat.le_succ _)⟩ (by rw [cvp_ok (ext_push hcT) hL]; exact hl) (fun q hq => canV_mono (Nat.le_succ _) (hL q hq)) (cS_cons (show okR _ _ from fun i hi => by cases hi; exact Or.inl (Nat.lt_succ_self _)) (fun v hv => canV_mono (Nat.le_succ _) (hc v hv))) ⟨hb1, hb2⟩
    have e9 : (rv (some T.1) :: S).map (cv (fun i => if i = T.1 then a else φ i)) = .ref a :: S.map (cv φ) := by
      rw [List.map_cons, cvs_ok (ext_push hcT) hc]
      congr 1
      simp [cv, va_rf]
    rw [e9] at k
    exact k
/-- an array of numbers -/
theorem ok_newa (hx : p.tables.exec = Jvm.exec) (hb : c.code = cc) (hK : va_K D clL (tysL cT) s0) (hB0 : B0 ≤ s0.heap.size)
    {at_ : ArrayType} {ty : FieldType} {t0 tc : Nat} {n : Int} (htk : tc = 1 ∨ tc = 2 ∨ tc = 3 ∨ tc = 4 ∨ tc = 6 ∨ tc = 7) (hty : newarray.typeOf at_ = ty) (harr : (Cond.arrayClass ty).before args s0 = true) (ht0 : (tysL cT)[t0]? = some (cT tc, ty)) (hcy : componentBytes ty ≤ 8) (hra : ∀ (U : State) (cA : ClassId), va_RA U cA ty → U.vm.findClass ("[" ++ ty.toString) = some cA)
    (hcell : ∀ (φ : Nat → Nat) (T : mT) (s : mS) (t N : Nat) (cA : ClassId), (∀ j, s.1 t j = 0) → (∀ j, s.2 t j = 0) → vp_cell cA (N, acon φ T s t tc) = arrV cA N (fun _ => defaultValue ty)) (hd : decode cc q = .ok (.newarray at_, 2)) (hn : 0 ≤ n) (hn2 : n.toNat ≤ 10000) (hlt : T.1 + 1 < wB) (hb1 : cs.1 + 1 ≤ bud.1) (hb2 : cs.2 + n.toNat ≤ bud.2) (hRc : bud.1 ≤ R.cells) (hRs : bud.2 ≤ R.slots)
    (hk : Wat p l e R s0 m args below meth c Q D cT B0 G nL bud (q + 2) L (rv (some T.1) :: S) (mkArr T s tc n.toNat).1 (mkArr T s tc n.toNat).2 (cs.1 + 1, cs.2 + n.toNat)) : Wat p l e R s0 m args below meth c Q D cT B0 G nL bud q L (iv n :: S) T s cs := by
  intro φ H locs ls hS hl hL hc hbd
  obtain ⟨hP, hD, hSS, hcs, hcT, hf⟩ := hS
  have hcn : can n := cS_head hc
  have hc := cS_tail hc
  have hnn : ¬ Int32.ofInt n < 0 := by
    intro h; have := (i32_lt hcn can_0).mp h; omega
  refine va_newa (a0 := (n.toNat, acon φ (mkArr T s tc n.toNat).1 (mkArr T s tc n.toNat).2 T.1 tc)) hx hb (by rw [hty]; exact harr) hty hK hP hD hSS (fun q h => Nat.le_trans hB0 h) (fun cA => hcell _ _ _ _ _ _ (fun j => by simp [mkArr]) (fun j => by simp [mkArr])) hnn (i32_clamp hcn) (by
    have : n.toNat * componentBytes ty ≤ 10000 * 8 := Nat.mul_le_mul hn2 hcy
    omega) (Nat.le_trans hb1 hRc) (Nat.le_trans hb2 hRs) hd (fun a cA H1 hK1 hP1 hD1 hS1 => ?_)
  have hcA : cA = cT tc := by
    have h1 := hra s0 cA ((hK1.2 (tysL cT).length (cA, ty) (by simp)).2)
    have h2 := hra s0 (cT tc) ((hK.2 t0 _ ht0).2)
    exact Option.some.inj (h1.symm.trans h2)
  subst hcA
  have ec : conc (fun i => if i = T.1 then a else φ i) cT (mkArr T s tc n.toNat).1 (mkArr T s tc n.toNat).2 = conc φ cT T s ++ [(a, .inl (cT tc, n.toNat, acon φ (mkArr T s tc n.toNat).1 (mkArr T s tc n.toNat).2 T.1 tc))] := by
    rw [conc_push (a := a) (φ := φ) hcs hcT rfl (fun t h => by simp [mkArr, h]) (fun t h => by funext k; simp [mkArr, h]) (fun t h => by funext k; simp [mkArr, h]) (fun t h => by funext k; simp [mkArr, h])]
    congr 2
    have e0 : (mkArr T s tc n.toNat).1.2.1 T.1 = (1, tc, n.toNat) := by simp [mkArr]
    unfold cellE
    rw [e0]
    show ((_, cellA _ _ _ _ _ _ _) : Nat × va_E) = _
    unfold cellA
    congr 4
    unfold acon
    have e1 : (fun j => ((mkArr T s tc n.toNat).1.2.2 T.1 j).map (fun i => if i = T.1 then a else φ i)) = (fun j => ((mkArr T s tc n.toNat).1.2.2 T.1 j).map φ) := by
      funext j; simp [mkArr]
    rw [e1]
  have k := hk (fun i => if i = T.1 then a else φ i) H1 locs ls ⟨by rw [ec]; exact hP1, by rw [ec]; exact hD1, hS1, canS_arr hcs, canT_arr hcT hlt htk hn2, Fx_push hf hcT (Nat.le_succ _)⟩ (by rw [cvp_ok (ext_push hcT) hL]; exact hl) (fun q hq => canV_mono (Nat.le_succ _) (hL q hq)) (cS_cons (show okR _ _ from fun i hi => by cases hi; exact Or.inl (Nat.lt_succ_self _)) (fun v hv => canV_mono (Nat.le_succ _) (hc v hv))) ⟨hb1, hb2⟩
  have e9 : (rv (some T.1) :: S).map (cv (fun i => if i = T.1 then a else φ i)) = .ref a :: S.map (cv φ) := by
    rw [List.map_cons, cvs_ok (ext_push hcT) hc]
    congr 1
    simp [cv, va_rf]
  rw [e9] at k
  exact k
end Make
