/-! ===== the four kinds of call ===== -/
/-- the callee's name is plain, and it takes n values -/
def yOk (j n : Nat) : Bool := decide ((yy j).cls ≠ "java/lang/invoke/MethodHandle") && (decide ((yy j).cls ≠ "java/lang/invoke/VarHandle") && (decide ((parseMethodDescriptor (yy j).desc).map (fun d => d.parameters.length) = some n) && Nat.ble (mx j) 45))
theorem yOk_spec {j n : Nat} (h : yOk j n = true) : (yy j).cls ≠ "java/lang/invoke/MethodHandle" ∧ (yy j).cls ≠ "java/lang/invoke/VarHandle" ∧ (parseMethodDescriptor (yy j).desc).map (fun d => d.parameters.length) = some n ∧ mx j ≤ 45 := by
  simp only [yOk, Bool.and_eq_true, decide_eq_true_eq] at h
  exact ⟨h.1, h.2.1, h.2.2.1, Nat.le_of_ble_eq_true h.2.2.2⟩
section Calls2
variable {p : Program} {l : Launch} {e : Env} {R : Room} {s0 : State} {m : MethodId} {args : Array Value} {below : List Frame} {meth : Method} {c : Code} {Q : State → Prop} {D : va_G} {cT : Nat → ClassId} {B0 : Nat} {G : mG} {nL : Nat} {bud : Nat × Nat} {Sx : State → Prop}
variable {cc : ByteArray} {q : Nat} {L : mL} {S : List mV} {T : mT} {s : mS} {cs : Nat × Nat} {own : String}
theorem cbJ {d j n idx : Nat} (hts : ∀ w ∈ Tw, w.before args s0 = true) (hcode : Cond.code (yy j) (bb j) (mx j) (rt j) ∈ Tw) (hini : (Cond.initialized (yy j).cls).before args s0 = true) (hlink : (Cond.methodLink own idx (yy j)).before args s0 = true) (hy : yOk j n = true) (hR : d + 1 ≤ R.frames ∧ 64 * (d + 1) ≤ R.locals) :
    CallB R s0 args own idx (yy j) (bb j) (mx j) (rt j) (wsJ j) (rmJ d j) (jcost j).1 (jcost j).2 n := by
  obtain ⟨y1, y2, y3, y4⟩ := yOk_spec hy
  exact callB_of n hts (goodJ hcode) rfl rfl rfl hini hlink ⟨y1, y2, y3⟩ ⟨hR.1, by show 8 + (mx j + 11) + 64 * d ≤ R.locals; omega⟩
theorem ok_callV (hx : p.tables.exec = Jvm.exec) (hb : c.code = cc) (hml : c.maxLocals = nL) (hts : ∀ w ∈ Tw, w.before args s0 = true) (hown : s0.vm.findClass own = some m.cls) (hK : va_K D clL (tysL cT) s0) (hst : Still B0 Sx) (hSx : Sx s0) (hB0 : B0 ≤ s0.heap.size)
    {d j n idx t : Nat} {as : List mV} {x : Int} {T' : mT} {s' : mS} (hd : decode cc q = .ok (.invokevirtual idx, 3)) (hcode : Cond.code (yy j) (bb j) (mx j) (rt j) ∈ Tw) (hini : (Cond.initialized (yy j).cls).before args s0 = true) (hlink : (Cond.methodLink own idx (yy j)).before args s0 = true) (hinst : (Cond.instanceMethod (yy j)).before args s0 = true) (hsel : (Cond.selects (yy j).cls (yy j) (yy j)).before args s0 = true) (hy : yOk j n = true) (hR : d + 1 ≤ R.frames ∧ 64 * (d + 1) ≤ R.locals) (hn : as.length = n)
    (hcl : (yy j).cls = clN (jcl j)) (h0 : (T.2.1 t).1 = 0) (h1 : (T.2.1 t).2.1 = jcl j) (ht : t < T.1) (hsum : msum S ≤ 8) (hb1 : cs.1 + (jcost j).1 ≤ bud.1) (hb2 : cs.2 + (jcost j).2 ≤ bud.2) (hRc : bud.1 ≤ R.cells) (hRs : bud.2 ≤ R.slots)
    (hM : canS s → canT T → (∀ v ∈ rv (some t) :: as, canV T v) → MetJ D cT B0 G.1 Sx l d j (rv (some t) :: as) T s x T' s')
    (hk : Wat p l e R s0 m args below meth c Q D cT B0 G nL bud (q + 3) L (rvals (jsd j) x ++ S) T' s' (cs.1 + (jcost j).1, cs.2 + (jcost j).2)) :
    Wat p l e R s0 m args below meth c Q D cT B0 G nL bud q L (as.reverse ++ rv (some t) :: S) T s cs := by
  intro φ H locs ls hS hl hL hc hbd
  have hc1 : ∀ v ∈ rv (some t) :: as, canV T v := fun v hv => hc v (by
    rcases List.mem_cons.mp hv with rfl | hv
    · exact List.mem_append_right _ List.mem_cons_self
    · exact List.mem_append_left _ (List.mem_reverse.mpr hv))
  have hc2 : ∀ v ∈ S, canV T v := fun v hv => hc v (List.mem_append_right _ (List.mem_cons_of_mem _ hv))
  have hM := hM hS.2.2.2.1 hS.2.2.2.2.1 hc1
  obtain ⟨hci, h2⟩ := sh_obj hS.2.2.2.2.1 ht h0 h1
  have hrec := va_recv hK hS.1 (clL_get (jcl j) hci) (conc_obj (φ := φ) (cT := cT) (s := s) ht h0 h1 h2)
  rw [← hcl] at hrec
  refine ok_after hS hl hL hc2 hb1 hb2 (va_runV (C := (yy j).cls) (b := φ t) (As := as.map (cv φ)) (rest := S.map (cv φ)) ⟨hx, hb, hml, hown, hts⟩ (hM φ) ⟨cbJ hts hcode hini hlink hy hR, hinst, hsel⟩ ⟨blindP hst, hrec, preP hst hSx hB0 hK hS⟩ rfl (by rw [List.length_map]; exact hn) hl.1 ?_ ?_ hd ⟨Nat.le_trans hb1 hRc, Nat.le_trans hb2 hRs⟩) hk
  · show (as.reverse ++ rv (some t) :: S).map (cv φ) = _
    rw [List.map_append, List.map_reverse]; rfl
  · exact lv_room (by rw [sum_cv]; exact hsum)
theorem ok_callS (hx : p.tables.exec = Jvm.exec) (hb : c.code = cc) (hml : c.maxLocals = nL) (hts : ∀ w ∈ Tw, w.before args s0 = true) (hown : s0.vm.findClass own = some m.cls) (hK : va_K D clL (tysL cT) s0) (hst : Still B0 Sx) (hSx : Sx s0) (hB0 : B0 ≤ s0.heap.size)
    {d j n idx : Nat} {as : List mV} {x : Int} {T' : mT} {s' : mS} (hd : decode cc q = .ok (.invokestatic idx, 3)) (hcode : Cond.code (yy j) (bb j) (mx j) (rt j) ∈ Tw) (hini : (Cond.initialized (yy j).cls).before args s0 = true) (hlink : (Cond.methodLink own idx (yy j)).before args s0 = true) (hstat : (Cond.static (yy j)).before args s0 = true) (hy : yOk j n = true) (hR : d + 1 ≤ R.frames ∧ 64 * (d + 1) ≤ R.locals) (hn : as.length = n)
    (hsum : msum S ≤ 8) (hb1 : cs.1 + (jcost j).1 ≤ bud.1) (hb2 : cs.2 + (jcost j).2 ≤ bud.2) (hRc : bud.1 ≤ R.cells) (hRs : bud.2 ≤ R.slots)
    (hM : canS s → canT T → (∀ v ∈ as, canV T v) → MetJ D cT B0 G.1 Sx l d j as T s x T' s')
    (hk : Wat p l e R s0 m args below meth c Q D cT B0 G nL bud (q + 3) L (rvals (jsd j) x ++ S) T' s' (cs.1 + (jcost j).1, cs.2 + (jcost j).2)) :
    Wat p l e R s0 m args below meth c Q D cT B0 G nL bud q L (as.reverse ++ S) T s cs := by
  intro φ H locs ls hS hl hL hc hbd
  have hc1 : ∀ v ∈ as, canV T v := fun v hv => hc v (List.mem_append_left _ (List.mem_reverse.mpr hv))
  have hc2 : ∀ v ∈ S, canV T v := fun v hv => hc v (List.mem_append_right _ hv)
  have hM := hM hS.2.2.2.1 hS.2.2.2.2.1 hc1
  refine ok_after hS hl hL hc2 hb1 hb2 (va_runS (As := as.map (cv φ)) (rest := S.map (cv φ)) ⟨hx, hb, hml, hown, hts⟩ (hM φ) ⟨cbJ hts hcode hini hlink hy hR, hstat⟩ ⟨blindP hst, preP hst hSx hB0 hK hS⟩ rfl (by rw [List.length_map]; exact hn) hl.1 ?_ ?_ hd ⟨Nat.le_trans hb1 hRc, Nat.le_trans hb2 hRs⟩) hk
  · show (as.reverse ++ S).map (cv φ) = _
    rw [List.map_append, List.map_reverse]
  · exact lv_room (by rw [sum_cv]; exact hsum)
/-- a receiver that stands still: the method is the receiver's class's own -/
theorem ok_callV2 (hx : p.tables.exec = Jvm.exec) (hb : c.code = cc) (hml : c.maxLocals = nL) (hts : ∀ w ∈ Tw, w.before args s0 = true) (hown : s0.vm.findClass own = some m.cls) (hK : va_K D clL (tysL cT) s0) (hst : Still B0 Sx) (hSx : Sx s0) (hB0 : B0 ≤ s0.heap.size)
    {d j n idx t : Nat} {as : List mV} {x : Int} {T' : mT} {s' : mS} (hd : decode cc q = .ok (.invokevirtual idx, 3)) (hcode : Cond.code (yy j) (bb j) (mx j) (rt j) ∈ Tw) (hini : (Cond.initialized (yy j).cls).before args s0 = true) (hlink : (Cond.methodLink own idx (yy j)).before args s0 = true) (hinst : (Cond.instanceMethod (yy j)).before args s0 = true) (hsel : (Cond.selects (yy j).cls (yy j) (yy j)).before args s0 = true) (hy : yOk j n = true) (hR : d + 1 ≤ R.frames ∧ 64 * (d + 1) ≤ R.locals) (hn : as.length = n)
    (hrec : ∀ (φ : Nat → Nat) (H : Heap) (locs : List Loc), St8 D cT B0 G s0 φ T s H locs → ∃ cellB : Cell, H[φ t]? = some cellB ∧ cellB.vm.isStatics = false ∧ s0.vm.findClass (yy j).cls = some cellB.cls) (hsum : msum S ≤ 8) (hb1 : cs.1 + (jcost j).1 ≤ bud.1) (hb2 : cs.2 + (jcost j).2 ≤ bud.2) (hRc : bud.1 ≤ R.cells) (hRs : bud.2 ≤ R.slots)
    (hM : canS s → canT T → (∀ v ∈ rv (some t) :: as, canV T v) → MetJ D cT B0 G.1 Sx l d j (rv (some t) :: as) T s x T' s')
    (hk : Wat p l e R s0 m args below meth c Q D cT B0 G nL bud (q + 3) L (rvals (jsd j) x ++ S) T' s' (cs.1 + (jcost j).1, cs.2 + (jcost j).2)) :
    Wat p l e R s0 m args below meth c Q D cT B0 G nL bud q L (as.reverse ++ rv (some t) :: S) T s cs := by
  intro φ H locs ls hS hl hL hc hbd
  have hc1 : ∀ v ∈ rv (some t) :: as, canV T v := fun v hv => hc v (by
    rcases List.mem_cons.mp hv with rfl | hv
    · exact List.mem_append_right _ List.mem_cons_self
    · exact List.mem_append_left _ (List.mem_reverse.mpr hv))
  have hc2 : ∀ v ∈ S, canV T v := fun v hv => hc v (List.mem_append_right _ (List.mem_cons_of_mem _ hv))
  have hM := hM hS.2.2.2.1 hS.2.2.2.2.1 hc1
  refine ok_after hS hl hL hc2 hb1 hb2 (va_runV (C := (yy j).cls) (b := φ t) (As := as.map (cv φ)) (rest := S.map (cv φ)) ⟨hx, hb, hml, hown, hts⟩ (hM φ) ⟨cbJ hts hcode hini hlink hy hR, hinst, hsel⟩ ⟨blindP hst, hrec φ H locs hS, preP hst hSx hB0 hK hS⟩ rfl (by rw [List.length_map]; exact hn) hl.1 ?_ ?_ hd ⟨Nat.le_trans hb1 hRc, Nat.le_trans hb2 hRs⟩) hk
  · show (as.reverse ++ rv (some t) :: S).map (cv φ) = _
    rw [List.map_append, List.map_reverse]; rfl
  · exact lv_room (by rw [sum_cv]; exact hsum)
/-- a constructor -/
theorem ok_callI (hx : p.tables.exec = Jvm.exec) (hb : c.code = cc) (hml : c.maxLocals = nL) (hts : ∀ w ∈ Tw, w.before args s0 = true) (hown : s0.vm.findClass own = some m.cls) (hK : va_K D clL (tysL cT) s0) (hst : Still B0 Sx) (hSx : Sx s0) (hB0 : B0 ≤ s0.heap.size)
    {d j n idx t : Nat} {as : List mV} {x : Int} {T' : mT} {s' : mS} (hd : decode cc q = .ok (.invokespecial idx, 3)) (hcode : Cond.code (yy j) (bb j) (mx j) none ∈ Tw) (hrt : rt j = none) (hini : (Cond.initialized (yy j).cls).before args s0 = true) (hlink : (Cond.methodLink own idx (yy j)).before args s0 = true) (hinst : (Cond.instanceMethod (yy j)).before args s0 = true) (hnm : (yy j).name = "<init>") (hy : yOk j n = true) (hR : d + 1 ≤ R.frames ∧ 64 * (d + 1) ≤ R.locals) (hn : as.length = n)
    (hsum : msum S ≤ 8) (hb1 : cs.1 + (jcost j).1 ≤ bud.1) (hb2 : cs.2 + (jcost j).2 ≤ bud.2) (hRc : bud.1 ≤ R.cells) (hRs : bud.2 ≤ R.slots)
    (hM : canS s → canT T → (∀ v ∈ rv (some t) :: as, canV T v) → MetJ D cT B0 G.1 Sx l d j (rv (some t) :: as) T s x T' s')
    (hk : Wat p l e R s0 m args below meth c Q D cT B0 G nL bud (q + 3) L (rvals (jsd j) x ++ S) T' s' (cs.1 + (jcost j).1, cs.2 + (jcost j).2)) :
    Wat p l e R s0 m args below meth c Q D cT B0 G nL bud q L (as.reverse ++ rv (some t) :: S) T s cs := by
  intro φ H locs ls hS hl hL hc hbd
  have hc1 : ∀ v ∈ rv (some t) :: as, canV T v := fun v hv => hc v (by
    rcases List.mem_cons.mp hv with rfl | hv
    · exact List.mem_append_right _ List.mem_cons_self
    · exact List.mem_append_left _ (List.mem_reverse.mpr hv))
  have hc2 : ∀ v ∈ S, canV T v := fun v hv => hc v (List.mem_append_right _ (List.mem_cons_of_mem _ hv))
  have hM := hM hS.2.2.2.1 hS.2.2.2.2.1 hc1
  have hcb := cbJ (R := R) (own := own) (idx := idx) (d := d) (n := n) hts (by rw [hrt]; exact hcode) hini hlink hy hR
  rw [hrt] at hcb
  refine ok_after hS hl hL hc2 hb1 hb2 (va_runI (b := φ t) (As := as.map (cv φ)) (rest := S.map (cv φ)) ⟨hx, hb, hml, hown, hts⟩ (hM φ) ⟨hcb, hnm, hinst⟩ ⟨blindP hst, preP hst hSx hB0 hK hS⟩ rfl (by rw [List.length_map]; exact hn) hl.1 ?_ ?_ hd ⟨Nat.le_trans hb1 hRc, Nat.le_trans hb2 hRs⟩) hk
  · show (as.reverse ++ rv (some t) :: S).map (cv φ) = _
    rw [List.map_append, List.map_reverse]; rfl
  · exact lv_room (by rw [sum_cv]; exact hsum)
end Calls2
