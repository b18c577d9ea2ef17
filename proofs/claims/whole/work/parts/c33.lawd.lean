/-! ===== the law's own dead, wear, mean ===== -/
def wsW (j : Nat) (hh : List (Nat × Nat × Nat × Nat)) : List Cond := Cond.codeWith (yy j) (bb j) (mx j) (rt j) hh :: Tw
section Lw
variable {l : Launch} {D : va_G} {cT : Nat → ClassId} {B0 : Nat} {fS : Nat → Nat}
def MetW (l : Launch) (D : va_G) (cT : Nat → ClassId) (B0 : Nat) (fS : Nat → Nat) (d j : Nat) (hh : List (Nat × Nat × Nat × Nat)) (as : List mV) (s : mS) (x : Int) (s' : mS) : Prop :=
  ∀ φ, Met l (yy j) (wsW j hh) (rmJ d j) (PcJ D cT B0 fS (SxT B0 fS) φ as TT s) (QcJ D cT B0 φ (jrk j) TT x TT s') (jcost j).1 (jcost j).2 (sA B0)
def MwOk (j : Nat) (M : mM) : Prop := M.1 = false ∧ M.2.1 = false ∧ M.2.2.2.1 = mx j ∧ M.2.2.2.2.1 = jcost j ∧ M.2.2.2.2.2.1 = jrk j ∧ codeOk (bb j) M.2.2.2.2.2.2.2.1 ∧ (∃ ixs, resB (yy j).cls M.2.2.2.2.2.2.1 ixs = true) ∧ rtB j = true ∧ plainName (yy j).cls = true ∧ jmx j = mx j
theorem met_runW {j : Nat} {hh : List (Nat × Nat × Nat × Nat)} {M : mM} (hM : MwOk j M) {d : Nat} {env : Nat → List mV → mS → Option (Int × mS)} (henv : EnvOk l D cT B0 fS scr0 TT d env) {n : Nat} {as : List mV} {s s' : mS} {x : Int} (h : runS Z0 TT M scr0 env n 0 (ent 0 as) [] s (0, 0) = some (x, s')) (hms : msum as ≤ jmx j) (hs : canS s) (ha : ∀ v ∈ as, canV TT v) :
    MetW l D cT B0 fS (d + 1) j hh as s x s' := by
  obtain ⟨m1, m2, m3, m4, m5, m6, m7, m8, m9, m10⟩ := hM
  intro φ
  refine va_MetW (cc := bb j) (maxL := mx j) (ret := rt j) (hh := hh) m9 rfl ?_
  intro p e s0 m args below meth c s₁ B hml hv
  obtain ⟨rfl, hB0, hP, hK, hD, ⟨hSx, hLS⟩, hf⟩ := hv
  have hx := B.exec
  have hb := B.bytes
  have hr := B.returns
  have hts := atoms_spec (ws := wsW j hh) B.pre
  have hown : s0.vm.findClass (yy j).cls = some m.cls := findClass_of_methodNamed B.named
  have hlocks := B.notSynchronized
  have C : Cxt p (headSpec (wsW j hh) (rmJ (d + 1) j)).room s0 m (as.map (cv φ)).toArray c D cT B0 (fS, TT, φ) M.2.2.2.1 M.2.2.2.2.1 scr0 (yy j).cls M.2.2.2.2.2.2.1 (bb j) d := by
    refine ⟨hx, hb, by rw [m3]; exact hml, hown, fun w hw => hts w (List.mem_cons_of_mem _ hw), hK, hSx, hB0, m7, ⟨Nat.le_refl _, Nat.le_refl _⟩, ?_, ?_, hin_ok⟩
    · rw [m4]; exact Nat.le_refl _
    · rw [m4]; exact Nat.le_refl _
  have hret := ret_MQ (p := p) (l := l) (e := e) (R := (headSpec (wsW j hh) (rmJ (d + 1) j)).room) (s0 := s0) (m := m) (args := (as.map (cv φ)).toArray) (below := below) (D := D) (cT := cT) (B0 := B0) (bud := M.2.2.2.2.1) (fS := fS) (T0 := TT) (φ0 := φ) (x := x) (T' := TT) (s' := s') hx hb hlocks m8 hr
  rw [← m5] at hret
  have hw := runS_ok C hArr_ok m1 m2 henv m6 hret n 0 (ent 0 as) [] s (0, 0) h
  have hl := lv_entry (as.map (cv φ)) (n := mx j) (by rw [sl_len, ← m10]; exact hms)
  rw [lg_entry_eq]
  rw [ent_cv] at hl
  have hwat := hw φ s0.heap [] _ ⟨hP, hD, va_S.rf, hs, TT_can, hf, Nat.le_refl _, fun _ _ => rfl⟩ (by rw [m3]; exact hl) (ent_can as 0 ha) (fun v hv => by cases hv) ⟨Nat.zero_le _, Nat.zero_le _⟩
  rw [m5, m4] at hwat
  exact hwat
/-- the callee throws, the handler answers 1 -/
theorem catch_go {p : Program} {e : Env} {R : Room} {s0 : State} {m : MethodId} {args : Array Value} {below : List Frame} {meth : Method} {c : Code} {cc : ByteArray} (hx : p.tables.exec = Jvm.exec) (hb : c.code = cc) (hml : c.maxLocals = 5 ∨ c.maxLocals = 4) (hown : s0.vm.findClass "LentBoxesLaw" = some m.cls) (hts : ∀ w ∈ Tw, w.before args s0 = true) (hSx : SxT B0 fS s0) (hB0 : B0 ≤ s0.heap.size) (hK : va_K D clL (tysL cT) s0)
    {φ : Nat → Nat} {s : mS} (hP : va_P D clL (conc φ cT TT s) s0.heap) (hD : va_D (sA B0) (conc φ cT TT s)) (hf : ∀ i, φ (wB + i) = fS i)
    {j idx d : Nat} {as : List mV} (hM : MetFree l (yy j) (headSpec (wsJ j) (rmT d)) (PcJ D cT B0 fS (SxT B0 fS) φ (rv (some 0) :: as) TT s) (fun _ _ _ _ _ => True) (ThQ D cT B0 φ s))
    (hcl : (yy j).cls = "LentBoxes") (hlink : Cond.methodLink "LentBoxesLaw" idx (yy j) ∈ Tw) (hinst : Cond.instanceMethod (yy j) ∈ Tw) (hsel : Cond.selects (yy j).cls (yy j) (yy j) ∈ Tw) (hini : Cond.initialized (yy j).cls ∈ Tw) (hcode : Cond.code (yy j) (bb j) (mx j) (rt j) ∈ Tw) (hmx : mx j ≤ 4) (hdesc : (parseMethodDescriptor (yy j).desc).map (fun d => d.parameters.length) = some as.length)
    (hRf : d + 1 ≤ R.frames) (hRl : 64 * d + 30 ≤ R.locals) (hRc : 64 ≤ R.cells) (hRs : 1000 ≤ R.slots)
    {pc hpc : Nat} {x0 : ExceptionTableEntry} (hx1 : c.exceptionTable.toList = [x0]) (hx2 : covers x0 pc = true) (hx3 : x0.catchType = 13) (hx4 : x0.handlerPc = hpc) (hdg : decode cc pc = .ok (.invokevirtual idx, 3))
    {ls : Array Slot} (hls : ls.size = c.maxLocals) {rest : List Value} (hrs : (rest.map fun v => v.category).sum ≤ 8) {Q : State → Prop}
    (kk : ∀ (H : Heap) (L : List Loc) (x : Addr), va_P D clL (conc φ cT TT s) H → va_F (sA B0) s0 ({ s0 with heap := H } : State) → (∀ q ∈ L, sA B0 q.base) → W p l e R s0 m args below meth c H L 64 1000 Q (F0 m hpc ls [.ref x])) :
    W p l e R s0 m args below meth c s0.heap [] 0 0 Q (F0 m pc ls ((as.map (cv φ)).reverse ++ .ref (φ 0) :: rest)) := by
  intro V hV X
  have hst := SxT_still B0 fS
  have hrec := va_recv hK hP (clL_get 0 (by decide)) (conc_obj (φ := φ) (cT := cT) (T := TT) (s := s) (t := 0) (ci := 0) (n := 19) (by decide) rfl rfl rfl)
  obtain ⟨cellB, c1, c2, c3⟩ := hrec
  have hpl : e.platform.magicAccessors = ({} : Platform).magicAccessors := by rw [X.admits.platform]
  obtain ⟨vm₁, mk, o, s₂, X₁, hq, hend, hgo⟩ := any_call X hx hown (hts _ hlink) (hts _ hinst) (hts _ hsel) (hts _ hini) (hts _ hcode) ⟨by rw [hcl]; decide, by rw [hcl]; decide⟩ hM (by show d + 1 ≤ R.frames; exact hRf) (by show 8 + (mx j + 11) + 64 * d ≤ R.locals; omega) (by show 0 + 64 ≤ R.cells; omega) (by show 0 + 1000 ≤ R.slots; omega)
    (b := φ 0) (cellB := cellB) (by rw [hV]; exact c1) c2 (by rw [hcl]; exact c3) (g := F0 m pc ls ((as.map (cv φ)).reverse ++ .ref (φ 0) :: rest)) rfl hls (argsL := as.map (cv φ)) (rest := rest)
    (fun sig h => by rw [h] at hdesc; rw [List.length_map]; exact (Option.some.inj hdesc).symm) rfl (by show 2 * 0 + _ ≤ 8; omega) (by rw [hb]; exact hdg)
    (fun vm₁ hW => atoms_intro fun w hw => by
      rcases List.mem_cons.mp hw with rfl | hw
      · exact word_at hW (good_of_word (List.mem_filter.mp hcode).2) (hts _ hcode)
      · exact word_at hW (good_of_word (List.mem_filter.mp hw).2) (hts _ hw))
    (fun vm₁ g mk hW => ⟨rfl, by show B0 ≤ V.heap.size; rw [hV]; exact hB0, by show va_P D clL (conc φ cT TT s) V.heap; rw [hV]; exact hP, va_K.moved (u := s0) hW.alike hK, hD, hst s0 _ hSx hW (fun q _ _ => by show V.heap[q]? = s0.heap[q]?; rw [hV]), hf⟩)
  obtain ⟨x, ce, L, rfl, t1, t2, t3, t4, t5, t6, t7, t8, t9⟩ := hq
  have hend' : s₂.frames = .throwing x :: .java (F0 m pc ls rest) :: (V.setVm vm₁).frames.tail := hend
  obtain ⟨X₂, hs₂⟩ := thr_stand X₁ (g := F0 m pc ls rest) rfl t4 t5 hend'
  rw [List.nil_append, Nat.zero_add, Nat.zero_add] at X₂
  obtain ⟨cC, hcC, hclk⟩ := Cond.classLink_spec hown (hts _ wo_14) e.platform hpl
  have hW₁ := X₁.warmed
  have t3' : s0.vm.findClass cNSE = some ce.cls := by
    have : vm₁.findClass cNSE = some ce.cls := t3
    exact (hW₁.alike.findClass _ _).symm.trans this
  have ecls : ce.cls = cC := Option.some.inj (t3'.symm.trans hcC)
  obtain ⟨dk, _, _, kt, hd', _, _, _, _, hkt, _, hopen⟩ := hclk.here
  have hcl₀ := X₂.warmed.classLinks hclk
  have hW' := X₂.warmed.noted hd' hopen (State.rightAt_cls hclk)
  obtain ⟨kt', hkt', -⟩ := hW'.alike.2.2 _ _ hkt
  have hF1 : s0.heap.size ≤ s₂.heap.size := by
    have h9 : V.heap.size ≤ s₂.heap.size := t9.1
    rw [hV] at h9
    exact h9
  have hF2 : ∀ q : Nat, q < s0.heap.size → ¬ sA B0 q → s₂.heap[q]? = s0.heap[q]? := by
    have h9 : ∀ q : Nat, q < V.heap.size → ¬ sA B0 q → s₂.heap[q]? = V.heap[q]? := t9.2
    rw [hV] at h9
    exact h9
  have K := kk s₂.heap L x t7 ⟨hF1, hF2⟩ t6
  obtain ⟨tt, a1, b1⟩ := K (((({ V.setVm vm₁ with heap := s₂.heap, slotsUsed := s₂.slotsUsed } : State)).setVm s₂.vm).setVm _) rfl (X₂.noted hW')
  refine ⟨tt, hgo tt ?_, b1⟩
  rw [hs₂]
  refine caught_cold (g := F0 m pc ls rest) X₂.here X₂.method' X₂.code hx1 (by exact hx2) (by rw [hx3]; decide) (cC := cC) (cell := ce) (by rw [hx3]; exact resolveClass_links e.toSetting hcl₀) (by no_record) t1 (fun k => by rw [t2]; intro h; cases h) ⟨kt', by rw [ecls]; exact hkt'⟩ ⟨kt', hkt'⟩ (by rw [ecls]; exact va_asg _ _) ?_
  rw [hx4]
  exact a1
end Lw
