/-! ===== contracts of the methods whose shapes stay: what they are made of ===== -/
def okB (r : Option Nat) : Bool := match r with
  | none => true
  | some i => Nat.blt i 270
theorem okB_R {r : Option Nat} (h : okB r = true) : okR TT r := by
  intro i hi
  subst hi
  exact Or.inl (by simpa [okB, Nat.blt_eq] using h)
theorem okB_list {l : List (Option Nat)} (h : l.all okB = true) (k : Nat) : okB (l.getD k none) = true := by
  rw [List.getD_eq_getElem?_getD]
  cases hk : l[k]? with
  | none => rfl
  | some r => exact List.all_eq_true.mp h r (List.mem_of_getElem? hk)
theorem okB_sel {c : Bool} {x y : Option Nat} (h1 : okB x = true) (h2 : okB y = true) : okB (bsel c x y) = true := by
  cases c
  · exact h2
  · exact h1
set_option maxRecDepth 100000 in
theorem R0f_ok (t k : Nat) : okB (R0f t k) = true := by
  unfold R0f
  repeat' apply okB_sel
  all_goals first | rfl | exact okB_list rfl k
def shB (z : Nat × Nat × Nat) : Bool := (Nat.beq z.1 0 && (Nat.blt z.2.1 11 && Nat.beq z.2.2 (nF z.2.1))) || (Nat.beq z.1 1 && (Nat.ble z.2.2 10000 && (Nat.beq z.2.1 1 || (Nat.beq z.2.1 2 || (Nat.beq z.2.1 3 || (Nat.beq z.2.1 4 || (Nat.beq z.2.1 6 || Nat.beq z.2.1 7)))))))
theorem shB_ok {z : Nat × Nat × Nat} (h : shB z = true) : shOk z := by
  simp only [shB, Bool.or_eq_true, Bool.and_eq_true, Nat.beq_eq, Nat.blt_eq, Nat.ble_eq] at h
  exact h
theorem SHf_ok : ∀ t, t < 270 → shB (SHf t) = true := by decide +kernel
theorem TT_can : canT TT := ⟨by decide, fun t k => okB_R (R0f_ok t k), fun t ht => shB_ok (SHf_ok t ht)⟩
section Fok
variable {l : Launch} {D : va_G} {cT : Nat → ClassId} {B0 : Nat} {fS : Nat → Nat}
/-- the method j as F has it, at any depth from d0 on -/
def FOk (l : Launch) (D : va_G) (cT : Nat → ClassId) (B0 : Nat) (fS : Nat → Nat) (d0 j : Nat) (F : List mV → mS → Option (Int × mS)) : Prop :=
  ∀ d, d0 ≤ d → ∀ (as : List mV) (s : mS) (x : Int) (s' : mS), msum as ≤ jmx j → F as s = some (x, s') → canS s → (∀ v ∈ as, canV TT v) → MetJ D cT B0 fS (SxW B0 fS scr0) l d j as TT s x TT s'
theorem FOk_run {j : Nat} {M : mM} {env : Nat → List mV → mS → Option (Int × mS)} {n d0 : Nat} (hM : MiOk j M) (henv : ∀ d, d0 ≤ d → EnvOk l D cT B0 fS scr0 TT d env) :
    FOk l D cT B0 fS (d0 + 1) j (fun as s => runS Z0 TT M scr0 env n 0 (ent 0 as) [] s (0, 0)) := by
  intro d hd as s x s' hms h hs ha
  obtain ⟨d', rfl⟩ : ∃ d', d = d' + 1 := ⟨d - 1, by omega⟩
  exact met_runS hM hArr_ok hin_ok TT_can (henv d' (by omega)) h hms hs ha
theorem env_nil {d : Nat} : EnvOk l D cT B0 fS scr0 TT d (fun _ _ _ => none) := by
  intro j as s x s' _ h; cases h
theorem env_cons {d d0 c : Nat} {F : List mV → mS → Option (Int × mS)} {env : Nat → List mV → mS → Option (Int × mS)} (h : FOk l D cT B0 fS d0 c F) (hd : d0 ≤ d) (t : EnvOk l D cT B0 fS scr0 TT d env) :
    EnvOk l D cT B0 fS scr0 TT d (fun j as s => bsel (Nat.beq j c) (F as s) (env j as s)) := by
  intro j as s x s' hms hx hs ha
  cases hb : Nat.beq j c with
  | true =>
    have e : j = c := Nat.eq_of_beq_eq_true hb
    subst e
    simp only [hb] at hx
    exact h d hd as s x s' hms hx hs ha
  | false =>
    simp only [hb] at hx
    exact t j as s x s' hms hx hs ha
end Fok
/-! methods that ask nothing of their pool -/
def noPool (ins : Instr) : Bool := match ins with
  | .ldc _ | .ldc_w _ | .ldc2_w _ | .getfield _ | .putfield _ | .getstatic _ | .invokevirtual _ | .invokestatic _ | .invokespecial _ | .new _ | .anewarray _ => false
  | _ => true
/-- alike but for their pools -/
def Like (M M2 : mM) : Prop := M.1 = M2.1 ∧ M.2.1 = M2.2.1 ∧ M.2.2.1 = M2.2.2.1 ∧ M.2.2.2.1 = M2.2.2.2.1 ∧ M.2.2.2.2.1 = M2.2.2.2.2.1 ∧ M.2.2.2.2.2.1 = M2.2.2.2.2.2.1 ∧ M.2.2.2.2.2.2.2.1 = M2.2.2.2.2.2.2.2.1 ∧ M.2.2.2.2.2.2.2.2 = M2.2.2.2.2.2.2.2.2
section Np
variable {α : Type}
set_option maxRecDepth 100000 in
theorem ex_np {Z : mZ} {al ini : Bool} {oc nL : Nat} {bud : Nat × Nat} {scr : Nat × (Nat → Int)} {rk : Nat} {res res2 : Nat → Nat × Nat × Nat} {cal : mCal α} {ins : Instr} {q len : Nat} {tg : List Nat} {L : mL} {S : List mV} {T : mT} {s : mS} {cs : Nat × Nat} {k : mK α} {kr : Int → mT → mS → Option α} (h : noPool ins = true) :
    ex Z al ini oc nL bud scr rk res cal ins q len tg L S T s cs k kr = ex Z al ini oc nL bud scr rk res2 cal ins q len tg L S T s cs k kr := by
  cases ins <;> first | rfl | (cases h; done) | (rename_i cnd off; cases cnd <;> rfl)
theorem seg_np {Z : mZ} {M M2 : mM} {scr : Nat × (Nat → Int)} {cal : mCal α} (hl : Like M M2) : ∀ (cd : List mI), cd.all (fun r => noPool r.2.1) = true → ∀ (pc : Nat) (L : mL) (S : List mV) (T : mT) (s : mS) (cs : Nat × Nat) (kc : mK α) (kr : Int → mT → mS → Option α),
    seg Z M scr cal cd pc L S T s cs kc kr = seg Z M2 scr cal cd pc L S T s cs kc kr := by
  obtain ⟨e1, e2, e3, e4, e5, e6, e7, e8⟩ := hl
  intro cd
  induction cd with
  | nil => intros; rfl
  | cons r rest ih =>
    intro h pc L S T s cs kc kr
    obtain ⟨q, ins, len, tg⟩ := r
    simp only [List.all_cons, Bool.and_eq_true] at h
    have ih := ih h.2
    rw [seg_cons, seg_cons, ih]
    congr 1
    unfold stp
    rw [← e1, ← e2, ← e3, ← e4, ← e5, ← e6, ← e8]
    rw [ex_np (res2 := rlook M2.2.2.2.2.2.2.1) h.1]
    congr 1
    funext pc' L' S' T' s' cs'
    unfold cutK
    simp only [ih]
end Np
theorem runS_np {Z : mZ} {T : mT} {M M2 : mM} {scr : Nat × (Nat → Int)} {env : Nat → List mV → mS → Option (Int × mS)} (hl : Like M M2) (hc : M.2.2.2.2.2.2.2.1.all (fun r => noPool r.2.1) = true) : ∀ (n pc : Nat) (L : mL) (S : List mV) (s : mS) (cs : Nat × Nat), runS Z T M scr env n pc L S s cs = runS Z T M2 scr env n pc L S s cs := by
  intro n
  induction n with
  | zero => intros; rfl
  | succ n ih =>
    intro pc L S s cs
    show seg Z M scr _ M.2.2.2.2.2.2.2.1 pc L S T s cs _ _ = seg Z M2 scr _ M2.2.2.2.2.2.2.2.1 pc L S T s cs _ _
    rw [seg_np hl _ hc, hl.2.2.2.2.2.2.1]
    congr 1
    funext pc' L' S' T' s' cs'
    exact ih pc' L' S' s' cs'
theorem FOk_np {l : Launch} {D : va_G} {cT : Nat → ClassId} {B0 : Nat} {fS : Nat → Nat} {j : Nat} {M M2 : mM} {env : Nat → List mV → mS → Option (Int × mS)} {n d0 : Nat} (hM : MiOk j M2) (hl : Like M M2) (hc : M.2.2.2.2.2.2.2.1.all (fun r => noPool r.2.1) = true) (henv : ∀ d, d0 ≤ d → EnvOk l D cT B0 fS scr0 TT d env) :
    FOk l D cT B0 fS (d0 + 1) j (fun as s => runS Z0 TT M scr0 env n 0 (ent 0 as) [] s (0, 0)) := by
  have := FOk_run (l := l) (D := D) (cT := cT) (B0 := B0) (fS := fS) (n := n) hM henv
  have e : (fun (as : List mV) (s : mS) => runS Z0 TT M scr0 env n 0 (ent 0 as) [] s (0, 0)) = fun as s => runS Z0 TT M2 scr0 env n 0 (ent 0 as) [] s (0, 0) := by
    funext as s; exact runS_np hl hc n 0 (ent 0 as) [] s (0, 0)
  rw [e]; exact this
/-! ===== Math.min, Math.max: a body under a class that has native rows ===== -/
theorem Met_ofWF {l : Launch} {y : MethodName} {ws ws' : List Cond} {rm : Room} {Pc : Array Value → State → Prop} {Qc : Array Value → State → Outcome → State → Prop} {mc ms : Nat} {free : Addr → Prop} {cc : ByteArray} {maxL : Nat} {ret : Option FieldType}
    (hy : plainFor y = true) (hw : ws = Cond.code y cc maxL ret :: ws')
    (body : ∀ p e s m args below meth c s₁, BodyLoose p l y (headSpec ws rm) cc maxL ret e s m args below meth c s₁ → c.maxLocals = maxL → Pc args s →
      W p l e (headSpec ws rm).room s m args below meth c s.heap [] 0 0 (MQ below Qc args s mc ms free) (entryFrame m args maxL)) : Met l y ws rm Pc Qc mc ms free := by
  refine MetFree.of_bodySF (code := cc) (maxLocals := maxL) (ret := ret) hy ?_ ?_
  · intro args s m h hn
    obtain ⟨meth, c, h1, h2, h3, h4, h5, h6, -, -⟩ := Cond.code_spec hn (atoms_spec (ws := ws) h _ (by rw [hw]; exact List.mem_cons_self))
    exact ⟨meth, c, h1, h2, h3, h4, h5, h6⟩
  · intro p e s m args below meth c s₁ B hml hP _
    obtain ⟨t, a1, o, b1, b2, b3⟩ := body p e s m args below meth c s₁ B hml hP s₁ (by rw [B.state]; rfl) (Stand.of_body B)
    exact ⟨t, o, a1, b1, b2, ⟨b3.1, b3.2⟩⟩
theorem met_runF {l : Launch} {D : va_G} {cT : Nat → ClassId} {B0 : Nat} {scr : Nat × (Nat → Int)} {d : Nat} {j : Nat} {M : mM} (hM : MfOk j M) {fS : Nat → Nat} {T : mT} (hT : canT T)
    {env : Nat → List mV → mS → Option (Int × mS)} (henv : EnvOk l D cT B0 fS scr T d env) {n : Nat} {as : List mV} {s s' : mS} {x : Int} (h : runS Z0 T M scr env n 0 (ent 0 as) [] s (0, 0) = some (x, s')) (hms : msum as ≤ jmx j) (hs : canS s) (ha : ∀ v ∈ as, canV T v) :
    MetJ D cT B0 fS (SxW B0 fS scr) l (d + 1) j as T s x T s' := by
  obtain ⟨m1, m2, m3, m4, m5, m6, m7, m8, m9, m10⟩ := hM
  intro φ
  refine Met_ofWF (cc := bb j) (maxL := mx j) (ret := rt j) m9 rfl ?_
  intro p e s0 m args below meth c s₁ B hml hv
  obtain ⟨rfl, hB0, hP, hK, hD, hSx, hf⟩ := hv
  have hx := B.exec
  have hb := B.bytes
  have hr := B.returns
  have hts := atoms_spec (ws := wsJ j) B.pre
  have hown : s0.vm.findClass (yy j).cls = some m.cls := findClass_of_methodNamed B.named
  have hlocks := B.notSynchronized
  have C : Cxt p (headSpec (wsJ j) (rmJ (d + 1) j)).room s0 m (as.map (cv φ)).toArray c D cT B0 (fS, T, φ) M.2.2.2.1 M.2.2.2.2.1 scr (yy j).cls M.2.2.2.2.2.2.1 (bb j) d := by
    refine ⟨hx, hb, by rw [m3]; exact hml, hown, fun w hw => hts w (List.mem_cons_of_mem _ hw), hK, hSx, hB0, m7, ⟨Nat.le_refl _, Nat.le_refl _⟩, ?_, ?_, hin_ok⟩
    · rw [m4]; exact Nat.le_refl _
    · rw [m4]; exact Nat.le_refl _
  have hret := ret_MQ (p := p) (l := l) (e := e) (R := (headSpec (wsJ j) (rmJ (d + 1) j)).room) (s0 := s0) (m := m) (args := (as.map (cv φ)).toArray) (below := below) (D := D) (cT := cT) (B0 := B0) (bud := M.2.2.2.2.1) (fS := fS) (T0 := T) (φ0 := φ) (x := x) (T' := T) (s' := s') hx hb hlocks m8 hr
  rw [← m5] at hret
  have hw := runS_ok C hArr_ok m1 m2 henv m6 hret n 0 (ent 0 as) [] s (0, 0) h
  have hl := lv_entry (as.map (cv φ)) (n := mx j) (by rw [sl_len, ← m10]; exact hms)
  rw [lg_entry_eq]
  rw [ent_cv] at hl
  have hwat := hw φ s0.heap [] _ ⟨hP, hD, va_S.rf, hs, hT, hf, Nat.le_refl _, fun _ _ => rfl⟩ (by rw [m3]; exact hl) (ent_can as 0 ha) (fun v hv => by cases hv) ⟨Nat.zero_le _, Nat.zero_le _⟩
  rw [m5, m4] at hwat
  exact hwat
theorem FOk_npF {l : Launch} {D : va_G} {cT : Nat → ClassId} {B0 : Nat} {fS : Nat → Nat} {j : Nat} {M M2 : mM} {env : Nat → List mV → mS → Option (Int × mS)} {n d0 : Nat} (hM : MfOk j M2) (hl : Like M M2) (hc : M.2.2.2.2.2.2.2.1.all (fun r => noPool r.2.1) = true) (henv : ∀ d, d0 ≤ d → EnvOk l D cT B0 fS scr0 TT d env) :
    FOk l D cT B0 fS (d0 + 1) j (fun as s => runS Z0 TT M scr0 env n 0 (ent 0 as) [] s (0, 0)) := by
  intro d hd as s x s' hms h hs ha
  obtain ⟨d', rfl⟩ : ∃ d', d = d' + 1 := ⟨d - 1, by omega⟩
  have h : runS Z0 TT M scr0 env n 0 (ent 0 as) [] s (0, 0) = some (x, s') := h
  rw [runS_np hl hc] at h
  exact met_runF hM TT_can (henv d' (by omega)) h hms hs ha
