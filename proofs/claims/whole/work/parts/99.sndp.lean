/-! ===== a method's contract out of its run ===== -/
theorem ent_cv (φ : Nat → Nat) : ∀ (as : List mV) (i : Nat), lv_args i (as.map (cv φ)) = (ent i as).map (cvp φ)
  | [], _ => rfl
  | v :: as, i => by
    show (i, cv φ v) :: lv_args (if (cv φ v).category = 2 then i + 2 else i + 1) (as.map (cv φ)) = (i, cv φ v) :: (ent (i + mcat v) as).map (cvp φ)
    have e : (if (cv φ v).category = 2 then i + 2 else i + 1) = i + mcat v := by
      rw [cat_cv]
      match v with
      | .inl (.inl _) => rfl
      | .inl (.inr _) => rfl
      | .inr _ => rfl
    rw [e, ent_cv φ as]
theorem sl_len (φ : Nat → Nat) : ∀ as : List mV, (lg_sl (as.map (cv φ))).length = msum as
  | [] => rfl
  | v :: as => by
    have ih := sl_len φ as
    unfold lg_sl at ih ⊢
    rw [List.map_cons, List.flatMap_cons, List.length_append, ih]
    show _ = mcat v + msum as
    congr 1
    rw [cat_cv]
    match v with
    | .inl (.inl _) => rfl
    | .inl (.inr _) => rfl
    | .inr _ => rfl
theorem ent_can {T : mT} : ∀ (as : List mV) (i : Nat), (∀ v ∈ as, canV T v) → ∀ q ∈ ent i as, canV T q.2
  | [], _, _ => fun q hq => by cases hq
  | v :: as, i, h => fun q hq => by
    rcases List.mem_cons.mp hq with rfl | hq
    · exact h v List.mem_cons_self
    · exact ent_can as _ (fun w hw => h w (List.mem_cons_of_mem _ hw)) q hq
section RunS
variable {p : Program} {l : Launch} {e : Env} {R : Room} {s0 : State} {m : MethodId} {args : Array Value} {below : List Frame} {meth : Method} {c : Code} {Q : State → Prop} {D : va_G} {cT : Nat → ClassId} {B0 : Nat} {G : mG} {scr : Nat × (Nat → Int)} {own : String} {cc : ByteArray} {d : Nat}
theorem runS_ok {M : mM} (C : Cxt p R s0 m args c D cT B0 G M.2.2.2.1 M.2.2.2.2.1 scr own M.2.2.2.2.2.2.1 cc d) (hArr : ∀ ty, ty = .int ∨ ty = .long ∨ ty = .byte ∨ ty = .boolean → Cond.arrayClass ty ∈ Tw) (hal : M.1 = false) (hini : M.2.1 = false)
    {env : Nat → List mV → mS → Option (Int × mS)} {T : mT} (henv : EnvOk l D cT B0 G.1 scr T d env) (hcd : codeOk cc M.2.2.2.2.2.2.2.1) {x : Int} {s' : mS}
    (hr : RetOk p l e R s0 m args below meth c Q D cT B0 G M.2.2.2.2.1 cc M.2.2.2.2.2.1 x T s') :
    ∀ (n pc : Nat) (L : mL) (S : List mV) (s : mS) (cs : Nat × Nat), runS Z0 T M scr env n pc L S s cs = some (x, s') → Wat p l e R s0 m args below meth c Q D cT B0 G M.2.2.2.1 M.2.2.2.2.1 pc L S T s cs := by
  intro n
  induction n with
  | zero => intro pc L S s cs h; cases h
  | succ n ih =>
    intro pc L S s cs h
    have h : seg Z0 M scr (fun j as T s k => (env j as s).bind fun p => k p.1 T p.2) M.2.2.2.2.2.2.2.1 pc L S T s cs (fun pc L S _ s cs => runS Z0 T M scr env n pc L S s cs) (fun x _ s => some (x, s)) = some (x, s') := h
    exact seg_ok C hArr hal hini henv (fun pc L S s cs hk => ih pc L S s cs hk) (fun x1 s1 hk => by cases hk; exact hr) _ hcd pc L S s cs h
end RunS
def rtB (j : Nat) : Bool := match jrk j with
  | 0 => decide (rt j = none)
  | 1 => decide (rt j = some .int)
  | 2 => decide (rt j = some .long)
  | 3 => decide (rt j = some (.object "LentBoxes$Word"))
  | 4 => decide (rt j = some .boolean)
  | _ => false
section MetS
variable {p : Program} {l : Launch} {e : Env} {R : Room} {s0 : State} {m : MethodId} {args : Array Value} {below : List Frame} {meth : Method} {c : Code} {D : va_G} {cT : Nat → ClassId} {B0 : Nat} {scr : Nat × (Nat → Int)} {cc : ByteArray} {d : Nat}
theorem ret_MQ (hx : p.tables.exec = Jvm.exec) (hb : c.code = cc) (hlocks : meth.locks = false) {j : Nat} (hrt : rtB j = true) (hr : meth.sig.returnType = rt j) {bud : Nat × Nat} {fS : Nat → Nat} {T0 : mT} {φ0 : Nat → Nat} {x : Int} {T' : mT} {s' : mS} :
    RetOk p l e R s0 m args below meth c (MQ below (QcJ D cT B0 φ0 (jrk j) T0 x T' s') args s0 bud.1 bud.2 (sA B0)) D cT B0 (fS, T0, φ0) bud cc (jrk j) x T' s' := by
  intro φ H locs ls pc hSt hcx hrg hd
  obtain ⟨hP, hD, hSS, hcs, hcT, hf⟩ := hSt
  unfold rtB at hrt
  generalize jrk j = rk at hrt hcx hrg hd
  have post : ∀ (v : Option Value), v = rvO φ rk x → ∀ t : State, t.heap = H → s0.WarmedH t.vm → QcJ D cT B0 φ0 rk T0 x T' s' args s0 (.returned v) t := by
    intro v hv t ht hW
    exact ⟨⟨φ, hf.2.2, by rw [hv], by rw [ht]; exact hP, hD, hcx, hcs, hcT, hf.2.1⟩, hSS.F ht⟩
  match rk, hrt, hcx, hrg, hd, post with
  | 0, hrt, hcx, hrg, hd, post =>
    rw [decide_eq_true_eq.mp hrt] at hr
    exact W.vret hx hb hr (post none rfl) hSS.2.2 hd
  | 1, hrt, hcx, hrg, hd, post =>
    rw [decide_eq_true_eq.mp hrt] at hr
    exact W.iret (v := Int32.ofInt x) hx hb hr (post _ rfl) hSS.2.2 hd
  | 2, hrt, hcx, hrg, hd, post =>
    rw [decide_eq_true_eq.mp hrt] at hr
    exact W.lret (v := Int64.ofInt x) hx hb hr (post _ rfl) hSS.2.2 hd
  | 3, hrt, hcx, hrg, hd, post =>
    rw [decide_eq_true_eq.mp hrt] at hr
    exact W.aret (v := va_rf ((encW x).map φ)) hx hb hr (Or.inl ⟨_, rfl⟩) (va_rf_or _) (post _ rfl) hSS.2.2 hd
  | 4, hrt, hcx, hrg, hd, post =>
    rw [decide_eq_true_eq.mp hrt] at hr
    exact W.zret (v := Int32.ofInt x) hx hb hr (by rcases hrg with rfl | rfl <;> rfl) (post _ rfl) hSS.2.2 hd
/-- a method of the small machine, and the method that it stands for -/
def MiOk (j : Nat) (M : mM) : Prop := M.1 = false ∧ M.2.1 = false ∧ M.2.2.2.1 = mx j ∧ M.2.2.2.2.1 = jcost j ∧ M.2.2.2.2.2.1 = jrk j ∧ codeOk (bb j) M.2.2.2.2.2.2.2.1 ∧ (∃ ixs, resB (yy j).cls M.2.2.2.2.2.2.1 ixs = true) ∧ rtB j = true ∧ plainName (yy j).cls = true ∧ jmx j = mx j
theorem met_runS {j : Nat} {M : mM} (hM : MiOk j M) (hArr : ∀ ty, ty = .int ∨ ty = .long ∨ ty = .byte ∨ ty = .boolean → Cond.arrayClass ty ∈ Tw) (hin : ∀ ci, ci < 11 → ∀ w ∈ u_ws (clN ci) (tX ci) (nF ci), w ∈ Tw) {fS : Nat → Nat} {T : mT} (hT : canT T)
    {env : Nat → List mV → mS → Option (Int × mS)} (henv : EnvOk l D cT B0 fS scr T d env) {n : Nat} {as : List mV} {s s' : mS} {x : Int} (h : runS Z0 T M scr env n 0 (ent 0 as) [] s (0, 0) = some (x, s')) (hms : msum as ≤ jmx j) (hs : canS s) (ha : ∀ v ∈ as, canV T v) :
    MetJ D cT B0 fS (SxW B0 fS scr) l (d + 1) j as T s x T s' := by
  obtain ⟨m1, m2, m3, m4, m5, m6, m7, m8, m9, m10⟩ := hM
  intro φ
  refine Met.ofW (cc := bb j) (maxL := mx j) (ret := rt j) m9 rfl ?_
  intro p e s0 m args below meth c s₁ B hml hv
  obtain ⟨rfl, hB0, hP, hK, hD, hSx, hf⟩ := hv
  have hx := B.exec
  have hb := B.bytes
  have hr := B.returns
  have hts := atoms_spec (ws := wsJ j) B.pre
  have hown : s0.vm.findClass (yy j).cls = some m.cls := findClass_of_methodNamed B.named
  have hlocks := B.notSynchronized
  have C : Cxt p (headSpec (wsJ j) (rmJ (d + 1) j)).room s0 m (as.map (cv φ)).toArray c D cT B0 (fS, T, φ) M.2.2.2.1 M.2.2.2.2.1 scr (yy j).cls M.2.2.2.2.2.2.1 (bb j) d := by
    refine ⟨hx, hb, by rw [m3]; exact hml, hown, fun w hw => hts w (List.mem_cons_of_mem _ hw), hK, hSx, hB0, m7, ⟨Nat.le_refl _, Nat.le_refl _⟩, ?_, ?_, hin⟩
    · rw [m4]; exact Nat.le_refl _
    · rw [m4]; exact Nat.le_refl _
  have hret := ret_MQ (p := p) (l := l) (e := e) (R := (headSpec (wsJ j) (rmJ (d + 1) j)).room) (s0 := s0) (m := m) (args := (as.map (cv φ)).toArray) (below := below) (D := D) (cT := cT) (B0 := B0) (bud := M.2.2.2.2.1) (fS := fS) (T0 := T) (φ0 := φ) (x := x) (T' := T) (s' := s') hx hb hlocks m8 hr
  rw [← m5] at hret
  have hw := runS_ok C hArr m1 m2 henv m6 hret n 0 (ent 0 as) [] s (0, 0) h
  have hl := lv_entry (as.map (cv φ)) (n := mx j) (by rw [sl_len, ← m10]; exact hms)
  rw [lg_entry_eq]
  rw [ent_cv] at hl
  have hwat := hw φ s0.heap [] _ ⟨hP, hD, va_S.rf, hs, hT, hf, Nat.le_refl _, fun _ _ => rfl⟩ (by rw [m3]; exact hl) (ent_can as 0 ha) (fun v hv => by cases hv) ⟨Nat.zero_le _, Nat.zero_le _⟩
  rw [m5, m4] at hwat
  exact hwat
end MetS
