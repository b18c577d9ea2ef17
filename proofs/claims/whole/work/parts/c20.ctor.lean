/-! ===== methods that make cells: the constructors ===== -/
section Alo
variable {p : Program} {l : Launch} {e : Env} {R : Room} {s0 : State} {m : MethodId} {args : Array Value} {below : List Frame} {meth : Method} {c : Code} {Q : State → Prop} {D : va_G} {cT : Nat → ClassId} {B0 : Nat} {G : mG} {scr : Nat × (Nat → Int)} {own : String} {cc : ByteArray} {d : Nat}
variable {α : Type} {o : α}
theorem seg_okA {M : mM} (C : Cxt p R s0 m args c D cT B0 G M.2.2.2.1 M.2.2.2.2.1 scr own M.2.2.2.2.2.2.1 cc d) (hini : M.2.1 = true → meth.name = "<init>" ∧ clN M.2.2.1 = own)
    {cal : mCal α} (hcal : ∀ T, CalOk l D cT B0 G scr d T cal) {kc : mK α} {kr : Int → mT → mS → Option α}
    (hkc : ∀ pc L S T s cs, kc pc L S T s cs = some o → Wat p l e R s0 m args below meth c Q D cT B0 G M.2.2.2.1 M.2.2.2.2.1 pc L S T s cs)
    (hr : ∀ x T s, kr x T s = some o → RetOk p l e R s0 m args below meth c Q D cT B0 G M.2.2.2.2.1 cc M.2.2.2.2.2.1 x T s) :
    ∀ (cd : List mI), codeOk cc cd → ∀ (pc : Nat) (L : mL) (S : List mV) (T : mT) (s : mS) (cs : Nat × Nat), seg Z0 M scr cal cd pc L S T s cs kc kr = some o → Wat p l e R s0 m args below meth c Q D cT B0 G M.2.2.2.1 M.2.2.2.2.1 pc L S T s cs := by
  intro cd
  induction cd with
  | nil => intro _ pc L S T s cs h; rw [seg_nil] at h; cases h
  | cons r rest ih0 =>
    intro hcd pc L S T s cs h
    obtain ⟨q, ins, len, tg⟩ := r
    have ih := ih0 (fun r hr => hcd r (List.mem_cons_of_mem _ hr))
    obtain ⟨hd, htg⟩ := hcd _ List.mem_cons_self
    rw [seg_cons] at h
    cases hq : Nat.beq q pc with
    | false => rw [hq, bsel_f] at h; exact ih pc L S T s cs h
    | true =>
      rw [hq, bsel_t] at h
      have e0 : q = pc := Nat.eq_of_beq_eq_true hq
      subst e0
      unfold stp at h
      refine ex_ok C (hcal T) hArr_ok hini hd htg h (fun pc' L' S' T' s' cs' hk => ?_) (fun x T' s' hk => hr x T' s' hk)
      unfold cutK at hk
      cases hcut : cutOf M.2.2.2.2.2.2.2.2 pc' with
      | some lv => rw [hcut] at hk; exact proj_ok lv (hkc _ _ _ _ _ _ hk)
      | none => rw [hcut] at hk; exact ih _ _ _ _ _ _ hk
end Alo
abbrev aR : Type := Int × mT × mS
def loopA (M : mM) (cal : mCal aR) : Nat → mK aR
  | 0 => fun _ _ _ _ _ _ => none
  | n + 1 => fun pc L S T s cs => seg Z0 M scr0 cal M.2.2.2.2.2.2.2.1 pc L S T s cs (loopA M cal n) (fun x T s => some (x, T, s))
def Mc_0 : mM := (true, true, 0, 2, (248, 4159), 0, rs_0, cd_0, [(36, [0, 1])])
def Mc_2 : mM := (true, true, 1, 1, (1, 940), 0, rs_7, cd_2, [])
def Mc_3 : mM := (true, true, 2, 1, (31, 441), 0, rs_10, cd_3, [])
def Mc_4 : mM := (true, true, 3, 1, (12, 105), 0, rs_8, cd_4, [])
def Mc_5 : mM := (true, true, 4, 1, (12, 138), 0, rs_6, cd_5, [])
def Mc_6 : mM := (true, true, 5, 1, (4, 160), 0, rs_5, cd_6, [])
def Mc_10 : mM := (true, true, 6, 2, (105, 1216), 0, rs_4, cd_10, [(15, [0, 1])])
def Mc_11 : mM := (true, true, 7, 1, (3, 120), 0, rs_1, cd_11, [])
def Mc_12 : mM := (true, true, 8, 1, (3, 33), 0, rs_3, cd_12, [])
def Mc_13 : mM := (true, true, 9, 1, (0, 0), 0, rs_2, cd_13, [])
def Mc_174 : mM := (true, true, 10, 1, (19, 11023), 0, rs_12, cd_174, [])
def ctM (j : Nat) : Option mM := match j with
  | 0 => some Mc_0
  | 2 => some Mc_2
  | 3 => some Mc_3
  | 4 => some Mc_4
  | 5 => some Mc_5
  | 6 => some Mc_6
  | 7 => some Mi_7
  | 8 => some Mn_8
  | 9 => some Mi_9
  | 10 => some Mc_10
  | 11 => some Mc_11
  | 12 => some Mc_12
  | 13 => some Mc_13
  | 174 => some Mc_174
  | 175 => some Mi_175
  | 176 => some Mi_176
  | _ => none
def ctRun : Nat → Nat → List mV → mT → mS → Option aR
  | 0, _, _, _, _ => none
  | d + 1, j, as, T, s => match ctM j with
    | none => none
    | some M => loopA M (fun j as T s k => (ctRun d j as T s).bind fun r => k r.1 r.2.1 r.2.2) 1000 0 (ent 0 as) [] T s (0, 0)
/-- a method that may make cells, and the method that it stands for -/
def MaOk (j : Nat) (M : mM) : Prop := (M.2.1 = true → (yy j).name = "<init>" ∧ clN M.2.2.1 = (yy j).cls) ∧ M.2.2.2.1 = mx j ∧ M.2.2.2.2.1 = jcost j ∧ M.2.2.2.2.2.1 = jrk j ∧ codeOk (bb j) M.2.2.2.2.2.2.2.1 ∧ (∃ ixs, resB (yy j).cls M.2.2.2.2.2.2.1 ixs = true) ∧ rtB j = true ∧ plainName (yy j).cls = true ∧ jmx j = mx j
theorem MaOk_of {j : Nat} {M : mM} (h : MiOk j M) : MaOk j M := by
  obtain ⟨m1, m2, m3, m4, m5, m6, m7, m8, m9, m10⟩ := h
  exact ⟨fun z => (by rw [m2] at z; cases z), m3, m4, m5, m6, m7, m8, m9, m10⟩
theorem mct_0 : MaOk 0 Mc_0 := ⟨fun _ => by decide +kernel, rfl, rfl, rfl, codeOk_of cdok_0, resok_0, by decide +kernel, by decide +kernel, rfl⟩
theorem mct_2 : MaOk 2 Mc_2 := ⟨fun _ => by decide +kernel, rfl, rfl, rfl, codeOk_of cdok_2, resok_7, by decide +kernel, by decide +kernel, rfl⟩
theorem mct_3 : MaOk 3 Mc_3 := ⟨fun _ => by decide +kernel, rfl, rfl, rfl, codeOk_of cdok_3, resok_10, by decide +kernel, by decide +kernel, rfl⟩
theorem mct_4 : MaOk 4 Mc_4 := ⟨fun _ => by decide +kernel, rfl, rfl, rfl, codeOk_of cdok_4, resok_8, by decide +kernel, by decide +kernel, rfl⟩
theorem mct_5 : MaOk 5 Mc_5 := ⟨fun _ => by decide +kernel, rfl, rfl, rfl, codeOk_of cdok_5, resok_6, by decide +kernel, by decide +kernel, rfl⟩
theorem mct_6 : MaOk 6 Mc_6 := ⟨fun _ => by decide +kernel, rfl, rfl, rfl, codeOk_of cdok_6, resok_5, by decide +kernel, by decide +kernel, rfl⟩
theorem mct_10 : MaOk 10 Mc_10 := ⟨fun _ => by decide +kernel, rfl, rfl, rfl, codeOk_of cdok_10, resok_4, by decide +kernel, by decide +kernel, rfl⟩
theorem mct_11 : MaOk 11 Mc_11 := ⟨fun _ => by decide +kernel, rfl, rfl, rfl, codeOk_of cdok_11, resok_1, by decide +kernel, by decide +kernel, rfl⟩
theorem mct_12 : MaOk 12 Mc_12 := ⟨fun _ => by decide +kernel, rfl, rfl, rfl, codeOk_of cdok_12, resok_3, by decide +kernel, by decide +kernel, rfl⟩
theorem mct_13 : MaOk 13 Mc_13 := ⟨fun _ => by decide +kernel, rfl, rfl, rfl, codeOk_of cdok_13, resok_2, by decide +kernel, by decide +kernel, rfl⟩
theorem mct_174 : MaOk 174 Mc_174 := ⟨fun _ => by decide +kernel, rfl, rfl, rfl, codeOk_of cdok_174, resok_12, by decide +kernel, by decide +kernel, rfl⟩
theorem ctM_ok {j : Nat} {M : mM} (h : ctM j = some M) : MaOk j M := by
  unfold ctM at h
  split at h
  · cases h; exact mct_0
  · cases h; exact mct_2
  · cases h; exact mct_3
  · cases h; exact mct_4
  · cases h; exact mct_5
  · cases h; exact mct_6
  · cases h; exact MaOk_of mok_7
  · cases h; exact MaOk_of mok_8
  · cases h; exact MaOk_of mok_9
  · cases h; exact mct_10
  · cases h; exact mct_11
  · cases h; exact mct_12
  · cases h; exact mct_13
  · cases h; exact mct_174
  · cases h; exact MaOk_of mok_175
  · cases h; exact MaOk_of mok_176
  · cases h
section MetA
variable {l : Launch} {D : va_G} {cT : Nat → ClassId} {B0 : Nat} {fS : Nat → Nat}
def CtOk (l : Launch) (D : va_G) (cT : Nat → ClassId) (B0 : Nat) (fS : Nat → Nat) (d : Nat) : Prop := ∀ (j : Nat) (as : List mV) (T : mT) (s : mS) (x : Int) (T' : mT) (s' : mS), msum as ≤ jmx j → ctRun d j as T s = some (x, T', s') → canS s → canT T → (∀ v ∈ as, canV T v) → MetJ D cT B0 fS (SxW B0 fS scr0) l d j as T s x T' s'
theorem cal_ct {α : Type} {d : Nat} (h : CtOk l D cT B0 fS d) {G : mG} (hG : G.1 = fS) (T : mT) : CalOk (α := α) l D cT B0 G scr0 d T (fun j as T s k => (ctRun d j as T s).bind fun r => k r.1 r.2.1 r.2.2) := by
  intro j as s hms kk o hc
  obtain ⟨⟨x, T', s'⟩, h1, h3⟩ := Option.bind_eq_some_iff.mp hc
  subst hG
  exact ⟨x, T', s', h3, fun hs hT hv => h j as T s x T' s' hms h1 hs hT hv⟩
theorem ct_ok : ∀ d, CtOk l D cT B0 fS d := by
  intro d
  induction d with
  | zero => intro j as T s x T' s' _ h; cases h
  | succ d ih =>
    intro j as T s x T' s' hms h hs hT ha
    unfold ctRun at h
    cases hM : ctM j with
    | none => rw [hM] at h; cases h
    | some M =>
      rw [hM] at h
      have h : loopA M (fun j as T s k => (ctRun d j as T s).bind fun r => k r.1 r.2.1 r.2.2) 1000 0 (ent 0 as) [] T s (0, 0) = some (x, T', s') := h
      obtain ⟨m2, m3, m4, m5, m6, m7, m8, m9, m10⟩ := ctM_ok hM
      intro φ
      refine Met.ofW (cc := bb j) (maxL := mx j) (ret := rt j) m9 rfl ?_
      intro p e s0 m args below meth c s₁ B hml hv
      obtain ⟨rfl, hB0, hP, hK, hD, hSx, hf⟩ := hv
      have hx := B.exec
      have hb := B.bytes
      have hr := B.returns
      have hts := atoms_spec (ws := wsJ j) B.pre
      have hown : s0.vm.findClass (yy j).cls = some m.cls := findClass_of_methodNamed B.named
      have hlocks := B.notSynchronized
      have hname := name_of_methodNamed B.named B.method
      have C : Cxt p (headSpec (wsJ j) (rmJ (d + 1) j)).room s0 m (as.map (cv φ)).toArray c D cT B0 (fS, T, φ) M.2.2.2.1 M.2.2.2.2.1 scr0 (yy j).cls M.2.2.2.2.2.2.1 (bb j) d := by
        refine ⟨hx, hb, by rw [m3]; exact hml, hown, fun w hw => hts w (List.mem_cons_of_mem _ hw), hK, hSx, hB0, m7, ⟨Nat.le_refl _, Nat.le_refl _⟩, ?_, ?_, hin_ok⟩
        · rw [m4]; exact Nat.le_refl _
        · rw [m4]; exact Nat.le_refl _
      have hret := ret_MQ (p := p) (l := l) (e := e) (R := (headSpec (wsJ j) (rmJ (d + 1) j)).room) (s0 := s0) (m := m) (args := (as.map (cv φ)).toArray) (below := below) (D := D) (cT := cT) (B0 := B0) (bud := M.2.2.2.2.1) (fS := fS) (T0 := T) (φ0 := φ) (x := x) (T' := T') (s' := s') hx hb hlocks m8 hr
      rw [← m5] at hret
      have hall : ∀ n pc L S T1 s1 cs, loopA M (fun j as T s k => (ctRun d j as T s).bind fun r => k r.1 r.2.1 r.2.2) n pc L S T1 s1 cs = some (x, T', s') → Wat p l e (headSpec (wsJ j) (rmJ (d + 1) j)).room s0 m (as.map (cv φ)).toArray below meth c (MQ below (QcJ D cT B0 φ M.2.2.2.2.2.1 T x T' s') (as.map (cv φ)).toArray s0 M.2.2.2.2.1.1 M.2.2.2.2.1.2 (sA B0)) D cT B0 (fS, T, φ) M.2.2.2.1 M.2.2.2.2.1 pc L S T1 s1 cs := by
        intro n
        induction n with
        | zero => intro pc L S T1 s1 cs h; cases h
        | succ n ihn =>
          intro pc L S T1 s1 cs h
          exact seg_okA C (fun z => by obtain ⟨a1, a2⟩ := m2 z; exact ⟨by rw [hname.1]; exact a1, a2⟩) (fun T1 => cal_ct ih rfl T1) (fun pc L S T s cs hk => ihn pc L S T s cs hk) (fun x1 T1 s1 hk => by cases hk; exact hret) _ m6 pc L S T1 s1 cs h
      have hw := hall _ _ _ _ _ _ _ h
      have hl := lv_entry (as.map (cv φ)) (n := mx j) (by rw [sl_len, ← m10]; exact hms)
      rw [lg_entry_eq]
      rw [ent_cv] at hl
      have hwat := hw φ s0.heap [] _ ⟨hP, hD, va_S.rf, hs, hT, hf, Nat.le_refl _, fun _ _ => rfl⟩ (by rw [m3]; exact hl) (ent_can as 0 ha) (fun v hv => by cases hv) ⟨Nat.zero_le _, Nat.zero_le _⟩
      rw [m5, m4] at hwat
      exact hwat
end MetA
