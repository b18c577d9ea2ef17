/-! ===== dead, wear, mean: the roads that throw ===== -/
def SxT (B0 : Nat) (fS : Nat → Nat) (U : State) : Prop := SxW B0 fS scr0 U ∧ LSW B0 U
theorem SxT_still (B0 : Nat) (fS : Nat → Nat) : Still B0 (SxT B0 fS) := fun u t h hW hq => ⟨SxW_still B0 fS scr0 u t h.1 hW hq, LSW_still B0 u t h.2 hW hq⟩
/-- what a callee that throws leaves -/
def ThQ (D : va_G) (cT : Nat → ClassId) (B0 : Nat) (φ : Nat → Nat) (s : mS) : Array Value → State → Outcome → State → Prop := fun _ st oc t =>
  ∃ (a : Addr) (ce : Cell) (L : List Loc), oc = .threw a ∧ t.heap[a]? = some ce ∧ ce.vm = .none ∧ st.vm.findClass cNSE = some ce.cls ∧ st.WarmedH t.vm ∧ st.sameButNew ({ t with vm := st.vm } : State) L 64 1000 ∧ (∀ q ∈ L, sA B0 q.base) ∧ va_P D clL (conc φ cT TT s) t.heap ∧ va_D (sA B0) (conc φ cT TT s) ∧ va_F (sA B0) st t
def TQ (D : va_G) (cT : Nat → ClassId) (B0 : Nat) (φ : Nat → Nat) (s : mS) (below : List Frame) (a : Array Value) (s0 : State) : State → Prop := fun t => ∃ o, t.status = .running ∧ Ended t below o ∧ ThQ D cT B0 φ s a s0 o t
def rmT (d : Nat) : Room := { frames := d, cells := 64, slots := 1000, locals := 64 * d }
theorem ext_conc {φ0 φ : Nat → Nat} {cT : Nat → ClassId} {T : mT} {s : mS} (h : extF T φ0 φ) (hs : canS s) (hT : canT T) : conc φ cT T s = conc φ0 cT T s := by
  unfold conc
  apply List.map_congr_left
  intro t ht
  rw [h t (Or.inl (List.mem_range.mp ht)), cell_ok h hs hT t]
section Tw
variable {p : Program} {l : Launch} {e : Env} {R : Room} {s0 : State} {m : MethodId} {args : Array Value} {below : List Frame} {meth : Method} {c : Code} {D : va_G} {cT : Nat → ClassId} {B0 : Nat} {fS φ0 : Nat → Nat} {nL : Nat} {bud : Nat × Nat} {cc : ByteArray}
/-- at 'new NoSuchElementException', a text of place idx of length n behind it -/
theorem wat_throw (hx : p.tables.exec = Jvm.exec) (hb : c.code = cc) (hml : c.maxLocals = nL) (htr : e.platform.stackTraces = false) (hown : s0.vm.findClass "LentBoxes" = some m.cls) (hts : ∀ w ∈ Tw, w.before args s0 = true) (hSx : SxW B0 fS scr0 s0) (hLS : LSW B0 s0) (hB0 : B0 ≤ s0.heap.size) (hlocks : meth.locks = false) (hnoex : c.exceptionTable.isEmpty = true)
    {pc q6 : Nat} {L : mL} {s : mS} {cs : Nat × Nat} (hd0 : decode cc pc = .ok (.new 183, 3)) (hd3 : decode cc (pc + 3) = .ok (.dup, 1))
    (hld : ∀ {H : Heap} {locs : List Loc} {cells slots : Nat} {Q : State → Prop} {ls : Array Slot} {rest : List Value}, (∀ a : Nat, W p l e R s0 m args below meth c H locs cells slots Q (F0 m q6 ls (.ref a :: rest))) → W p l e R s0 m args below meth c H locs cells slots Q (F0 m (pc + 4) ls rest))
    (hd6 : decode cc q6 = .ok (.invokespecial 187, 3)) (hd9 : decode cc (q6 + 3) = .ok (.athrow, 1)) (hcs : bud = (0, 0)) (hRf : 5 < R.frames) (hRl : 82 ≤ R.locals) (hRc : 1 ≤ R.cells) (hRs : 6 ≤ R.slots) :
    Wat p l e R s0 m args below meth c (TQ D cT B0 φ0 s below args s0) D cT B0 (fS, TT, φ0) nL bud pc L [] TT s cs := by
  intro φ H locs ls hS hl hL hc hbd
  obtain ⟨hP, hD, hSS, hcs', hcT, hf⟩ := hS
  subst hcs
  have e1 : cs.1 = 0 := Nat.le_zero.mp hbd.1
  have e2 : cs.2 = 0 := Nat.le_zero.mp hbd.2
  rw [e1, e2]
  refine W.newc hx hb hown (hts _ wo_13) (hts _ wo_1) (hts _ wo_12) (g := F0 m pc ls []) rfl hd0 (by omega) (by omega) (fun cC kC h1 h2 h3 h4 => ?_)
  refine lv_dup hx hb (pc := pc + 3) (ls := ls) (rest := []) (va := .ref H.size) hd3 rfl ?_
  refine hld (fun a => ?_)
  intro V hV X
  have hnew : s0.heap.size ≤ H.size := hSS.1
  obtain ⟨U, u1, u2, u3, u4, u5, ⟨ce, u6, u7, u8⟩, u9, u10⟩ := nse_throw X hx htr hown hts (hSx.2.2.2.2.2.2.2.2.2.2.2.2.2.2.2.2.2) hLS hSS.2.2 (a := H.size) (cX := cC) (kX := kC) h1 h2 (by rw [hV]; simp [freshCell]) hnew (msg := .ref a) rfl (g := F0 m q6 ls [.ref a, .ref H.size, .ref H.size]) rfl (by rw [hml]; exact hl.1) rfl rfl (rest := []) rfl (by rw [hb]; exact hd6) (by rw [hb]; exact hd9)
    (fun x hx => by
      have h0 : c.exceptionTable.size = 0 := by simpa [Array.isEmpty] using hnoex
      have h1 : c.exceptionTable.toList = [] := List.eq_nil_of_length_eq_zero (by simpa using h0)
      rw [h1] at hx; cases hx) hRf (by show 2 * 0 + (1 + 0) + 81 ≤ R.locals; omega) hlocks
  have hVs : V.heap.size = H.size + 1 := by rw [hV]; simp
  have hkeep : ∀ q, q < H.size → U.heap[q]? = H[q]? := by
    intro q hq
    rw [u9 q (Nat.ne_of_lt hq), hV, Array.getElem?_push, if_neg (Nat.ne_of_lt hq)]
  refine ⟨U, u1, .threw H.size, u2, u3, H.size, ce, locs, rfl, u6, u8, by rw [u7]; exact h1, u4, u5.weaken (fun y hy _ => hy) (by omega) (by omega), hSS.2.2, ?_, ?_, ?_⟩
  · rw [← ext_conc hf.2.2 hcs' hcT]
    exact va_P.kept hP (fun k q hk => hkeep _ (hP k q hk).lt)
  · rw [← ext_conc hf.2.2 hcs' hcT]; exact hD
  · refine ⟨by rw [u10, hVs]; omega, fun q h1 h2 => ?_⟩
    rw [hkeep q (Nat.lt_of_lt_of_le h1 hSS.1)]
    exact hSS.2.1 q h1 h2
end Tw
section Tm
variable {l : Launch} {D : va_G} {cT : Nat → ClassId} {B0 : Nat} {fS : Nat → Nat}
/-- ldc_w of a text -/
theorem w_ldcw {p : Program} {e : Env} {R : Room} {s0 : State} {m : MethodId} {args : Array Value} {below : List Frame} {meth : Method} {c : Code} {cc : ByteArray} (hx : p.tables.exec = Jvm.exec) (hb : c.code = cc) {own tx : String} {idx a q : Nat} (hown : s0.vm.findClass own = some m.cls) (hZ : vk_R own idx tx a s0) (hd : decode cc q = .ok (.ldc_w idx, 3))
    {H : Heap} {locs : List Loc} {cells slots : Nat} {Q : State → Prop} {ls : Array Slot} {rest : List Value} (kk : W p l e R s0 m args below meth c H locs cells slots Q (F0 m (q + 3) ls (.ref a :: rest))) : W p l e R s0 m args below meth c H locs cells slots Q (F0 m q ls rest) := by
  intro U hU X
  obtain ⟨t, a1, b1⟩ := kk U hU X
  refine ⟨t, ?_, b1⟩
  obtain ⟨k0, cf, i, a', hk0, hcf, hcp, -, hr, hev'⟩ := Cond.stringRef_spec hown hZ.1
  cases hZ.2.symm.trans hev'
  obtain ⟨k', hk', he⟩ := X.warmed.alike.2.2 _ _ hk0
  have hr' : k'.resolved[idx]? = some (some (.string a)) := by
    rcases X.warmed.entry hk0 hk' idx with h | ⟨h, -⟩
    · rw [h]; exact hr
    · rw [hr] at h; cases h
  have hdg : decode c.code (F0 m q ls rest).pc = .ok (.ldc_w idx, 3) := by rw [hb]; exact hd
  jvm_step X.here [hx, hdg, ldc_w.wp_string (s := U) (f := F0 m q ls rest) X.here.top hk' (by rw [he]; exact hcf) hcp hr']
  exact a1
/-- which text lies behind 'new' and 'dup', by ldc or by ldc_w -/
def txtB (cc : ByteArray) (pc q6 : Nat) : Bool := (decide (decode cc (pc + 4) = .ok (.ldc 185, 2)) && Nat.beq q6 (pc + 6)) || ((decide (decode cc (pc + 4) = .ok (.ldc 214, 2)) && Nat.beq q6 (pc + 6)) || (decide (decode cc (pc + 4) = .ok (.ldc_w 316, 3)) && Nat.beq q6 (pc + 7)))
def thrB (cc : ByteArray) (pc q6 : Nat) : Bool := decide (decode cc pc = .ok (.new 183, 3)) && (decide (decode cc (pc + 3) = .ok (.dup, 1)) && (txtB cc pc q6 && (decide (decode cc q6 = .ok (.invokespecial 187, 3)) && decide (decode cc (q6 + 3) = .ok (.athrow, 1)))))
theorem thr_met {j : Nat} {M : mM} (hM : MiOk j M) (hcl : (yy j).cls = "LentBoxes") (hco : jcost j = (0, 0)) (hfl : l.flags = flags0) {d : Nat} (hd : 6 ≤ d) {env : Nat → List mV → mS → Option (Int × mS)} (henv : EnvOk l D cT B0 fS scr0 TT d env) {as : List mV} {s : mS} (hms : msum as ≤ jmx j) (hs : canS s) (ha : ∀ v ∈ as, canV TT v)
    {pc q6 : Nat} (hthr : thrB (bb j) pc q6 = true)
    (hseg : ∀ (kc : mK Unit) (kr : Int → mT → mS → Option Unit), seg Z0 M scr0 (fun j as T s k => (env j as s).bind fun p => k p.1 T p.2) M.2.2.2.2.2.2.2.1 0 (ent 0 as) [] TT s (0, 0) kc kr = kc pc [] [] TT s (0, 0)) (φ : Nat → Nat) :
    MetFree l (yy j) (headSpec (wsJ j) (rmT (d + 1))) (PcJ D cT B0 fS (SxT B0 fS) φ as TT s) (fun _ _ _ _ _ => True) (ThQ D cT B0 φ s) := by
  obtain ⟨m1, m2, m3, m4, m5, m6, m7, m8, m9, m10⟩ := hM
  simp only [thrB, Bool.and_eq_true, decide_eq_true_eq] at hthr
  obtain ⟨d0, d3, dt, d6, d9⟩ := hthr
  refine MetFree.of_bodyS (code := bb j) (maxLocals := mx j) (ret := rt j) m9 ?_ ?_
  · intro args s m h hn
    obtain ⟨meth, c, h1, h2, h3, h4, h5, h6, -, -⟩ := Cond.code_spec hn (atoms_spec (ws := wsJ j) h _ List.mem_cons_self)
    exact ⟨meth, c, h1, h2, h3, h4, h5, h6⟩
  · intro p e s0 m args below meth c s₁ B hml hv _
    obtain ⟨rfl, hB0, hP, hK, hD, ⟨hSx, hLS⟩, hf⟩ := hv
    have hx := B.exec
    have hb := B.bytes
    have hts0 := atoms_spec (ws := wsJ j) B.pre
    have hts : ∀ w ∈ Tw, w.before (as.map (cv φ)).toArray s0 = true := fun w hw => hts0 w (List.mem_cons_of_mem _ hw)
    have hown0 : s0.vm.findClass (yy j).cls = some m.cls := findClass_of_methodNamed B.named
    have hown : s0.vm.findClass "LentBoxes" = some m.cls := by rw [← hcl]; exact hown0
    have hlocks := B.notSynchronized
    have hno := BodyLoose.noHandlers B (hts0 _ List.mem_cons_self)
    have X0 := Stand.of_body B
    have htr : e.platform.stackTraces = false := Launch.traces_off hfl X0.admits
    have C : Cxt p (headSpec (wsJ j) (rmT (d + 1))).room s0 m (as.map (cv φ)).toArray c D cT B0 (fS, TT, φ) M.2.2.2.1 M.2.2.2.2.1 scr0 (yy j).cls M.2.2.2.2.2.2.1 (bb j) d := by
      refine ⟨hx, hb, by rw [m3]; exact hml, hown0, hts, hK, hSx, hB0, m7, ⟨Nat.le_refl _, Nat.le_refl _⟩, ?_, ?_, hin_ok⟩
      · rw [m4, hco]; exact Nat.zero_le _
      · rw [m4, hco]; exact Nat.zero_le _
    have hld : ∀ {H : Heap} {locs : List Loc} {cells slots : Nat} {Q : State → Prop} {ls : Array Slot} {rest : List Value}, (∀ a : Nat, W p l e (headSpec (wsJ j) (rmT (d + 1))).room s0 m (as.map (cv φ)).toArray below meth c H locs cells slots Q (F0 m q6 ls (.ref a :: rest))) → W p l e (headSpec (wsJ j) (rmT (d + 1))).room s0 m (as.map (cv φ)).toArray below meth c H locs cells slots Q (F0 m (pc + 4) ls rest) := by
      intro H locs cells slots Q ls rest k
      have hX2 := hSx.2.2.2.2.2.2.2.2.2.2.2.2.2.2.2.2.2
      obtain ⟨-, -, -, -, ⟨x5, h5⟩, ⟨x6, h6⟩, ⟨x7, h7⟩⟩ := hX2
      simp only [txtB, Bool.or_eq_true, Bool.and_eq_true, decide_eq_true_eq] at dt
      rcases dt with ⟨t1, t2⟩ | ⟨t1, t2⟩ | ⟨t1, t2⟩
      · have e6 := Nat.eq_of_beq_eq_true t2
        subst e6
        exact va_ldcS hx hb hown h5 t1 (k x5)
      · have e6 := Nat.eq_of_beq_eq_true t2
        subst e6
        exact va_ldcS hx hb hown h6 t1 (k x6)
      · have e6 := Nat.eq_of_beq_eq_true t2
        subst e6
        exact w_ldcw hx hb hown h7 t1 (k x7)
    have hw := seg_ok (α := Unit) (o := ()) (Q := TQ D cT B0 φ s below (as.map (cv φ)).toArray s0) C hArr_ok m1 m2 henv
      (kc := fun pc' _ S' _ s' _ => @ite _ (pc' = pc ∧ S' = [] ∧ s' = s) (Classical.propDecidable _) (some ()) none) (kr := fun _ _ _ => none)
      (fun pc' L' S' s' cs' hk => by
        by_cases hc : pc' = pc ∧ S' = [] ∧ s' = s
        · obtain ⟨rfl, rfl, rfl⟩ := hc
          exact wat_throw hx hb (by rw [m3]; exact hml) htr hown hts hSx hLS hB0 hlocks hno d0 d3 hld d6 d9 (by rw [m4, hco]) (by show 5 < d + 1; omega) (by show 82 ≤ 64 * (d + 1); omega) (by show 1 ≤ 64; omega) (by show 6 ≤ 1000; omega)
        · rw [if_neg hc] at hk; cases hk)
      (fun x s' hk => by cases hk) _ m6 0 (ent 0 as) [] s (0, 0) (by rw [hseg, if_pos ⟨rfl, rfl, rfl⟩])
    have hl := lv_entry (as.map (cv φ)) (n := mx j) (by rw [sl_len, ← m10]; exact hms)
    rw [ent_cv] at hl
    have hwat := hw φ s0.heap [] _ ⟨hP, hD, va_S.rf, hs, TT_can, hf, Nat.le_refl _, fun _ _ => rfl⟩ (by rw [m3]; exact hl) (ent_can as 0 ha) (fun v hv => by cases hv) ⟨Nat.zero_le _, Nat.zero_le _⟩
    rw [lg_entry_eq]
    obtain ⟨t, a1, o, b1, b2, b3⟩ := hwat s₁ (by rw [B.state]; rfl) X0
    exact ⟨t, o, a1, b1, b2, b3⟩
end Tm
set_option maxHeartbeats 1000000 in
set_option maxRecDepth 100000 in
theorem seg_dead {α : Type} (Z : mZ) (m : Nat) (a1 a2 : Int) (s : mS) (kc : mK α) (kr : Int → mT → mS → Option α) : seg Z Mi_158 scr0 (fun j as T s k => (zenv_158 Z m j as s).bind fun p => k p.1 T p.2) cd_158 0 (ent 0 [rv (some 0), iv a1, iv a2]) [] TT s (0, 0) kc kr =
    ((zf_X_isDead Z m a1 s).bind fun p0 => (if p0.1 = 0 then kc 8 [] [] TT p0.2 (0, 0) else (if a2 = 0 then (inR a1 12 (kr (p0.2.1 11 a1.toNat) TT p0.2)) else (if a2 = 1 then (inR a1 12 (kr (p0.2.1 25 a1.toNat) TT p0.2)) else (if a2 = 2 then (inR a1 12 (kr (p0.2.1 26 a1.toNat) TT p0.2)) else (if a2 = 3 then (inR a1 12 (kr (p0.2.1 27 a1.toNat) TT p0.2)) else (if a2 = 4 then (inR a1 12 (kr (p0.2.1 28 a1.toNat) TT p0.2)) else (if a2 = 5 then (inR a1 12 (kr (p0.2.1 29 a1.toNat) TT p0.2)) else (if a2 = 6 then (inR a1 12 (kr (p0.2.1 13 a1.toNat) TT p0.2)) else (if a2 = 7 then (inR a1 12 (kr (p0.2.1 14 a1.toNat) TT p0.2)) else kc 146 [] [] TT p0.2 (0, 0))))))))))) := rfl
set_option maxHeartbeats 1000000 in
set_option maxRecDepth 100000 in
theorem seg_wear {α : Type} (Z : mZ) (m : Nat) (a1 a2 : Int) (s : mS) (kc : mK α) (kr : Int → mT → mS → Option α) : seg Z Mi_166 scr0 (fun j as T s k => (zenv_166 Z m j as s).bind fun p => k p.1 T p.2) cd_166 0 (ent 0 [rv (some 0), iv a1, iv a2]) [] TT s (0, 0) kc kr =
    ((zf_X_isBox Z m a1 s).bind fun p0 => (if p0.1 = 0 then kc 17 [] [] TT p0.2 (0, 0) else (if a2 < 0 then kc 17 [] [] TT p0.2 (0, 0) else (if 1 < a2 then kc 17 [] [] TT p0.2 (0, 0) else (inR a1 9 (inR a1 9 ((zf_X_inLeastTerms Z m (p0.2.1 18 a1.toNat) (p0.2.1 7 a1.toNat) a2 p0.2).bind fun p1 => kr p1.1 TT p1.2))))))) := rfl
set_option maxHeartbeats 1000000 in
set_option maxRecDepth 100000 in
theorem seg_mean {α : Type} (Z : mZ) (m : Nat) (a1 : Int) (s : mS) (kc : mK α) (kr : Int → mT → mS → Option α) : seg Z Mi_169 scr0 (fun j as T s k => (zenv_169 Z m j as s).bind fun p => k p.1 T p.2) cd_169 0 (ent 0 [rv (some 0), iv a1]) [] TT s (0, 0) kc kr =
    (if s.1 4 2 = 0 then kc 22 [] [] TT s (0, 0) else (if a1 < 0 then kc 22 [] [] TT s (0, 0) else (if 1 < a1 then kc 22 [] [] TT s (0, 0) else kc 37 [(0, rv (some 0)), (1, iv a1), (2, iv 0), (3, iv 0)] [] TT s (0, 0)))) := rfl
