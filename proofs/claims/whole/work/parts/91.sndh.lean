/-! ===== arrays of references; copying; constructors of nest mates; the words' ordinal; constants ===== -/
section More
variable {p : Program} {l : Launch} {e : Env} {R : Room} {s0 : State} {m : MethodId} {args : Array Value} {below : List Frame} {meth : Method} {c : Code} {Q : State → Prop} {D : va_G} {cT : Nat → ClassId} {B0 : Nat} {G : mG} {nL : Nat} {bud : Nat × Nat} {scr : Nat × (Nat → Int)} {Sx : State → Prop}
variable {cc : ByteArray} {q : Nat} {L : mL} {S : List mV} {T : mT} {s : mS} {cs : Nat × Nat} {own : String}
theorem ok_newq (hx : p.tables.exec = Jvm.exec) (hb : c.code = cc) (hown : s0.vm.findClass own = some m.cls) (hK : va_K D clL (tysL cT) s0) (hB0 : B0 ≤ s0.heap.size)
    {C : String} {idx t0 tc : Nat} {n : Int} (htk : tc = 1 ∨ tc = 2 ∨ tc = 3 ∨ tc = 4 ∨ tc = 6 ∨ tc = 7) (hcl : (Cond.classLink own idx C).before args s0 = true) (hover : va_AO C s0) (ht0 : (tysL cT)[t0]? = some (cT tc, .object C)) (htc : ∀ (φ : Nat → Nat) (T : mT) (s : mS) (t : Nat), acon φ T s t tc = .inr (.inr (.inr (.inr (fun j => (T.2.2 t j).map φ)))))
    (hd : decode cc q = .ok (.anewarray idx, 3)) (hn : 0 ≤ n) (hn2 : n.toNat ≤ 10000) (hlt : T.1 + 1 < wB) (hb1 : cs.1 + 1 ≤ bud.1) (hb2 : cs.2 + n.toNat ≤ bud.2) (hRc : bud.1 ≤ R.cells) (hRs : bud.2 ≤ R.slots)
    (hk : Wat p l e R s0 m args below meth c Q D cT B0 G nL bud (q + 3) L (rv (some T.1) :: S) (mkArr T s tc n.toNat).1 (mkArr T s tc n.toNat).2 (cs.1 + 1, cs.2 + n.toNat)) : Wat p l e R s0 m args below meth c Q D cT B0 G nL bud q L (iv n :: S) T s cs := by
  intro φ H locs ls hS hl hL hc hbd
  obtain ⟨hP, hD, hSS, hcs, hcT, hf⟩ := hS
  have hcn : can n := cS_head hc
  have hc := cS_tail hc
  have hnn : ¬ Int32.ofInt n < 0 := by
    intro h; have := (i32_lt hcn can_0).mp h; omega
  refine va_newq hx hb hown hcl hover hK hP hD hSS (fun q h => Nat.le_trans hB0 h) hnn (i32_clamp hcn) (by omega) (Nat.le_trans hb1 hRc) (Nat.le_trans hb2 hRs) hd (fun a cA H1 hK1 hP1 hD1 hS1 => ?_)
  have hcA : cA = cT tc := by
    obtain ⟨k1, c1, -, -, -, h1⟩ := (hK1.2 (tysL cT).length (cA, .object C) (by simp)).2
    obtain ⟨k2, c2, -, -, -, h2⟩ := (hK.2 t0 _ ht0).2
    exact Option.some.inj (h1.symm.trans h2)
  subst hcA
  have ec : conc (fun i => if i = T.1 then a else φ i) cT (mkArr T s tc n.toNat).1 (mkArr T s tc n.toNat).2 = conc φ cT T s ++ [(a, .inl (cT tc, n.toNat, .inr (.inr (.inr (.inr (fun _ => none))))))] := by
    rw [conc_push (a := a) (φ := φ) hcs hcT rfl (fun t h => by simp [mkArr, h]) (fun t h => by funext k; simp [mkArr, h]) (fun t h => by funext k; simp [mkArr, h]) (fun t h => by funext k; simp [mkArr, h])]
    congr 2
    have e0 : (mkArr T s tc n.toNat).1.2.1 T.1 = (1, tc, n.toNat) := by simp [mkArr]
    unfold cellE
    rw [e0]
    show ((_, cellA _ _ _ _ _ _ _) : Nat × va_E) = _
    unfold cellA
    rw [htc]
    have e1 : (fun j => ((mkArr T s tc n.toNat).1.2.2 T.1 j).map (fun i => if i = T.1 then a else φ i)) = (fun _ => none) := by
      funext j; simp [mkArr]
    rw [e1]
  have k := hk (fun i => if i = T.1 then a else φ i) H1 locs ls ⟨by rw [ec]; exact hP1, by rw [ec]; exact hD1, hS1, canS_arr hcs, canT_arr hcT hlt htk hn2, Fx_push hf hcT (Nat.le_succ _)⟩ (by rw [cvp_ok (ext_push hcT) hL]; exact hl) (fun q hq => canV_mono (Nat.le_succ _) (hL q hq)) (cS_cons (show okR _ _ from fun i hi => by cases hi; exact Or.inl (Nat.lt_succ_self _)) (fun v hv => canV_mono (Nat.le_succ _) (hc v hv))) ⟨hb1, hb2⟩
  have e9 : (rv (some T.1) :: S).map (cv (fun i => if i = T.1 then a else φ i)) = .ref a :: S.map (cv φ) := by
    rw [List.map_cons, cvs_ok (ext_push hcT) hc]
    congr 1
    simp [cv, va_rf]
  rw [e9] at k
  exact k
theorem ok_aast (hx : p.tables.exec = Jvm.exec) (hb : c.code = cc) (hK : va_K D clL (tysL cT) s0) {t x ci tc t0 : Nat} {i : Int} (hd : decode cc q = .ok (.aastore, 1)) (h0 : (T.2.1 t).1 = 1) (h1 : (T.2.1 t).2.1 = tc) (ht : t < T.1) (ht0 : (tysL cT)[t0]? = some (cT tc, .object (clN ci))) (htc : ∀ (φ : Nat → Nat) (T : mT) (s : mS) (t : Nat), acon φ T s t tc = .inr (.inr (.inr (.inr (fun j => (T.2.2 t j).map φ)))))
    (hi : 0 ≤ i ∧ i < ((T.2.1 t).2.2 : Int)) (hx0 : (T.2.1 x).1 = 0) (hx1 : (T.2.1 x).2.1 = ci) (hxt : x < T.1)
    (hk : Wat p l e R s0 m args below meth c Q D cT B0 G nL bud (q + 1) L S (setR T t i.toNat (some x)) s cs) : Wat p l e R s0 m args below meth c Q D cT B0 G nL bud q L (rv (some x) :: iv i :: rv (some t) :: S) T s cs := by
  intro φ H locs ls hS hl hL hc hbd
  obtain ⟨hP, hD, hSS, hcs, hcT, hf⟩ := hS
  obtain ⟨hci, h2⟩ := sh_obj hcT hxt hx0 hx1
  have hcn : can i := cS_head (cS_tail hc)
  have ha := conc_arr (φ := φ) (cT := cT) (s := s) ht h0 h1 rfl
  rw [htc] at ha
  refine va_astq (D := D) (r := (clN ci, tX ci, nF ci)) hx hb hK hP hD hSS t t0 x ci ha ht0 (conc_obj hxt hx0 hx1 h2) (clL_get ci hci) ((i32_in hcn).mpr hi) hd (fun H1 locs1 hP1 hD1 hS1 => ?_)
  have ec : conc φ cT (setR T t i.toNat (some x)) s = (conc φ cT T s).set t (φ t, .inl (cT tc, (T.2.1 t).2.2, .inr (.inr (.inr (.inr (va_up (fun j => (T.2.2 t j).map φ) (Int32.ofInt i).toNatClampNeg (some (φ x)))))))) := by
    refine conc_set rfl rfl (fun a ha => by funext j; simp [setR, ha]) (fun _ _ => rfl) (fun _ _ => rfl) ?_
    unfold cellE
    have e0 : (setR T t i.toNat (some x)).2.1 t = T.2.1 t := rfl
    rw [e0, h0, h1]
    show cellA _ _ _ _ _ _ _ = _
    unfold cellA
    rw [htc, i32_clamp hcn]
    have e1 : (fun j => ((setR T t i.toNat (some x)).2.2 t j).map φ) = va_up (fun j => (T.2.2 t j).map φ) i.toNat (some (φ x)) := by
      funext j
      unfold va_up
      by_cases hj : j = i.toNat
      · simp [setR, hj]
      · simp [setR, hj]
    rw [e1]
  exact hk φ H1 locs1 ls ⟨by rw [ec]; exact hP1, by rw [ec]; exact hD1, hS1, hcs, canT_setR hcT hxt, hf⟩ hl hL (cS_tail (cS_tail (cS_tail hc))) hbd
theorem canS_cpyI {a sp d dp n : Nat} (h : canS s) : canS (cpyI s a sp d dp n) := by
  refine ⟨fun x j => ?_, h.2⟩
  show can (if x = d ∧ dp ≤ j ∧ j < dp + n then s.1 a (sp + (j - dp)) else s.1 x j)
  split
  · exact h.1 _ _
  · exact h.1 _ _
theorem canS_cpyJ {a sp d dp n : Nat} (h : canS s) : canS (cpyJ s a sp d dp n) := by
  refine ⟨h.1, fun x j => ?_⟩
  show canJ (if x = d ∧ dp ≤ j ∧ j < dp + n then s.2 a (sp + (j - dp)) else s.2 x j)
  split
  · exact h.2 _ _
  · exact h.2 _ _
theorem ok_copyI (hx : p.tables.exec = Jvm.exec) (hb : c.code = cc) (hml : c.maxLocals = nL) (hown : s0.vm.findClass own = some m.cls) (hK : va_K D clL (tysL cT) s0) {idx a t : Nat} {sp dp n : Int} (hlink : (Cond.methodLink own idx arraycopyName).before args s0 = true) (hnat : (Cond.native arraycopyName).before args s0 = true) (hstat : (Cond.static arraycopyName).before args s0 = true) (hini : (Cond.initialized "java/lang/System").before args s0 = true)
    (hd : decode cc q = .ok (.invokestatic idx, 3)) (ha0 : (T.2.1 a).1 = 1) (ha1 : (T.2.1 a).2.1 = 1) (ha : a < T.1) (ht0 : (T.2.1 t).1 = 1) (ht1 : (T.2.1 t).2.1 = 1) (ht : t < T.1) (h1 : 0 ≤ sp) (h2 : 0 ≤ dp) (h3 : 0 ≤ n) (h4 : sp + n ≤ ((T.2.1 a).2.2 : Int)) (h5 : dp + n ≤ ((T.2.1 t).2.2 : Int)) (hsum : msum S ≤ 8) (hRf : 1 ≤ R.frames) (hRl : 64 ≤ R.locals)
    (hk : Wat p l e R s0 m args below meth c Q D cT B0 G nL bud (q + 3) L S T (cpyI s a sp.toNat t dp.toNat n.toNat) cs) : Wat p l e R s0 m args below meth c Q D cT B0 G nL bud q L (iv n :: iv dp :: rv (some t) :: iv sp :: rv (some a) :: S) T s cs := by
  intro φ H locs ls hS hl hL hc hbd
  obtain ⟨hP, hD, hSS, hcs, hcT, hf⟩ := hS
  have c1 : can n := cS_head hc
  have c2 : can dp := cS_head (cS_tail hc)
  have c3 : can sp := cS_head (cS_tail (cS_tail (cS_tail hc)))
  have nn : ∀ {x : Int}, can x → 0 ≤ x → ¬ Int32.ofInt x < 0 := fun hcx h0 h => by have := (i32_lt hcx can_0).mp h; omega
  refine va_copyi (D := D) hx hb (hml.trans hl.1.symm) hown hlink hnat hstat hini hK hP hD hSS a t 0 0 (conc_arr ha ha0 ha1 rfl) (conc_arr ht ht0 ht1 rfl) rfl rfl rfl (nn c3 h1) (nn c2 h2) (nn c1 h3) (by rw [i32_clamp c3, i32_clamp c1]; omega) (by rw [i32_clamp c2, i32_clamp c1]; omega) (fun i _ => rfl) hRf ?_ hd (fun H1 locs1 hP1 hD1 hS1 => ?_)
  · rw [sum_cv]
    have : nativeFrameWords "java/lang/System" "arraycopy" 5 ≤ 40 := by decide +kernel
    omega
  · have ec : conc φ cT T (cpyI s a sp.toNat t dp.toNat n.toNat) = (conc φ cT T s).set t (φ t, .inl (cT 1, (T.2.1 t).2.2, .inl (va_cpy (fun j => Int32.ofInt (s.1 a j)) (fun j => Int32.ofInt (s.1 t j)) (Int32.ofInt sp).toNatClampNeg (Int32.ofInt dp).toNatClampNeg (Int32.ofInt n).toNatClampNeg))) := by
      refine conc_set rfl rfl (fun _ _ => rfl) (fun b hb => by funext j; simp [cpyI, hb]) (fun _ _ => rfl) ?_
      unfold cellE; rw [ht0, ht1, i32_clamp c1, i32_clamp c2, i32_clamp c3]
      have e1 : (fun j => Int32.ofInt ((cpyI s a sp.toNat t dp.toNat n.toNat).1 t j)) = va_cpy (fun j => Int32.ofInt (s.1 a j)) (fun j => Int32.ofInt (s.1 t j)) sp.toNat dp.toNat n.toNat := by
        funext j
        unfold va_cpy
        show Int32.ofInt (if t = t ∧ dp.toNat ≤ j ∧ j < dp.toNat + n.toNat then s.1 a (sp.toNat + (j - dp.toNat)) else s.1 t j) = _
        by_cases hj : dp.toNat ≤ j ∧ j < dp.toNat + n.toNat
        · rw [if_pos ⟨rfl, hj⟩, if_pos hj]
        · rw [if_neg (fun z => hj z.2), if_neg hj]
      rw [← e1]; rfl
    exact hk φ H1 locs1 ls ⟨by rw [ec]; exact hP1, by rw [ec]; exact hD1, hS1, canS_cpyI hcs, hcT, hf⟩ hl hL (cS_tail (cS_tail (cS_tail (cS_tail (cS_tail hc))))) hbd
theorem ok_copyJ (hx : p.tables.exec = Jvm.exec) (hb : c.code = cc) (hml : c.maxLocals = nL) (hown : s0.vm.findClass own = some m.cls) (hK : va_K D clL (tysL cT) s0) {idx a t : Nat} {sp dp n : Int} (hlink : (Cond.methodLink own idx arraycopyName).before args s0 = true) (hnat : (Cond.native arraycopyName).before args s0 = true) (hstat : (Cond.static arraycopyName).before args s0 = true) (hini : (Cond.initialized "java/lang/System").before args s0 = true)
    (hd : decode cc q = .ok (.invokestatic idx, 3)) (ha0 : (T.2.1 a).1 = 1) (ha1 : (T.2.1 a).2.1 = 2) (ha : a < T.1) (ht0 : (T.2.1 t).1 = 1) (ht1 : (T.2.1 t).2.1 = 2) (ht : t < T.1) (h1 : 0 ≤ sp) (h2 : 0 ≤ dp) (h3 : 0 ≤ n) (h4 : sp + n ≤ ((T.2.1 a).2.2 : Int)) (h5 : dp + n ≤ ((T.2.1 t).2.2 : Int)) (hsum : msum S ≤ 8) (hRf : 1 ≤ R.frames) (hRl : 64 ≤ R.locals)
    (hk : Wat p l e R s0 m args below meth c Q D cT B0 G nL bud (q + 3) L S T (cpyJ s a sp.toNat t dp.toNat n.toNat) cs) : Wat p l e R s0 m args below meth c Q D cT B0 G nL bud q L (iv n :: iv dp :: rv (some t) :: iv sp :: rv (some a) :: S) T s cs := by
  intro φ H locs ls hS hl hL hc hbd
  obtain ⟨hP, hD, hSS, hcs, hcT, hf⟩ := hS
  have c1 : can n := cS_head hc
  have c2 : can dp := cS_head (cS_tail hc)
  have c3 : can sp := cS_head (cS_tail (cS_tail (cS_tail hc)))
  have nn : ∀ {x : Int}, can x → 0 ≤ x → ¬ Int32.ofInt x < 0 := fun hcx h0 h => by have := (i32_lt hcx can_0).mp h; omega
  refine va_copyl (D := D) hx hb (hml.trans hl.1.symm) hown hlink hnat hstat hini hK hP hD hSS a t 1 1 (conc_arr ha ha0 ha1 rfl) (conc_arr ht ht0 ht1 rfl) rfl rfl rfl (nn c3 h1) (nn c2 h2) (nn c1 h3) (by rw [i32_clamp c3, i32_clamp c1]; omega) (by rw [i32_clamp c2, i32_clamp c1]; omega) (fun i _ => rfl) hRf ?_ hd (fun H1 locs1 hP1 hD1 hS1 => ?_)
  · rw [sum_cv]
    have : nativeFrameWords "java/lang/System" "arraycopy" 5 ≤ 40 := by decide +kernel
    omega
  · have ec : conc φ cT T (cpyJ s a sp.toNat t dp.toNat n.toNat) = (conc φ cT T s).set t (φ t, .inl (cT 2, (T.2.1 t).2.2, .inr (.inl (va_cpy (fun j => Int64.ofInt (s.2 a j)) (fun j => Int64.ofInt (s.2 t j)) (Int32.ofInt sp).toNatClampNeg (Int32.ofInt dp).toNatClampNeg (Int32.ofInt n).toNatClampNeg)))) := by
      refine conc_set rfl rfl (fun _ _ => rfl) (fun _ _ => rfl) (fun b hb => by funext j; simp [cpyJ, hb]) ?_
      unfold cellE; rw [ht0, ht1, i32_clamp c1, i32_clamp c2, i32_clamp c3]
      have e1 : (fun j => Int64.ofInt ((cpyJ s a sp.toNat t dp.toNat n.toNat).2 t j)) = va_cpy (fun j => Int64.ofInt (s.2 a j)) (fun j => Int64.ofInt (s.2 t j)) sp.toNat dp.toNat n.toNat := by
        funext j
        unfold va_cpy
        show Int64.ofInt (if t = t ∧ dp.toNat ≤ j ∧ j < dp.toNat + n.toNat then s.2 a (sp.toNat + (j - dp.toNat)) else s.2 t j) = _
        by_cases hj : dp.toNat ≤ j ∧ j < dp.toNat + n.toNat
        · rw [if_pos ⟨rfl, hj⟩, if_pos hj]
        · rw [if_neg (fun z => hj z.2), if_neg hj]
      rw [← e1]; rfl
    exact hk φ H1 locs1 ls ⟨by rw [ec]; exact hP1, by rw [ec]; exact hD1, hS1, canS_cpyJ hcs, hcT, hf⟩ hl hL (cS_tail (cS_tail (cS_tail (cS_tail (cS_tail hc))))) hbd
/-- a nest mate's constructor -/
theorem ok_callIN (hx : p.tables.exec = Jvm.exec) (hb : c.code = cc) (hml : c.maxLocals = nL) (hts : ∀ w ∈ Tw, w.before args s0 = true) (hown : s0.vm.findClass own = some m.cls) (hK : va_K D clL (tysL cT) s0) (hst : Still B0 Sx) (hSx : Sx s0) (hB0 : B0 ≤ s0.heap.size)
    {d j n idx t : Nat} {as : List mV} {x : Int} {T' : mT} {s' : mS} (hd : decode cc q = .ok (.invokespecial idx, 3)) (hcode : Cond.code (yy j) (bb j) (mx j) none ∈ Tw) (hrt : rt j = none) (hini : (Cond.initialized (yy j).cls).before args s0 = true) (hlink : va_Nw (.methodLinkNest own idx (yy j) "LentBoxes") s0) (hinst : (Cond.instanceMethod (yy j)).before args s0 = true) (hnm : (yy j).name = "<init>") (hy : yOk j n = true) (hR : d + 1 ≤ R.frames ∧ 64 * (d + 1) ≤ R.locals) (hn : as.length = n)
    (hsum : msum S ≤ 8) (hb1 : cs.1 + (jcost j).1 ≤ bud.1) (hb2 : cs.2 + (jcost j).2 ≤ bud.2) (hRc : bud.1 ≤ R.cells) (hRs : bud.2 ≤ R.slots)
    (hM : canS s → canT T → (∀ v ∈ rv (some t) :: as, canV T v) → MetJ D cT B0 G.1 Sx l d j (rv (some t) :: as) T s x T' s')
    (hk : Wat p l e R s0 m args below meth c Q D cT B0 G nL bud (q + 3) L (rvals (jsd j) x ++ S) T' s' (cs.1 + (jcost j).1, cs.2 + (jcost j).2)) :
    Wat p l e R s0 m args below meth c Q D cT B0 G nL bud q L (as.reverse ++ rv (some t) :: S) T s cs := by
  intro φ H locs ls hS hl hL hc hbd
  have hc1 : ∀ v ∈ rv (some t) :: as, canV T v := fun v hv => hc v (by
    rcases List.mem_cons.mp hv with rfl | hv
    · exact List.mem_append_right _ List.mem_cons_self
    · exact List.mem_append_left _ (List.mem_reverse.mpr hv))
  have hc2 : ∀ v ∈ S, canV T v := fun v hv => hc v (List.mem_append_right _ (List.mem_cons_of_mem _ hv))
  have hM := hM hS.2.2.2.1 hS.2.2.2.2.1 hc1
  obtain ⟨y1, y2, y3, y4⟩ := yOk_spec hy
  have hG := goodJ (j := j) (by rw [hrt]; exact hcode)
  have hcb := va_cnB (R := R) (args := args) (mc := (jcost j).1) (ms := (jcost j).2) (rm := rmJ d j) (ws := wsJ j) (bytes := bb j) (maxL := mx j) (ret := none) n hts hG (by unfold wsJ; rw [hrt]) rfl rfl hlink hini ⟨y1, y2, y3⟩ ⟨hR.1, by show 8 + (mx j + 11) + 64 * d ≤ R.locals; omega⟩
  refine ok_after hS hl hL hc2 hb1 hb2 (va_runIN (b := φ t) (As := as.map (cv φ)) (rest := S.map (cv φ)) ⟨hx, hb, hml, hown, hts⟩ (hM φ) ⟨hcb, hnm, hinst⟩ ⟨blindP hst, preP hst hSx hB0 hK hS⟩ rfl (by rw [List.length_map]; exact hn) hl.1 ?_ ?_ hd ⟨Nat.le_trans hb1 hRc, Nat.le_trans hb2 hRs⟩) hk
  · show (as.reverse ++ rv (some t) :: S).map (cv φ) = _
    rw [List.map_append, List.map_reverse]; rfl
  · exact lv_room (by rw [sum_cv]; exact hsum)
/-- a word's ordinal: a method of the class above -/
theorem ok_callU (hx : p.tables.exec = Jvm.exec) (hb : c.code = cc) (hml : c.maxLocals = nL) (hts : ∀ w ∈ Tw, w.before args s0 = true) (hown : s0.vm.findClass own = some m.cls) (hK : va_K D clL (tysL cT) s0) (hst : Still B0 Sx) (hSx : Sx s0) (hB0 : B0 ≤ s0.heap.size)
    {d j n idx t : Nat} {as : List mV} {x : Int} {T' : mT} {s' : mS} {C owner : String} {xn : MethodName} (hd : decode cc q = .ok (.invokevirtual idx, 3)) (hG : GoodIn Tw (va_wsU own idx C owner xn (yy j) (wsJ j))) (hyx : yy j = ⟨owner, xn.name, xn.desc⟩) (hy : owner ≠ "java/lang/invoke/MethodHandle" ∧ owner ≠ "java/lang/invoke/VarHandle" ∧ (parseMethodDescriptor xn.desc).map (fun d => d.parameters.length) = some n) (hmx : mx j ≤ 45) (hR : d + 1 ≤ R.frames ∧ 64 * (d + 1) ≤ R.locals) (hn : as.length = n)
    (hrec : ∀ (φ : Nat → Nat) (H : Heap) (locs : List Loc), St8 D cT B0 G s0 φ T s H locs → ∃ cellB : Cell, H[φ t]? = some cellB ∧ cellB.vm.isStatics = false ∧ s0.vm.findClass C = some cellB.cls) (hsum : msum S ≤ 8) (hb1 : cs.1 + (jcost j).1 ≤ bud.1) (hb2 : cs.2 + (jcost j).2 ≤ bud.2) (hRc : bud.1 ≤ R.cells) (hRs : bud.2 ≤ R.slots)
    (hM : canS s → canT T → (∀ v ∈ rv (some t) :: as, canV T v) → MetJ D cT B0 G.1 Sx l d j (rv (some t) :: as) T s x T' s')
    (hk : Wat p l e R s0 m args below meth c Q D cT B0 G nL bud (q + 3) L (rvals (jsd j) x ++ S) T' s' (cs.1 + (jcost j).1, cs.2 + (jcost j).2)) :
    Wat p l e R s0 m args below meth c Q D cT B0 G nL bud q L (as.reverse ++ rv (some t) :: S) T s cs := by
  intro φ H locs ls hS hl hL hc hbd
  have hc1 : ∀ v ∈ rv (some t) :: as, canV T v := fun v hv => hc v (by
    rcases List.mem_cons.mp hv with rfl | hv
    · exact List.mem_append_right _ List.mem_cons_self
    · exact List.mem_append_left _ (List.mem_reverse.mpr hv))
  have hc2 : ∀ v ∈ S, canV T v := fun v hv => hc v (List.mem_append_right _ (List.mem_cons_of_mem _ hv))
  have hM := hM hS.2.2.2.1 hS.2.2.2.2.1 hc1
  have hcw := va_cwU (R := R) (args := args) (mc := (jcost j).1) (ms := (jcost j).2) (rm := rmJ d j) (bytes := bb j) (maxL := mx j) (ret := rt j) n hts hG rfl rfl rfl hyx hy ⟨hR.1, by show 8 + (mx j + 11) + 64 * d ≤ R.locals; omega⟩
  refine ok_after hS hl hL hc2 hb1 hb2 (va_runU (C := C) (b := φ t) (As := as.map (cv φ)) (rest := S.map (cv φ)) ⟨hx, hb, hml, hown, hts⟩ (hM φ) hcw ⟨blindP hst, hrec φ H locs hS, preP hst hSx hB0 hK hS⟩ rfl (by rw [List.length_map]; exact hn) hl.1 ?_ ?_ hd ⟨Nat.le_trans hb1 hRc, Nat.le_trans hb2 hRs⟩) hk
  · show (as.reverse ++ rv (some t) :: S).map (cv φ) = _
    rw [List.map_append, List.map_reverse]; rfl
  · exact lv_room (by rw [sum_cv]; exact hsum)
theorem ok_ldc (hx : p.tables.exec = Jvm.exec) (hb : c.code = cc) (hown : s0.vm.findClass own = some m.cls) {idx a : Nat} (ha : can (a : Int)) (hcn : (Jvm.Cond.constant own idx (Int32.ofInt (a : Int))).before args s0 = true) (hd : decode cc q = .ok (.ldc idx, 2)) (hk : Wat p l e R s0 m args below meth c Q D cT B0 G nL bud (q + 2) L (iv (a : Int) :: S) T s cs) : Wat p l e R s0 m args below meth c Q D cT B0 G nL bud q L S T s cs :=
  fun φ H locs ls hS hl hL hc hbd => lv_ldc hx hb hown hcn hd (hk φ H locs ls hS hl hL (cS_cons ha hc) hbd)
theorem ok_ldcw (hx : p.tables.exec = Jvm.exec) (hb : c.code = cc) (hown : s0.vm.findClass own = some m.cls) {idx a : Nat} (ha : can (a : Int)) (hcn : (Jvm.Cond.constant own idx (Int32.ofInt (a : Int))).before args s0 = true) (hd : decode cc q = .ok (.ldc_w idx, 3)) (hk : Wat p l e R s0 m args below meth c Q D cT B0 G nL bud (q + 3) L (iv (a : Int) :: S) T s cs) : Wat p l e R s0 m args below meth c Q D cT B0 G nL bud q L S T s cs :=
  fun φ H locs ls hS hl hL hc hbd => lv_ldcw hx hb hown hcn hd (hk φ H locs ls hS hl hL (cS_cons ha hc) hbd)
theorem ok_ldc2 (hx : p.tables.exec = Jvm.exec) (hb : c.code = cc) (hown : s0.vm.findClass own = some m.cls) {idx a : Nat} (ha : canJ (a : Int)) (hcn : (Jvm.Cond.constantLong own idx (Int64.ofInt (a : Int))).before args s0 = true) (hd : decode cc q = .ok (.ldc2_w idx, 3)) (hk : Wat p l e R s0 m args below meth c Q D cT B0 G nL bud (q + 3) L (jv (a : Int) :: S) T s cs) : Wat p l e R s0 m args below meth c Q D cT B0 G nL bud q L S T s cs :=
  fun φ H locs ls hS hl hL hc hbd => lv_ldc2 hx hb hown hcn hd (hk φ H locs ls hS hl hL (cS_cons ha hc) hbd)
end More
