/-! ===== the law's own dead, wear, mean: both roads ===== -/
theorem map_one {α β : Type} {f : α → β} {b : β} : ∀ {l : List α}, l.map f = [b] → ∃ a, l = [a] ∧ f a = b
  | [], h => by cases h
  | [a], h => ⟨a, rfl, (List.cons.inj h).1⟩
  | a :: b' :: t, h => by cases (List.cons.inj h).2
theorem cdok_157 : codeB (bb 157) cd_157 = true := by decide +kernel
theorem cdok_165 : codeB (bb 165) cd_165 = true := by decide +kernel
theorem cdok_168 : codeB (bb 168) cd_168 = true := by decide +kernel
def M157 : mM := (false, false, 99, 5, (64, 1000), 1, rsLaw, cd_157, [])
def M165 : mM := (false, false, 99, 5, (64, 1000), 1, rsLaw, cd_165, [])
def M168 : mM := (false, false, 99, 4, (64, 1000), 1, rsLaw, cd_168, [])
set_option maxRecDepth 100000 in
theorem mok_157 : MwOk 157 M157 := ⟨rfl, rfl, rfl, rfl, rfl, codeOk_of cdok_157, resok_11, by decide +kernel, by decide +kernel, rfl⟩
set_option maxRecDepth 100000 in
theorem mok_165 : MwOk 165 M165 := ⟨rfl, rfl, rfl, rfl, rfl, codeOk_of cdok_165, resok_11, by decide +kernel, by decide +kernel, rfl⟩
set_option maxRecDepth 100000 in
theorem mok_168 : MwOk 168 M168 := ⟨rfl, rfl, rfl, rfl, rfl, codeOk_of cdok_168, resok_11, by decide +kernel, by decide +kernel, rfl⟩
set_option maxHeartbeats 1000000 in
set_option maxRecDepth 100000 in
theorem run_157 (Z : mZ) (env : Nat → List mV → mS → Option (Int × mS)) (n : Nat) (a1 a2 : Int) (s : mS) : runS Z TT M157 scr0 env (n + 1) 0 (ent 0 [rv (some 0), iv a1, iv a2, rv (some 269)]) [] s (0, 0) = (env 158 [rv (some 0), iv a1, iv a2] s).bind fun p => inR 0 1 (some (0, wJ p.2 269 0 p.1)) := rfl
set_option maxHeartbeats 1000000 in
set_option maxRecDepth 100000 in
theorem run_165 (Z : mZ) (env : Nat → List mV → mS → Option (Int × mS)) (n : Nat) (a1 a2 : Int) (s : mS) : runS Z TT M165 scr0 env (n + 1) 0 (ent 0 [rv (some 0), iv a1, iv a2, rv (some 269)]) [] s (0, 0) = (env 166 [rv (some 0), iv a1, iv a2] s).bind fun p => inR 0 1 (some (0, wJ p.2 269 0 p.1)) := rfl
set_option maxHeartbeats 1000000 in
set_option maxRecDepth 100000 in
theorem run_168 (Z : mZ) (env : Nat → List mV → mS → Option (Int × mS)) (n : Nat) (a1 : Int) (s : mS) : runS Z TT M168 scr0 env (n + 1) 0 (ent 0 [rv (some 0), iv a1, rv (some 269)]) [] s (0, 0) = (env 169 [rv (some 0), iv a1] s).bind fun p => inR 0 1 (some (0, wJ p.2 269 0 p.1)) := rfl
def lawB2 (cc : ByteArray) (idx : Nat) : Bool := decide (decode cc 0 = .ok (.aload_n 3, 1)) && (decide (decode cc 1 = .ok (.iconst 0, 1)) && (decide (decode cc 2 = .ok (.aload_n 0, 1)) && (decide (decode cc 3 = .ok (.iload_n 1, 1)) && (decide (decode cc 4 = .ok (.iload_n 2, 1)) && (decide (decode cc 5 = .ok (.invokevirtual idx, 3)) && (decide (decode cc 13 = .ok (.astore 4, 2)) && (decide (decode cc 15 = .ok (.iconst 1, 1)) && decide (decode cc 16 = .ok (.ireturn, 1)))))))))
def lawB1 (cc : ByteArray) (idx : Nat) : Bool := decide (decode cc 0 = .ok (.aload_n 2, 1)) && (decide (decode cc 1 = .ok (.iconst 0, 1)) && (decide (decode cc 2 = .ok (.aload_n 0, 1)) && (decide (decode cc 3 = .ok (.iload_n 1, 1)) && (decide (decode cc 4 = .ok (.invokevirtual idx, 3)) && (decide (decode cc 12 = .ok (.astore_n 3, 1)) && (decide (decode cc 13 = .ok (.iconst 1, 1)) && decide (decode cc 14 = .ok (.ireturn, 1))))))))
section Lt
variable {l : Launch} {D : va_G} {cT : Nat → ClassId} {B0 : Nat} {fS : Nat → Nat}
theorem thr_2 {j jc idx d : Nat} {M : mM} (hM : MwOk j M) (hco : jcost j = (64, 1000)) (hrk : jrk j = 1) (hm5 : mx j = 5) (hcls : (yy j).cls = "LentBoxesLaw") (hb2 : lawB2 (bb j) idx = true) {a1 a2 : Int} {s : mS} (hs : canS s) (hms : msum [rv (some 0), iv a1, iv a2, rv (some 269)] ≤ jmx j)
    (hT : ∀ φ, MetFree l (yy jc) (headSpec (wsJ jc) (rmT d)) (PcJ D cT B0 fS (SxT B0 fS) φ [rv (some 0), iv a1, iv a2] TT s) (fun _ _ _ _ _ => True) (ThQ D cT B0 φ s))
    (hcl : (yy jc).cls = "LentBoxes") (hlink : Cond.methodLink "LentBoxesLaw" idx (yy jc) ∈ Tw) (hinst : Cond.instanceMethod (yy jc) ∈ Tw) (hsel : Cond.selects (yy jc).cls (yy jc) (yy jc) ∈ Tw) (hini : Cond.initialized (yy jc).cls ∈ Tw) (hcode : Cond.code (yy jc) (bb jc) (mx jc) (rt jc) ∈ Tw) (hmx : mx jc ≤ 4) (hdesc : (parseMethodDescriptor (yy jc).desc).map (fun d => d.parameters.length) = some 2) :
    MetW l D cT B0 fS (d + 1) j [(0, 10, 13, 13)] [rv (some 0), iv a1, iv a2, rv (some 269)] s 1 s := by
  obtain ⟨m1, m2, m3, m4, m5, m6, m7, m8, m9, m10⟩ := hM
  simp only [lawB2, Bool.and_eq_true, decide_eq_true_eq] at hb2
  obtain ⟨d0, d1, d2, d3, d4, d5, d13, d15, d16⟩ := hb2
  intro φ
  refine va_MetW (cc := bb j) (maxL := mx j) (ret := rt j) (hh := [(0, 10, 13, 13)]) m9 rfl ?_
  intro p e s0 m args below meth c s₁ B hml hv
  obtain ⟨rfl, hB0, hP, hK, hD, hST, hf⟩ := hv
  have hx := B.exec
  have hb := B.bytes
  have hts0 := atoms_spec (ws := wsW j [(0, 10, 13, 13)]) B.pre
  have hts : ∀ w ∈ Tw, w.before ([rv (some 0), iv a1, iv a2, rv (some 269)].map (cv φ)).toArray s0 = true := fun w hw => hts0 w (List.mem_cons_of_mem _ hw)
  have hown : s0.vm.findClass "LentBoxesLaw" = some m.cls := by rw [← hcls]; exact findClass_of_methodNamed B.named
  have hret := ret_MQ (p := p) (l := l) (e := e) (R := (headSpec (wsW j [(0, 10, 13, 13)]) (rmJ (d + 1) j)).room) (s0 := s0) (m := m) (args := ([rv (some 0), iv a1, iv a2, rv (some 269)].map (cv φ)).toArray) (below := below) (D := D) (cT := cT) (B0 := B0) (bud := jcost j) (fS := fS) (T0 := TT) (φ0 := φ) (x := 1) (T' := TT) (s' := s) hx hb B.notSynchronized m8 B.returns
  obtain ⟨mm, meth', c', q1, q2, q3, -, -, q6, -, -, -⟩ := Cond.codeWith_spec (hts0 _ List.mem_cons_self)
  cases q1.symm.trans B.named
  cases B.method.symm.trans q2
  cases (Stand.of_body B).code.symm.trans q3
  obtain ⟨x0, hx1, hxe⟩ := map_one q6
  have e1 : x0.startPc = 0 := congrArg (fun q => q.1) hxe
  have e2 : x0.endPc = 10 := congrArg (fun q => q.2.1) hxe
  have e3 : x0.handlerPc = 13 := congrArg (fun q => q.2.2.1) hxe
  have e4 : x0.catchType = 13 := congrArg (fun q => q.2.2.2) hxe
  have hl := lv_entry ([rv (some 0), iv a1, iv a2, rv (some 269)].map (cv φ)) (n := mx j) (by rw [sl_len, ← m10]; exact hms)
  rw [ent_cv] at hl
  rw [lg_entry_eq]
  generalize (lg_sl ([rv (some 0), iv a1, iv a2, rv (some 269)].map (cv φ)) ++ List.replicate (mx j - (lg_sl ([rv (some 0), iv a1, iv a2, rv (some 269)].map (cv φ))).length) Slot.unset).toArray = ls at hl ⊢
  refine lv_aload_n hx hb d0 rfl (lv_at hl 3 rfl) ?_
  refine lv_iconst hx hb d1 rfl ?_
  refine lv_aload_n hx hb d2 rfl (lv_at hl 0 rfl) ?_
  refine lv_iload_n hx hb d3 rfl (lv_at hl 1 rfl) ?_
  refine lv_iload_n hx hb d4 rfl (lv_at hl 2 rfl) ?_
  refine catch_go (j := jc) (idx := idx) (d := d) (as := [iv a1, iv a2]) (x0 := x0) (hpc := 13) (s := s) (φ := φ) (rest := [.int (Int32.ofInt 0), .ref (φ 269)]) hx hb (Or.inl (hml.trans hm5)) hown hts hST hB0 hK hP hD hf (hT φ) hcl hlink hinst hsel hini hcode hmx hdesc (Nat.le_refl _) (by show 64 * d + 30 ≤ 64 * (d + 1); omega) (by show 64 ≤ (jcost j).1; rw [hco]; exact Nat.le_refl _) (by show 1000 ≤ (jcost j).2; rw [hco]; exact Nat.le_refl _) hx1 (by rw [covers, e1, e2]; rfl) e4 e3 d5 (hl.1.trans hml.symm) (show 2 ≤ 8 from by decide) ?_
  intro H L x hP' hF hL
  refine lv_astore (lv := []) hx hb d13 ⟨hl.1, hl.2.1, fun q hq => by cases hq⟩ (by rw [hm5]; omega) rfl (fun ls' hl' => ?_)
  refine lv_iconst hx hb d15 rfl ?_
  have hr := hret φ H L ls' 16 ⟨hP', hD, ⟨hF.1, hF.2, hL⟩, hs, TT_can, hf, Nat.le_refl _, fun _ _ => rfl⟩ (by rw [hrk]; exact ⟨by decide, by decide⟩) (by rw [hrk]; trivial) (by rw [hrk]; exact d16)
  rw [hrk, hco] at hr
  rw [hrk, hco]
  exact hr
theorem thr_1 {j jc idx d : Nat} {M : mM} (hM : MwOk j M) (hco : jcost j = (64, 1000)) (hrk : jrk j = 1) (hm5 : mx j = 4) (hcls : (yy j).cls = "LentBoxesLaw") (hb2 : lawB1 (bb j) idx = true) {a1 : Int} {s : mS} (hs : canS s) (hms : msum [rv (some 0), iv a1, rv (some 269)] ≤ jmx j)
    (hT : ∀ φ, MetFree l (yy jc) (headSpec (wsJ jc) (rmT d)) (PcJ D cT B0 fS (SxT B0 fS) φ [rv (some 0), iv a1] TT s) (fun _ _ _ _ _ => True) (ThQ D cT B0 φ s))
    (hcl : (yy jc).cls = "LentBoxes") (hlink : Cond.methodLink "LentBoxesLaw" idx (yy jc) ∈ Tw) (hinst : Cond.instanceMethod (yy jc) ∈ Tw) (hsel : Cond.selects (yy jc).cls (yy jc) (yy jc) ∈ Tw) (hini : Cond.initialized (yy jc).cls ∈ Tw) (hcode : Cond.code (yy jc) (bb jc) (mx jc) (rt jc) ∈ Tw) (hmx : mx jc ≤ 4) (hdesc : (parseMethodDescriptor (yy jc).desc).map (fun d => d.parameters.length) = some 1) :
    MetW l D cT B0 fS (d + 1) j [(0, 9, 12, 13)] [rv (some 0), iv a1, rv (some 269)] s 1 s := by
  obtain ⟨m1, m2, m3, m4, m5, m6, m7, m8, m9, m10⟩ := hM
  simp only [lawB1, Bool.and_eq_true, decide_eq_true_eq] at hb2
  obtain ⟨d0, d1, d2, d3, d5, d13, d15, d16⟩ := hb2
  intro φ
  refine va_MetW (cc := bb j) (maxL := mx j) (ret := rt j) (hh := [(0, 9, 12, 13)]) m9 rfl ?_
  intro p e s0 m args below meth c s₁ B hml hv
  obtain ⟨rfl, hB0, hP, hK, hD, hST, hf⟩ := hv
  have hx := B.exec
  have hb := B.bytes
  have hts0 := atoms_spec (ws := wsW j [(0, 9, 12, 13)]) B.pre
  have hts : ∀ w ∈ Tw, w.before ([rv (some 0), iv a1, rv (some 269)].map (cv φ)).toArray s0 = true := fun w hw => hts0 w (List.mem_cons_of_mem _ hw)
  have hown : s0.vm.findClass "LentBoxesLaw" = some m.cls := by rw [← hcls]; exact findClass_of_methodNamed B.named
  have hret := ret_MQ (p := p) (l := l) (e := e) (R := (headSpec (wsW j [(0, 9, 12, 13)]) (rmJ (d + 1) j)).room) (s0 := s0) (m := m) (args := ([rv (some 0), iv a1, rv (some 269)].map (cv φ)).toArray) (below := below) (D := D) (cT := cT) (B0 := B0) (bud := jcost j) (fS := fS) (T0 := TT) (φ0 := φ) (x := 1) (T' := TT) (s' := s) hx hb B.notSynchronized m8 B.returns
  obtain ⟨mm, meth', c', q1, q2, q3, -, -, q6, -, -, -⟩ := Cond.codeWith_spec (hts0 _ List.mem_cons_self)
  cases q1.symm.trans B.named
  cases B.method.symm.trans q2
  cases (Stand.of_body B).code.symm.trans q3
  obtain ⟨x0, hx1, hxe⟩ := map_one q6
  have e1 : x0.startPc = 0 := congrArg (fun q => q.1) hxe
  have e2 : x0.endPc = 9 := congrArg (fun q => q.2.1) hxe
  have e3 : x0.handlerPc = 12 := congrArg (fun q => q.2.2.1) hxe
  have e4 : x0.catchType = 13 := congrArg (fun q => q.2.2.2) hxe
  have hl := lv_entry ([rv (some 0), iv a1, rv (some 269)].map (cv φ)) (n := mx j) (by rw [sl_len, ← m10]; exact hms)
  rw [ent_cv] at hl
  rw [lg_entry_eq]
  generalize (lg_sl ([rv (some 0), iv a1, rv (some 269)].map (cv φ)) ++ List.replicate (mx j - (lg_sl ([rv (some 0), iv a1, rv (some 269)].map (cv φ))).length) Slot.unset).toArray = ls at hl ⊢
  refine lv_aload_n hx hb d0 rfl (lv_at hl 2 rfl) ?_
  refine lv_iconst hx hb d1 rfl ?_
  refine lv_aload_n hx hb d2 rfl (lv_at hl 0 rfl) ?_
  refine lv_iload_n hx hb d3 rfl (lv_at hl 1 rfl) ?_
  refine catch_go (j := jc) (idx := idx) (d := d) (as := [iv a1]) (x0 := x0) (hpc := 12) (s := s) (φ := φ) (rest := [.int (Int32.ofInt 0), .ref (φ 269)]) hx hb (Or.inr (hml.trans hm5)) hown hts hST hB0 hK hP hD hf (hT φ) hcl hlink hinst hsel hini hcode hmx hdesc (Nat.le_refl _) (by show 64 * d + 30 ≤ 64 * (d + 1); omega) (by show 64 ≤ (jcost j).1; rw [hco]; exact Nat.le_refl _) (by show 1000 ≤ (jcost j).2; rw [hco]; exact Nat.le_refl _) hx1 (by rw [covers, e1, e2]; rfl) e4 e3 d5 (hl.1.trans hml.symm) (show 2 ≤ 8 from by decide) ?_
  intro H L x hP' hF hL
  refine lv_astore_n (lv := []) hx hb d13 rfl ⟨hl.1, hl.2.1, fun q hq => by cases hq⟩ (by rw [hm5]; decide) rfl (fun ls' hl' => ?_)
  refine lv_iconst hx hb d15 rfl ?_
  have hr := hret φ H L ls' 14 ⟨hP', hD, ⟨hF.1, hF.2, hL⟩, hs, TT_can, hf, Nat.le_refl _, fun _ _ => rfl⟩ (by rw [hrk]; exact ⟨by decide, by decide⟩) (by rw [hrk]; trivial) (by rw [hrk]; exact d16)
  rw [hrk, hco] at hr
  rw [hrk, hco]
  exact hr
end Lt
