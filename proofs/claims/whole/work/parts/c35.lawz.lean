/-! ===== dead, wear, mean as the law calls them ===== -/
theorem wJ_ne {s : mS} {v : Int} {c : Nat} (h : c ≠ 269) : (wJ s 269 0 v).2 c = s.2 c := by
  funext j
  show (if c = 269 ∧ j = 0 then v else s.2 c j) = s.2 c j
  rw [if_neg (fun q => h q.1)]
theorem Inv_out {s : mS} (h : Inv s) (v : Int) : Inv (wJ s 269 0 v) := by
  obtain ⟨h1, h2, h3, h4, h5, h6, h7, h8, h9, h10⟩ := h
  refine ⟨?_, h2, h3, h4, h5, h6, h7, pImg_keep h8 (fun _ _ _ => rfl) (fun c _ _ => wJ_ne (by omega)) rfl (wJ_ne (by omega)) rfl, pImg_keep h9 (fun _ _ _ => rfl) (fun c _ _ => wJ_ne (by omega)) rfl (wJ_ne (by omega)) rfl, h10⟩
  rw [wJ_ne (by omega)]
  exact World_keep h1 (fun _ _ _ => rfl) (fun c _ _ => wJ_ne (by omega)) (fun _ _ _ => rfl) (fun _ _ _ => rfl)
theorem dead_J {m : Nat} {a w : Int} {s : mS} {v r : Int} (hs : Inv s) (c : 0 ≤ a ∧ a < s.1 251 2) (cw : 0 ≤ w ∧ w ≤ 7) (h : f_X_dead m a w s = some (r, s)) : f_X_dead m a w (wJ s 269 0 v) = some (r, wJ s 269 0 v) := by
  obtain ⟨⟨hW, hr, hS, -, -⟩, -⟩ := hs
  have hr' : VR (wJ s 269 0 v) 4 (s.1 251) := hr
  have w2 := WFv_dead hW.1
  have n1 : ¬ (1 : Int) = 0 := by decide
  rw [f_X_dead_eq, C_isDead hr, Option.bind_some] at h
  rw [f_X_dead_eq, C_isDead hr', Option.bind_some]
  simp only [if_pos c, n1, if_false] at h ⊢
  simp (disch := omega) only [inR_pos] at h ⊢
  by_cases c0 : w = 0
  · rw [if_pos c0] at h ⊢; rw [← (Prod.mk.inj (Option.some.inj h)).1]; rfl
  rw [if_neg c0] at h ⊢
  by_cases c1 : w = 1
  · rw [if_pos c1] at h ⊢; rw [← (Prod.mk.inj (Option.some.inj h)).1]; rfl
  rw [if_neg c1] at h ⊢
  by_cases c2 : w = 2
  · rw [if_pos c2] at h ⊢; rw [← (Prod.mk.inj (Option.some.inj h)).1]; rfl
  rw [if_neg c2] at h ⊢
  by_cases c3 : w = 3
  · rw [if_pos c3] at h ⊢; rw [← (Prod.mk.inj (Option.some.inj h)).1]; rfl
  rw [if_neg c3] at h ⊢
  by_cases c4 : w = 4
  · rw [if_pos c4] at h ⊢; rw [← (Prod.mk.inj (Option.some.inj h)).1]; rfl
  rw [if_neg c4] at h ⊢
  by_cases c5 : w = 5
  · rw [if_pos c5] at h ⊢; rw [← (Prod.mk.inj (Option.some.inj h)).1]; rfl
  rw [if_neg c5] at h ⊢
  by_cases c6 : w = 6
  · rw [if_pos c6] at h ⊢; rw [← (Prod.mk.inj (Option.some.inj h)).1]; rfl
  rw [if_neg c6] at h ⊢
  have c7 : w = 7 := by omega
  rw [if_pos c7] at h ⊢; rw [← (Prod.mk.inj (Option.some.inj h)).1]; rfl
theorem wear_J {m : Nat} (hm : 1000 ≤ m) {a w : Int} {s : mS} {v r : Int} (hs : Inv s) (c : 0 ≤ a ∧ a < s.1 251 0) (cw : 0 ≤ w ∧ w ≤ 1) (h : f_X_wear m a w s = some (r, s)) : f_X_wear m a w (wJ s 269 0 v) = some (r, wJ s 269 0 v) := by
  obtain ⟨⟨hW, hr, hS, -, -⟩, -⟩ := hs
  have hr' : VR (wJ s 269 0 v) 4 (s.1 251) := hr
  have hS' : SR (wJ s 269 0 v) 17 (s.1 251) := hS
  have w0 := WFv_boxes hW.1
  have n1 : ¬ (1 : Int) = 0 := by decide
  obtain ⟨b, rfl⟩ : ∃ d : Nat, a = (d : Int) := ⟨a.toNat, by omega⟩
  have hb : (b : Int) < s.1 251 0 := c.2
  have ho := WFv_box hW.1 hb
  have hp := WFs_box hW.2.1 hb
  obtain ⟨p, hp1⟩ : ∃ p : Nat, s.1 251 (86 + b) = (p : Int) := ⟨(s.1 251 (86 + b)).toNat, by omega⟩
  obtain ⟨q, hq1⟩ : ∃ p : Nat, s.1 251 (15 + b) = (p : Int) := ⟨(s.1 251 (15 + b)).toNat, by omega⟩
  rw [f_X_wear_eq, C_isBox hr, Option.bind_some] at h
  rw [f_X_wear_eq, C_isBox hr', Option.bind_some]
  simp only [if_pos c, n1, if_false] at h ⊢
  rw [if_neg (by omega), if_neg (by omega), inR_pos (by omega) (by omega), inR_pos (by omega) (by omega), Int.toNat_natCast, SR17_lent hS hb, VR4_blast hr hb, hp1, hq1, C_least hm (by omega) (by omega), Option.bind_some] at h
  rw [if_neg (by omega), if_neg (by omega), inR_pos (by omega) (by omega), inR_pos (by omega) (by omega), Int.toNat_natCast, SR17_lent hS' hb, VR4_blast hr' hb, hp1, hq1, C_least hm (by omega) (by omega), Option.bind_some]
  rw [← (Prod.mk.inj (Option.some.inj h)).1]
theorem mean_J {m : Nat} (hm : 1000 ≤ m) {w : Int} {s : mS} {v r : Int} (hs : Inv s) (c : s.1 251 2 ≠ 0) (cw : 0 ≤ w ∧ w ≤ 1) (h : f_X_mean m w s = some (r, s)) : f_X_mean m w (wJ s 269 0 v) = some (r, wJ s 269 0 v) := by
  obtain ⟨⟨hW, hr, hS, -, -⟩, -⟩ := hs
  have hr' : VR (wJ s 269 0 v) 4 (s.1 251) := hr
  have hS' : SR (wJ s 269 0 v) 17 (s.1 251) := hS
  have w2 := WFv_dead hW.1
  have q1 := C_sumL hS hr hW m w (s.1 251 2).toNat m 0 (by omega) (by omega)
  have q2 := C_sumL hS' hr' hW m w (s.1 251 2).toNat m 0 (by omega) (by omega)
  rw [show ((sm (s.1 251) 0 : Nat) : Int) = 0 from rfl, show ((0 : Nat) : Int) = 0 from rfl] at q1 q2
  have l := sm_le hW (s.1 251 2).toNat (by omega)
  obtain ⟨b, hb⟩ : ∃ p : Nat, s.1 251 2 = (p : Int) := ⟨(s.1 251 2).toNat, by omega⟩
  have e2 : (s.1 251 2).toNat = b := by omega
  rw [e2] at q1 q2 l
  rw [f_X_mean_eq, VR4_dead hr, if_neg c, if_neg (by omega), if_neg (by omega), q1, hb, C_least hm (by omega) (by omega), Option.bind_some] at h
  rw [f_X_mean_eq, VR4_dead hr', if_neg c, if_neg (by omega), if_neg (by omega), q2, hb, C_least hm (by omega) (by omega), Option.bind_some]
  rw [← (Prod.mk.inj (Option.some.inj h)).1]
section Kz
variable {l : Launch} {D : va_G} {cT : Nat → ClassId} {B0 : Nat} {fS : Nat → Nat}
def env1 (c : Nat) (F : List mV → mS → Option (Int × mS)) : Nat → List mV → mS → Option (Int × mS) := fun j as s => bsel (Nat.beq j c) (F as s) ((fun _ _ _ => none : Nat → List mV → mS → Option (Int × mS)) j as s)
theorem env1_ok {d d0 c : Nat} {F : List mV → mS → Option (Int × mS)} (h : FOk l D cT B0 fS d0 c F) (hd : d0 ≤ d) : EnvOk l D cT B0 fS scr0 TT d (env1 c F) := env_cons h hd env_nil
theorem ca3 {a w : Int} (ha : can a) (hw : can w) : ∀ v ∈ [rv (some 0), iv a, iv w], canV TT v := by
  intro v hv
  rcases List.mem_cons.mp hv with rfl | hv
  · exact fun i hi => Or.inl (by cases hi; decide)
  rcases List.mem_cons.mp hv with rfl | hv
  · exact ha
  rcases List.mem_cons.mp hv with rfl | hv
  · exact hw
  cases hv
theorem ca4 {a w : Int} (ha : can a) (hw : can w) : ∀ v ∈ [rv (some 0), iv a, iv w, rv (some 269)], canV TT v := by
  intro v hv
  rcases List.mem_cons.mp hv with rfl | hv
  · exact fun i hi => Or.inl (by cases hi; decide)
  rcases List.mem_cons.mp hv with rfl | hv
  · exact ha
  rcases List.mem_cons.mp hv with rfl | hv
  · exact hw
  rcases List.mem_cons.mp hv with rfl | hv
  · exact fun i hi => Or.inl (by cases hi; decide)
  cases hv
theorem ca2 {a : Int} (ha : can a) : ∀ v ∈ [rv (some 0), iv a], canV TT v := by
  intro v hv
  rcases List.mem_cons.mp hv with rfl | hv
  · exact fun i hi => Or.inl (by cases hi; decide)
  rcases List.mem_cons.mp hv with rfl | hv
  · exact ha
  cases hv
theorem cb3 {a : Int} (ha : can a) : ∀ v ∈ [rv (some 0), iv a, rv (some 269)], canV TT v := by
  intro v hv
  rcases List.mem_cons.mp hv with rfl | hv
  · exact fun i hi => Or.inl (by cases hi; decide)
  rcases List.mem_cons.mp hv with rfl | hv
  · exact ha
  rcases List.mem_cons.mp hv with rfl | hv
  · exact fun i hi => Or.inl (by cases hi; decide)
  cases hv
theorem K_dead {m d : Nat} (hd : 6 ≤ d) {a w r : Int} {s : mS} (hs : canS s) (ha : can a) (hw : can w) (h : f_X_dead m a w s = some (r, s)) : MetW l D cT B0 fS (d + 2) 157 [(0, 10, 13, 13)] [rv (some 0), iv a, iv w, rv (some 269)] s 0 (wJ s 269 0 r) := by
  refine met_runW mok_157 (env1_ok (E_158 m) (by omega)) (n := 1) ?_ (show 4 ≤ 5 from by decide) hs (ca4 ha hw)
  rw [run_157, show env1 158 (zF_158 Z0 m) 158 [rv (some 0), iv a, iv w] s = some (r, s) from h, Option.bind_some, inR_pos (by decide) (by decide)]
theorem K_wear {m d : Nat} (hd : 6 ≤ d) {a w r : Int} {s : mS} (hs : canS s) (ha : can a) (hw : can w) (h : f_X_wear m a w s = some (r, s)) : MetW l D cT B0 fS (d + 2) 165 [(0, 10, 13, 13)] [rv (some 0), iv a, iv w, rv (some 269)] s 0 (wJ s 269 0 r) := by
  refine met_runW mok_165 (env1_ok (E_166 m) (by omega)) (n := 1) ?_ (show 4 ≤ 5 from by decide) hs (ca4 ha hw)
  rw [run_165, show env1 166 (zF_166 Z0 m) 166 [rv (some 0), iv a, iv w] s = some (r, s) from h, Option.bind_some, inR_pos (by decide) (by decide)]
theorem K_mean {m d : Nat} (hd : 6 ≤ d) {a r : Int} {s : mS} (hs : canS s) (ha : can a) (h : f_X_mean m a s = some (r, s)) : MetW l D cT B0 fS (d + 2) 168 [(0, 9, 12, 13)] [rv (some 0), iv a, rv (some 269)] s 0 (wJ s 269 0 r) := by
  refine met_runW mok_168 (env1_ok (E_169 m) (by omega)) (n := 1) ?_ (show 3 ≤ 4 from by decide) hs (cb3 ha)
  rw [run_168, show env1 169 (zF_169 Z0 m) 169 [rv (some 0), iv a] s = some (r, s) from h, Option.bind_some, inR_pos (by decide) (by decide)]
theorem TH_dead {m d : Nat} (hfl : l.flags = flags0) (hd : 6 ≤ d) {a w : Int} {s : mS} (hi : Inv s) (hs : canS s) (ha : can a) (hw : can w) (hn : ¬ ((0 ≤ a ∧ a < s.1 251 2) ∧ 0 ≤ w ∧ w ≤ 7)) : MetW l D cT B0 fS (d + 2) 157 [(0, 10, 13, 13)] [rv (some 0), iv a, iv w, rv (some 269)] s 1 s := by
  obtain ⟨⟨hW, hr, hS, -, -⟩, -⟩ := hi
  have n1 : ¬ (1 : Int) = 0 := by decide
  have q := C_isDead hr m a
  refine thr_2 (jc := 158) (idx := 7) mok_157 rfl rfl rfl rfl (by decide +kernel) hs (show 4 ≤ 5 from by decide) ?_ rfl wd_t1105 wd_t1106 wd_t1107 wd_t1 wd_t1108 (by decide) (by decide +kernel)
  intro φ
  have henv : EnvOk l D cT B0 fS scr0 TT d (zenv_158 Z0 m) := env_cons (E_61 m) (by omega) (env_nil)
  by_cases c : 0 ≤ a ∧ a < s.1 251 2
  · have cw : ¬ (0 ≤ w ∧ w ≤ 7) := fun h => hn ⟨c, h⟩
    refine thr_met (as := [rv (some 0), iv a, iv w]) mok_158 rfl rfl hfl hd henv (show 3 ≤ 4 from by decide) hs (ca3 ha hw) (pc := 146) (q6 := 152) (by decide +kernel) (fun kc kr => ?_) φ
    refine (seg_dead Z0 m a w s kc kr).trans ?_
    rw [show zf_X_isDead Z0 m a s = some (if 0 ≤ a ∧ a < s.1 251 2 then 1 else 0, s) from q, Option.bind_some]
    simp only [if_pos c, n1, if_false]
    rw [if_neg (by omega), if_neg (by omega), if_neg (by omega), if_neg (by omega), if_neg (by omega), if_neg (by omega), if_neg (by omega), if_neg (by omega)]
  · refine thr_met (as := [rv (some 0), iv a, iv w]) mok_158 rfl rfl hfl hd henv (show 3 ≤ 4 from by decide) hs (ca3 ha hw) (pc := 8) (q6 := 14) (by decide +kernel) (fun kc kr => ?_) φ
    refine (seg_dead Z0 m a w s kc kr).trans ?_
    rw [show zf_X_isDead Z0 m a s = some (if 0 ≤ a ∧ a < s.1 251 2 then 1 else 0, s) from q, Option.bind_some]
    simp only [if_neg c, if_true]
theorem TH_wear {m d : Nat} (hfl : l.flags = flags0) (hd : 6 ≤ d) {a w : Int} {s : mS} (hi : Inv s) (hs : canS s) (ha : can a) (hw : can w) (hn : ¬ ((0 ≤ a ∧ a < s.1 251 0) ∧ 0 ≤ w ∧ w ≤ 1)) : MetW l D cT B0 fS (d + 2) 165 [(0, 10, 13, 13)] [rv (some 0), iv a, iv w, rv (some 269)] s 1 s := by
  obtain ⟨⟨hW, hr, hS, -, -⟩, -⟩ := hi
  have n1 : ¬ (1 : Int) = 0 := by decide
  have q := C_isBox hr m a
  refine thr_2 (jc := 166) (idx := 15) mok_165 rfl rfl rfl rfl (by decide +kernel) hs (show 4 ≤ 5 from by decide) ?_ rfl wd_t1178 wd_t1179 wd_t1180 wd_t1 wd_t1181 (by decide) (by decide +kernel)
  intro φ
  have henv : EnvOk l D cT B0 fS scr0 TT d (zenv_166 Z0 m) := env_cons (E_48 m) (by omega) (env_cons (E_167 m) (by omega) (env_nil))
  refine thr_met (as := [rv (some 0), iv a, iv w]) mok_166 rfl rfl hfl hd henv (show 3 ≤ 3 from by decide) hs (ca3 ha hw) (pc := 17) (q6 := 24) (by decide +kernel) (fun kc kr => ?_) φ
  refine (seg_wear Z0 m a w s kc kr).trans ?_
  rw [show zf_X_isBox Z0 m a s = some (if 0 ≤ a ∧ a < s.1 251 0 then 1 else 0, s) from q, Option.bind_some]
  by_cases c : 0 ≤ a ∧ a < s.1 251 0
  · have cw : ¬ (0 ≤ w ∧ w ≤ 1) := fun h => hn ⟨c, h⟩
    simp only [if_pos c, n1, if_false]
    by_cases c1 : w < 0
    · rw [if_pos c1]
    · rw [if_neg c1, if_pos (by omega)]
  · simp only [if_neg c, if_true]
theorem TH_mean {m d : Nat} (hfl : l.flags = flags0) (hd : 6 ≤ d) {a : Int} {s : mS} (hi : Inv s) (hs : canS s) (ha : can a) (hn : ¬ (s.1 251 2 ≠ 0 ∧ 0 ≤ a ∧ a ≤ 1)) : MetW l D cT B0 fS (d + 2) 168 [(0, 9, 12, 13)] [rv (some 0), iv a, rv (some 269)] s 1 s := by
  obtain ⟨⟨hW, hr, hS, -, -⟩, -⟩ := hi
  refine thr_1 (jc := 169) (idx := 18) mok_168 rfl rfl rfl rfl (by decide +kernel) hs (show 3 ≤ 4 from by decide) ?_ rfl wd_t1189 wd_t1190 wd_t1191 wd_t1 wd_t1192 (by decide) (by decide +kernel)
  intro φ
  have henv : EnvOk l D cT B0 fS scr0 TT d (zenv_169 Z0 m) := env_cons (E_167 m) (by omega) (env_nil)
  refine thr_met (as := [rv (some 0), iv a]) mok_169 rfl rfl hfl hd henv (show 2 ≤ 4 from by decide) hs (ca2 ha) (pc := 22) (q6 := 29) (by decide +kernel) (fun kc kr => ?_) φ
  refine (seg_mean Z0 m a s kc kr).trans ?_
  rw [VR4_dead hr]
  by_cases c : s.1 251 2 = 0
  · rw [if_pos c]
  · have cw : ¬ (0 ≤ a ∧ a ≤ 1) := fun h => hn ⟨c, h⟩
    rw [if_neg c]
    by_cases c1 : a < 0
    · rw [if_pos c1]
    · rw [if_neg c1, if_pos (by omega)]
end Kz
