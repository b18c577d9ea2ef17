/-! ===== fields and arrays of the small machine over the kit's rows ===== -/
theorem u2_self (f : Nat → Nat → Int) (c k : Nat) (v : Int) : u2 f c k v c k = v := by simp [u2]
theorem u2_row (f : Nat → Nat → Int) {a c : Nat} (k : Nat) (v : Int) (h : a ≠ c) : u2 f c k v a = f a := by
  funext j; simp [u2, h]
theorem u2_at (f : Nat → Nat → Int) (c k : Nat) (v : Int) (j : Nat) : u2 f c k v c j = if j = k then v else f c j := by simp [u2]
theorem updI (f : Nat → Nat → Int) (c k : Nat) (v : Int) : (fun j => Int32.ofInt (u2 f c k v c j)) = upd (fun j => Int32.ofInt (f c j)) k (Int32.ofInt v) := by
  funext j; rw [u2_at]; unfold upd; split <;> rfl
theorem updL (f : Nat → Nat → Int) (c k : Nat) (v : Int) : (fun j => Int64.ofInt (u2 f c k v c j)) = vp_updL (fun j => Int64.ofInt (f c j)) k (Int64.ofInt v) := by
  funext j; rw [u2_at]; unfold vp_updL; split <;> rfl
theorem canS_wI {s : mS} {c k : Nat} {v : Int} (h : canS s) (hv : can v) : canS (wI s c k v) := by
  refine ⟨fun a j => ?_, h.2⟩
  show can (if a = c ∧ j = k then v else s.1 a j)
  split
  · exact hv
  · exact h.1 a j
theorem canS_wJ {s : mS} {c k : Nat} {v : Int} (h : canS s) (hv : canJ v) : canS (wJ s c k v) := by
  refine ⟨h.1, fun a j => ?_⟩
  show canJ (if a = c ∧ j = k then v else s.2 a j)
  split
  · exact hv
  · exact h.2 a j
theorem canT_setR {T : mT} {c k i : Nat} (h : canT T) (hi : i < T.1) : canT (setR T c k (some i)) := by
  refine ⟨h.1, fun a j => ?_, h.2.2⟩
  show okR T (if a = c ∧ j = k then some i else T.2.2 a j)
  split
  · intro z hz; cases hz; exact Or.inl hi
  · exact h.2.1 a j
theorem sh_obj {T : mT} {t ci : Nat} (hT : canT T) (ht : t < T.1) (h0 : (T.2.1 t).1 = 0) (h1 : (T.2.1 t).2.1 = ci) : ci < 11 ∧ (T.2.1 t).2.2 = nF ci := by
  rcases hT.2.2 t ht with h | h
  · rw [h1] at h; exact ⟨h.2.1, h.2.2⟩
  · rw [h0] at h; exact absurd h.1 (by decide)
theorem sh_arr {T : mT} {t : Nat} (hT : canT T) (ht : t < T.1) (h0 : (T.2.1 t).1 = 1) : (T.2.1 t).2.2 ≤ 10000 := by
  rcases hT.2.2 t ht with h | h
  · rw [h0] at h; exact absurd h.1 (by decide)
  · exact h.2.1
/-- one object's field changes -/
theorem conc_fld {φ : Nat → Nat} {cT : Nat → ClassId} {T T' : mT} {s s' : mS} {t ci n k : Nat} {w : mV} (h0 : (T.2.1 t).1 = 0) (h1 : (T.2.1 t).2.1 = ci) (h2 : (T.2.1 t).2.2 = n) (hn : T'.1 = T.1) (hsh : T'.2.1 = T.2.1) (hR : ∀ a, a ≠ t → T'.2.2 a = T.2.2 a) (hI : ∀ a, a ≠ t → s'.1 a = s.1 a) (hJ : ∀ a, a ≠ t → s'.2 a = s.2 a) (hk : k < n)
    (hw : fvm T' s' t ci k = w) (ho : ∀ j, j ≠ k → fvm T' s' t ci j = fvm T s t ci j) :
    conc φ cT T' s' = (conc φ cT T s).set t (φ t, .inr (ci, ((List.range n).map (fval φ T s t ci)).set k (cv φ w))) := by
  refine conc_set hn hsh hR hI hJ ?_
  unfold cellE
  rw [hsh, h0, h1, h2]
  show cellO φ T' s' t ci n = _
  unfold cellO
  congr 2
  apply List.ext_getElem?
  intro i
  rw [List.getElem?_set]
  by_cases hi : i < n
  · by_cases hik : k = i
    · subst hik
      simp [hi, fval, hw]
    · have : i ≠ k := fun z => hik z.symm
      simp [hi, hik, fval, ho i this]
  · have hi' : n ≤ i := Nat.le_of_not_lt hi
    by_cases hik : k = i
    · omega
    · simp [hik, hi']
section Mem
variable {p : Program} {l : Launch} {e : Env} {R : Room} {s0 : State} {m : MethodId} {args : Array Value} {below : List Frame} {meth : Method} {c : Code} {Q : State → Prop} {D : va_G} {cT : Nat → ClassId} {B0 : Nat} {G : mG} {nL : Nat} {bud : Nat × Nat}
variable {cc : ByteArray} {q : Nat} {L : mL} {S : List mV} {T : mT} {s : mS} {cs : Nat × Nat} {own : String} {Ts : List Cond}
theorem ok_get (hx : p.tables.exec = Jvm.exec) (hb : c.code = cc) (hts : ∀ w ∈ Ts, w.before args s0 = true) (hin : ∀ ci, ci < 11 → ∀ w ∈ u_ws (clN ci) (tX ci) (nF ci), w ∈ Ts) (hown : s0.vm.findClass own = some m.cls) (hK : va_K D clL (tysL cT) s0)
    {idx ci k t : Nat} (hlink : (Cond.fieldLink own idx (tX ci k).1 (tX ci k).2.1 (tX ci k).2.2.1).before args s0 = true) (hkn : k < nF ci) (hd : decode cc q = .ok (.getfield idx, 3)) (h0 : (T.2.1 t).1 = 0) (h1 : (T.2.1 t).2.1 = ci) (ht : t < T.1)
    (hk : Wat p l e R s0 m args below meth c Q D cT B0 G nL bud (q + 3) L (fvm T s t ci k :: S) T s cs) : Wat p l e R s0 m args below meth c Q D cT B0 G nL bud q L (rv (some t) :: S) T s cs := by
  intro φ H locs ls hS hl hL hc hbd
  obtain ⟨hP, hD, hSS, hcs, hcT, hf⟩ := hS
  obtain ⟨hci, h2⟩ := sh_obj hcT ht h0 h1
  have kk := hk φ H locs ls ⟨hP, hD, hSS, hcs, hcT, hf⟩ hl hL (cS_cons (fvm_can hcs hcT t ci k) (cS_tail hc)) hbd
  exact va_get (D := D) (ci := ci) (v := fval φ T s t ci k) hx hb hts (hin ci hci) hown hK hP t (conc_obj ht h0 h1 h2) (clL_get ci hci) k hkn hlink (fun _ h => h) (by simp [hkn]) hd kk
/-- a field that isn't final is written -/
theorem ok_put (hx : p.tables.exec = Jvm.exec) (hb : c.code = cc) (hts : ∀ w ∈ Ts, w.before args s0 = true) (hin : ∀ ci, ci < 11 → ∀ w ∈ u_ws (clN ci) (tX ci) (nF ci), w ∈ Ts) (hown : s0.vm.findClass own = some m.cls) (hK : va_K D clL (tysL cT) s0)
    {idx ci k t : Nat} {w : mV} {T' : mT} {s' : mS} (hlink : (Cond.fieldLink own idx (tX ci k).1 (tX ci k).2.1 (tX ci k).2.2.1).before args s0 = true) (hkn : k < nF ci) (hd : decode cc q = .ok (.putfield idx, 3)) (h0 : (T.2.1 t).1 = 0) (h1 : (T.2.1 t).2.1 = ci) (ht : t < T.1)
    (hfin : (tX ci k).2.2.2 = false) (hnar : ∀ φ : Nat → Nat, narrow (tyX ci k) (cv φ w) = cv φ w) (hfit : ∀ φ : Nat → Nat, fits (tyX ci k) (cv φ w) = true)
    (hn : T'.1 = T.1) (hsh : T'.2.1 = T.2.1) (hR : ∀ a, a ≠ t → T'.2.2 a = T.2.2 a) (hI : ∀ a, a ≠ t → s'.1 a = s.1 a) (hJ : ∀ a, a ≠ t → s'.2 a = s.2 a) (hw : fvm T' s' t ci k = w) (ho : ∀ j, j ≠ k → fvm T' s' t ci j = fvm T s t ci j) (hcs' : canS s → canT T → canV T w → canS s') (hcT' : canT T → canT T')
    (hk : Wat p l e R s0 m args below meth c Q D cT B0 G nL bud (q + 3) L S T' s' cs) : Wat p l e R s0 m args below meth c Q D cT B0 G nL bud q L (w :: rv (some t) :: S) T s cs := by
  intro φ H locs ls hS hl hL hc hbd
  obtain ⟨hP, hD, hSS, hcs, hcT, hf⟩ := hS
  obtain ⟨hci, h2⟩ := sh_obj hcT ht h0 h1
  have ec := conc_fld (φ := φ) (cT := cT) (s := s) h0 h1 h2 hn hsh hR hI hJ hkn hw ho
  have hokT : ∀ v, canV T v → canV T' v := by
    intro v hv
    match v, hv with
    | .inl (.inl _), hv => exact hv
    | .inl (.inr _), hv => exact hv
    | .inr r, hv => intro i hi; rw [hn]; exact hv i hi
  exact va_put (D := D) (ci := ci) (v := cv φ w) (ty := tyX ci k) hx hb hts (hin ci hci) (tyX ci) (tyX_ok ci hci) (nmX_ok ci hci) hown hK hP hD hSS t (conc_obj ht h0 h1 h2) (clL_get ci hci) k hkn hlink (fun _ h => h) hfin (tyX_ok ci hci k hkn) (hnar φ) (hfit φ) (by simpa using hkn) hd
    (fun H1 locs1 hP1 hD1 hS1 => hk φ H1 locs1 ls ⟨by rw [ec]; exact hP1, by rw [ec]; exact hD1, hS1, hcs' hcs hcT (cS_head hc), hcT' hcT, hf.1, by rw [hn]; exact hf.2.1, hf.2.2⟩ hl (fun q hq => hokT _ (hL q hq)) (fun v hv => hokT _ (cS_tail (cS_tail hc) v hv)) hbd)
theorem ok_putF (hx : p.tables.exec = Jvm.exec) (hb : c.code = cc) (hts : ∀ w ∈ Ts, w.before args s0 = true) (hin : ∀ ci, ci < 11 → ∀ w ∈ u_ws (clN ci) (tX ci) (nF ci), w ∈ Ts) (hown : s0.vm.findClass own = some m.cls) (hK : va_K D clL (tysL cT) s0) (hin2 : meth.name = "<init>")
    {idx ci k t : Nat} {w : mV} {T' : mT} {s' : mS} (hlink : (Cond.fieldLink own idx (tX ci k).1 (tX ci k).2.1 (tX ci k).2.2.1).before args s0 = true) (hkn : k < nF ci) (hd : decode cc q = .ok (.putfield idx, 3)) (h0 : (T.2.1 t).1 = 0) (h1 : (T.2.1 t).2.1 = ci) (ht : t < T.1)
    (hfin : (tX ci k).2.2.2 = true) (hoc : clN ci = own) (hnar : ∀ φ : Nat → Nat, narrow (tyX ci k) (cv φ w) = cv φ w) (hfit : ∀ φ : Nat → Nat, fits (tyX ci k) (cv φ w) = true)
    (hn : T'.1 = T.1) (hsh : T'.2.1 = T.2.1) (hR : ∀ a, a ≠ t → T'.2.2 a = T.2.2 a) (hI : ∀ a, a ≠ t → s'.1 a = s.1 a) (hJ : ∀ a, a ≠ t → s'.2 a = s.2 a) (hw : fvm T' s' t ci k = w) (ho : ∀ j, j ≠ k → fvm T' s' t ci j = fvm T s t ci j) (hcs' : canS s → canT T → canV T w → canS s') (hcT' : canT T → canT T')
    (hk : Wat p l e R s0 m args below meth c Q D cT B0 G nL bud (q + 3) L S T' s' cs) : Wat p l e R s0 m args below meth c Q D cT B0 G nL bud q L (w :: rv (some t) :: S) T s cs := by
  intro φ H locs ls hS hl hL hc hbd
  obtain ⟨hP, hD, hSS, hcs, hcT, hf⟩ := hS
  obtain ⟨hci, h2⟩ := sh_obj hcT ht h0 h1
  have ec := conc_fld (φ := φ) (cT := cT) (s := s) h0 h1 h2 hn hsh hR hI hJ hkn hw ho
  have hokT : ∀ v, canV T v → canV T' v := by
    intro v hv
    match v, hv with
    | .inl (.inl _), hv => exact hv
    | .inl (.inr _), hv => exact hv
    | .inr r, hv => intro i hi; rw [hn]; exact hv i hi
  exact va_putF (D := D) (ci := ci) (v := cv φ w) (ty := tyX ci k) hx hb hts (hin ci hci) (tyX ci) (tyX_ok ci hci) (nmX_ok ci hci) hown hK hP hD hSS t (conc_obj ht h0 h1 h2) (clL_get ci hci) k hkn hlink (fun _ h => h) hfin hin2 ((declX ci hci k hkn).trans hoc) (tyX_ok ci hci k hkn) (hnar φ) (hfit φ) (by simpa using hkn) hd
    (fun H1 locs1 hP1 hD1 hS1 => hk φ H1 locs1 ls ⟨by rw [ec]; exact hP1, by rw [ec]; exact hD1, hS1, hcs' hcs hcT (cS_head hc), hcT' hcT, hf.1, by rw [hn]; exact hf.2.1, hf.2.2⟩ hl (fun q hq => hokT _ (hL q hq)) (fun v hv => hokT _ (cS_tail (cS_tail hc) v hv)) hbd)
/-- arrays are read -/
theorem ok_iald (hx : p.tables.exec = Jvm.exec) (hb : c.code = cc) (hK : va_K D clL (tysL cT) s0) {t : Nat} {i : Int} (hd : decode cc q = .ok (.iaload, 1)) (h0 : (T.2.1 t).1 = 1) (h1 : (T.2.1 t).2.1 = 1) (ht : t < T.1) (hi : 0 ≤ i ∧ i < ((T.2.1 t).2.2 : Int))
    (hk : Wat p l e R s0 m args below meth c Q D cT B0 G nL bud (q + 1) L (iv (s.1 t i.toNat) :: S) T s cs) : Wat p l e R s0 m args below meth c Q D cT B0 G nL bud q L (iv i :: rv (some t) :: S) T s cs := by
  intro φ H locs ls hS hl hL hc hbd
  have hci : can i := cS_head hc
  have kk := hk φ H locs ls hS hl hL (cS_cons (hS.2.2.2.1.1 t i.toNat) (cS_tail (cS_tail hc))) hbd
  exact va_iald (D := D) hx hb hK hS.1 t 0 (conc_arr ht h0 h1 rfl) rfl ((i32_in hci).mpr hi) hd (by rw [i32_clamp hci]; exact kk)
theorem ok_lald (hx : p.tables.exec = Jvm.exec) (hb : c.code = cc) (hK : va_K D clL (tysL cT) s0) {t : Nat} {i : Int} (hd : decode cc q = .ok (.laload, 1)) (h0 : (T.2.1 t).1 = 1) (h1 : (T.2.1 t).2.1 = 2) (ht : t < T.1) (hi : 0 ≤ i ∧ i < ((T.2.1 t).2.2 : Int))
    (hk : Wat p l e R s0 m args below meth c Q D cT B0 G nL bud (q + 1) L (jv (s.2 t i.toNat) :: S) T s cs) : Wat p l e R s0 m args below meth c Q D cT B0 G nL bud q L (iv i :: rv (some t) :: S) T s cs := by
  intro φ H locs ls hS hl hL hc hbd
  have hci : can i := cS_head hc
  have kk := hk φ H locs ls hS hl hL (cS_cons (hS.2.2.2.1.2 t i.toNat) (cS_tail (cS_tail hc))) hbd
  exact va_lald (D := D) hx hb hK hS.1 t 1 (conc_arr ht h0 h1 rfl) rfl ((i32_in hci).mpr hi) hd (by rw [i32_clamp hci]; exact kk)
theorem ok_bald (hx : p.tables.exec = Jvm.exec) (hb : c.code = cc) (hK : va_K D clL (tysL cT) s0) {t : Nat} {i : Int} (hd : decode cc q = .ok (.baload, 1)) (h0 : (T.2.1 t).1 = 1) (h1 : (T.2.1 t).2.1 = 3) (ht : t < T.1) (hi : 0 ≤ i ∧ i < ((T.2.1 t).2.2 : Int))
    (hk : Wat p l e R s0 m args below meth c Q D cT B0 G nL bud (q + 1) L (iv (s.1 t i.toNat) :: S) T s cs) : Wat p l e R s0 m args below meth c Q D cT B0 G nL bud q L (iv i :: rv (some t) :: S) T s cs := by
  intro φ H locs ls hS hl hL hc hbd
  have hci : can i := cS_head hc
  have kk := hk φ H locs ls hS hl hL (cS_cons (hS.2.2.2.1.1 t i.toNat) (cS_tail (cS_tail hc))) hbd
  exact va_bald (D := D) hx hb hK hS.1 t 2 (conc_arr ht h0 h1 rfl) rfl ((i32_in hci).mpr hi) hd (by rw [i32_clamp hci]; exact kk)
theorem ok_zald (hx : p.tables.exec = Jvm.exec) (hb : c.code = cc) (hK : va_K D clL (tysL cT) s0) {t : Nat} {i : Int} (hd : decode cc q = .ok (.baload, 1)) (h0 : (T.2.1 t).1 = 1) (h1 : (T.2.1 t).2.1 = 4) (ht : t < T.1) (hi : 0 ≤ i ∧ i < ((T.2.1 t).2.2 : Int))
    (hk : Wat p l e R s0 m args below meth c Q D cT B0 G nL bud (q + 1) L (iv (s.1 t i.toNat) :: S) T s cs) : Wat p l e R s0 m args below meth c Q D cT B0 G nL bud q L (iv i :: rv (some t) :: S) T s cs := by
  intro φ H locs ls hS hl hL hc hbd
  have hci : can i := cS_head hc
  have kk := hk φ H locs ls hS hl hL (cS_cons (hS.2.2.2.1.1 t i.toNat) (cS_tail (cS_tail hc))) hbd
  exact va_zald (D := D) hx hb hK hS.1 t 3 (conc_arr ht h0 h1 rfl) rfl ((i32_in hci).mpr hi) hd (by rw [i32_clamp hci]; exact kk)
theorem ok_aald6 (hx : p.tables.exec = Jvm.exec) (hb : c.code = cc) (hK : va_K D clL (tysL cT) s0) {t : Nat} {i : Int} (hd : decode cc q = .ok (.aaload, 1)) (h0 : (T.2.1 t).1 = 1) (h1 : (T.2.1 t).2.1 = 6) (ht : t < T.1) (hi : 0 ≤ i ∧ i < ((T.2.1 t).2.2 : Int))
    (hk : Wat p l e R s0 m args below meth c Q D cT B0 G nL bud (q + 1) L (rv (T.2.2 t i.toNat) :: S) T s cs) : Wat p l e R s0 m args below meth c Q D cT B0 G nL bud q L (iv i :: rv (some t) :: S) T s cs := by
  intro φ H locs ls hS hl hL hc hbd
  have hci : can i := cS_head hc
  have kk := hk φ H locs ls hS hl hL (cS_cons (hS.2.2.2.2.1.2.1 t i.toNat) (cS_tail (cS_tail hc))) hbd
  exact va_aldq (D := D) hx hb hK hS.1 t 4 (conc_arr ht h0 h1 rfl) rfl ((i32_in hci).mpr hi) hd (by rw [i32_clamp hci]; exact kk)
theorem ok_aald7 (hx : p.tables.exec = Jvm.exec) (hb : c.code = cc) (hK : va_K D clL (tysL cT) s0) {t : Nat} {i : Int} (hd : decode cc q = .ok (.aaload, 1)) (h0 : (T.2.1 t).1 = 1) (h1 : (T.2.1 t).2.1 = 7) (ht : t < T.1) (hi : 0 ≤ i ∧ i < ((T.2.1 t).2.2 : Int))
    (hk : Wat p l e R s0 m args below meth c Q D cT B0 G nL bud (q + 1) L (rv (T.2.2 t i.toNat) :: S) T s cs) : Wat p l e R s0 m args below meth c Q D cT B0 G nL bud q L (iv i :: rv (some t) :: S) T s cs := by
  intro φ H locs ls hS hl hL hc hbd
  have hci : can i := cS_head hc
  have kk := hk φ H locs ls hS hl hL (cS_cons (hS.2.2.2.2.1.2.1 t i.toNat) (cS_tail (cS_tail hc))) hbd
  exact va_aldq (D := D) hx hb hK hS.1 t 5 (conc_arr ht h0 h1 rfl) rfl ((i32_in hci).mpr hi) hd (by rw [i32_clamp hci]; exact kk)
theorem ok_alen (hx : p.tables.exec = Jvm.exec) (hb : c.code = cc) (hK : va_K D clL (tysL cT) s0) {t t0 : Nat} {ty : FieldType} (hd : decode cc q = .ok (.arraylength, 1)) (h0 : (T.2.1 t).1 = 1) (hty : (tysL cT)[t0]? = some (cT (T.2.1 t).2.1, ty)) (ht : t < T.1)
    (hk : Wat p l e R s0 m args below meth c Q D cT B0 G nL bud (q + 1) L (iv ((T.2.1 t).2.2 : Int) :: S) T s cs) : Wat p l e R s0 m args below meth c Q D cT B0 G nL bud q L (rv (some t) :: S) T s cs := by
  intro φ H locs ls hS hl hL hc hbd
  have hlt := sh_arr hS.2.2.2.2.1 ht h0
  have kk := hk φ H locs ls hS hl hL (cS_cons (show can _ from by unfold can; omega) (cS_tail hc)) hbd
  exact va_alen (D := D) hx hb hK hS.1 t t0 (conc_arr ht h0 rfl rfl) hty (v := Int32.ofInt ((T.2.1 t).2.2 : Int)) rfl hd kk
/-- arrays are written -/
theorem ok_iast (hx : p.tables.exec = Jvm.exec) (hb : c.code = cc) (hK : va_K D clL (tysL cT) s0) {t : Nat} {i x : Int} (hd : decode cc q = .ok (.iastore, 1)) (h0 : (T.2.1 t).1 = 1) (h1 : (T.2.1 t).2.1 = 1) (ht : t < T.1) (hi : 0 ≤ i ∧ i < ((T.2.1 t).2.2 : Int))
    (hk : Wat p l e R s0 m args below meth c Q D cT B0 G nL bud (q + 1) L S T (wI s t i.toNat x) cs) : Wat p l e R s0 m args below meth c Q D cT B0 G nL bud q L (iv x :: iv i :: rv (some t) :: S) T s cs := by
  intro φ H locs ls hS hl hL hc hbd
  obtain ⟨hP, hD, hSS, hcs, hcT, hf⟩ := hS
  have hcx : can x := cS_head hc
  have hci : can i := cS_head (cS_tail hc)
  refine va_iast (D := D) hx hb hK hP hD hSS t 0 (conc_arr ht h0 h1 rfl) rfl ((i32_in hci).mpr hi) hd (fun H1 locs1 hP1 hD1 hS1 => ?_)
  have ec : conc φ cT T (wI s t i.toNat x) = (conc φ cT T s).set t (φ t, .inl (cT 1, (T.2.1 t).2.2, .inl (upd (fun j => Int32.ofInt (s.1 t j)) (Int32.ofInt i).toNatClampNeg (Int32.ofInt x)))) := by
    refine conc_set rfl rfl (fun _ _ => rfl) (fun a ha => u2_row _ _ _ ha) (fun _ _ => rfl) ?_
    unfold cellE; rw [h0, h1]
    rw [i32_clamp hci, ← updI]; rfl
  exact hk φ H1 locs1 ls ⟨by rw [ec]; exact hP1, by rw [ec]; exact hD1, hS1, canS_wI hcs hcx, hcT, hf⟩ hl hL (cS_tail (cS_tail (cS_tail hc))) hbd
theorem ok_last (hx : p.tables.exec = Jvm.exec) (hb : c.code = cc) (hK : va_K D clL (tysL cT) s0) {t : Nat} {i x : Int} (hd : decode cc q = .ok (.lastore, 1)) (h0 : (T.2.1 t).1 = 1) (h1 : (T.2.1 t).2.1 = 2) (ht : t < T.1) (hi : 0 ≤ i ∧ i < ((T.2.1 t).2.2 : Int))
    (hk : Wat p l e R s0 m args below meth c Q D cT B0 G nL bud (q + 1) L S T (wJ s t i.toNat x) cs) : Wat p l e R s0 m args below meth c Q D cT B0 G nL bud q L (jv x :: iv i :: rv (some t) :: S) T s cs := by
  intro φ H locs ls hS hl hL hc hbd
  obtain ⟨hP, hD, hSS, hcs, hcT, hf⟩ := hS
  have hcx : canJ x := cS_head hc
  have hci : can i := cS_head (cS_tail hc)
  refine va_last (D := D) hx hb hK hP hD hSS t 1 (conc_arr ht h0 h1 rfl) rfl ((i32_in hci).mpr hi) hd (fun H1 locs1 hP1 hD1 hS1 => ?_)
  have ec : conc φ cT T (wJ s t i.toNat x) = (conc φ cT T s).set t (φ t, .inl (cT 2, (T.2.1 t).2.2, .inr (.inl (vp_updL (fun j => Int64.ofInt (s.2 t j)) (Int32.ofInt i).toNatClampNeg (Int64.ofInt x))))) := by
    refine conc_set rfl rfl (fun _ _ => rfl) (fun _ _ => rfl) (fun a ha => u2_row _ _ _ ha) ?_
    unfold cellE; rw [h0, h1]
    rw [i32_clamp hci, ← updL]; rfl
  exact hk φ H1 locs1 ls ⟨by rw [ec]; exact hP1, by rw [ec]; exact hD1, hS1, canS_wJ hcs hcx, hcT, hf⟩ hl hL (cS_tail (cS_tail (cS_tail hc))) hbd
theorem ok_bast (hx : p.tables.exec = Jvm.exec) (hb : c.code = cc) (hK : va_K D clL (tysL cT) s0) {t : Nat} {i x : Int} (hd : decode cc q = .ok (.bastore, 1)) (h0 : (T.2.1 t).1 = 1) (h1 : (T.2.1 t).2.1 = 3) (ht : t < T.1) (hi : 0 ≤ i ∧ i < ((T.2.1 t).2.2 : Int))
    (hk : Wat p l e R s0 m args below meth c Q D cT B0 G nL bud (q + 1) L S T (wI s t i.toNat (b8 x)) cs) : Wat p l e R s0 m args below meth c Q D cT B0 G nL bud q L (iv x :: iv i :: rv (some t) :: S) T s cs := by
  intro φ H locs ls hS hl hL hc hbd
  obtain ⟨hP, hD, hSS, hcs, hcT, hf⟩ := hS
  have hcx : can x := cS_head hc
  have hci : can i := cS_head (cS_tail hc)
  refine va_bast (D := D) hx hb hK hP hD hSS t 2 (conc_arr ht h0 h1 rfl) rfl ((i32_in hci).mpr hi) hd (fun H1 locs1 hP1 hD1 hS1 => ?_)
  have ec : conc φ cT T (wI s t i.toNat (b8 x)) = (conc φ cT T s).set t (φ t, .inl (cT 3, (T.2.1 t).2.2, .inl (upd (fun j => Int32.ofInt (s.1 t j)) (Int32.ofInt i).toNatClampNeg (vp_nar .byte (Int32.ofInt x))))) := by
    refine conc_set rfl rfl (fun _ _ => rfl) (fun a ha => u2_row _ _ _ ha) (fun _ _ => rfl) ?_
    unfold cellE; rw [h0, h1]
    rw [i32_clamp hci, vp_nar_byte, i32_b8 hcx, ← updI]; rfl
  exact hk φ H1 locs1 ls ⟨by rw [ec]; exact hP1, by rw [ec]; exact hD1, hS1, canS_wI hcs (can_b8 x), hcT, hf⟩ hl hL (cS_tail (cS_tail (cS_tail hc))) hbd
theorem vp_nar_z {x : Int} (h : x = 0 ∨ x = 1) : vp_nar .boolean (Int32.ofInt x) = Int32.ofInt x := by
  rcases h with rfl | rfl <;> decide
theorem ok_zast (hx : p.tables.exec = Jvm.exec) (hb : c.code = cc) (hK : va_K D clL (tysL cT) s0) {t : Nat} {i x : Int} (hd : decode cc q = .ok (.bastore, 1)) (h0 : (T.2.1 t).1 = 1) (h1 : (T.2.1 t).2.1 = 4) (ht : t < T.1) (hi : 0 ≤ i ∧ i < ((T.2.1 t).2.2 : Int)) (hz : x = 0 ∨ x = 1)
    (hk : Wat p l e R s0 m args below meth c Q D cT B0 G nL bud (q + 1) L S T (wI s t i.toNat x) cs) : Wat p l e R s0 m args below meth c Q D cT B0 G nL bud q L (iv x :: iv i :: rv (some t) :: S) T s cs := by
  intro φ H locs ls hS hl hL hc hbd
  obtain ⟨hP, hD, hSS, hcs, hcT, hf⟩ := hS
  have hcx : can x := cS_head hc
  have hci : can i := cS_head (cS_tail hc)
  refine va_zast (D := D) hx hb hK hP hD hSS t 3 (conc_arr ht h0 h1 rfl) rfl ((i32_in hci).mpr hi) hd (fun H1 locs1 hP1 hD1 hS1 => ?_)
  have ec : conc φ cT T (wI s t i.toNat x) = (conc φ cT T s).set t (φ t, .inl (cT 4, (T.2.1 t).2.2, .inl (upd (fun j => Int32.ofInt (s.1 t j)) (Int32.ofInt i).toNatClampNeg (vp_nar .boolean (Int32.ofInt x))))) := by
    refine conc_set rfl rfl (fun _ _ => rfl) (fun a ha => u2_row _ _ _ ha) (fun _ _ => rfl) ?_
    unfold cellE; rw [h0, h1]
    rw [i32_clamp hci, vp_nar_z hz, ← updI]; rfl
  exact hk φ H1 locs1 ls ⟨by rw [ec]; exact hP1, by rw [ec]; exact hD1, hS1, canS_wI hcs hcx, hcT, hf⟩ hl hL (cS_tail (cS_tail (cS_tail hc))) hbd
end Mem
