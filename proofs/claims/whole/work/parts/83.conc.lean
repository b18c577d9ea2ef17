/-! ===== the small heap as the kit's world ===== -/
def cv (φ : Nat → Nat) (v : mV) : Value := match v with
  | .inl (.inl x) => .int (Int32.ofInt x)
  | .inl (.inr x) => .long (Int64.ofInt x)
  | .inr r => va_rf (r.map φ)
/-- a number is in its range, a reference is of a cell that is there, or of what stands still -/
def okR (T : mT) (r : Option Nat) : Prop := ∀ i, r = some i → i < T.1 ∨ (wB ≤ i ∧ i < wB + 2147483648)
def canV (T : mT) (v : mV) : Prop := match v with
  | .inl (.inl x) => can x
  | .inl (.inr x) => canJ x
  | .inr r => okR T r
def canS (s : mS) : Prop := (∀ c k, can (s.1 c k)) ∧ ∀ c k, canJ (s.2 c k)
def shOk (z : Nat × Nat × Nat) : Prop := (z.1 = 0 ∧ z.2.1 < 11 ∧ z.2.2 = nF z.2.1) ∨ (z.1 = 1 ∧ z.2.2 ≤ 10000 ∧ (z.2.1 = 1 ∨ z.2.1 = 2 ∨ z.2.1 = 3 ∨ z.2.1 = 4 ∨ z.2.1 = 6 ∨ z.2.1 = 7))
def canT (T : mT) : Prop := T.1 < wB ∧ (∀ t k, okR T (T.2.2 t k)) ∧ ∀ t, t < T.1 → shOk (T.2.1 t)
/-- field k of the object t of class ci -/
def fvm (T : mT) (s : mS) (t ci k : Nat) : mV := match fty ci k with
  | 1 => iv (s.1 t k)
  | 15 => iv (s.1 t k)
  | 2 => jv (s.2 t k)
  | 4 => rv (encW (s.1 t k))
  | _ => rv (T.2.2 t k)
def fval (φ : Nat → Nat) (T : mT) (s : mS) (t ci k : Nat) : Value := cv φ (fvm T s t ci k)
def acon (φ : Nat → Nat) (T : mT) (s : mS) (t tc : Nat) : (Nat → Int32) ⊕ (Nat → Int64) ⊕ (Nat → UInt32) ⊕ (Nat → UInt64) ⊕ (Nat → Option Nat) := match tc with
  | 2 => .inr (.inl (fun j => Int64.ofInt (s.2 t j)))
  | 6 => .inr (.inr (.inr (.inr (fun j => (T.2.2 t j).map φ))))
  | 7 => .inr (.inr (.inr (.inr (fun j => (T.2.2 t j).map φ))))
  | _ => .inl (fun j => Int32.ofInt (s.1 t j))
def cellO (φ : Nat → Nat) (T : mT) (s : mS) (t ci n : Nat) : va_E := .inr (ci, (List.range n).map (fval φ T s t ci))
def cellA (φ : Nat → Nat) (cT : Nat → ClassId) (T : mT) (s : mS) (t tc n : Nat) : va_E := .inl (cT tc, n, acon φ T s t tc)
def cellE (φ : Nat → Nat) (cT : Nat → ClassId) (T : mT) (s : mS) (t : Nat) : va_E := match (T.2.1 t).1 with
  | 0 => cellO φ T s t (T.2.1 t).2.1 (T.2.1 t).2.2
  | _ => cellA φ cT T s t (T.2.1 t).2.1 (T.2.1 t).2.2
def conc (φ : Nat → Nat) (cT : Nat → ClassId) (T : mT) (s : mS) : va_W := (List.range T.1).map (fun t => (φ t, cellE φ cT T s t))
theorem conc_get {φ : Nat → Nat} {cT : Nat → ClassId} {T : mT} {s : mS} {t : Nat} (h : t < T.1) : (conc φ cT T s)[t]? = some (φ t, cellE φ cT T s t) := by
  simp [conc, h]
theorem conc_none {φ : Nat → Nat} {cT : Nat → ClassId} {T : mT} {s : mS} {t : Nat} (h : ¬ t < T.1) : (conc φ cT T s)[t]? = none := by
  simp only [conc, List.getElem?_map]
  rw [List.getElem?_eq_none]; rfl
  simpa using h
theorem conc_obj {φ : Nat → Nat} {cT : Nat → ClassId} {T : mT} {s : mS} {t ci n : Nat} (h : t < T.1) (h0 : (T.2.1 t).1 = 0) (h1 : (T.2.1 t).2.1 = ci) (h2 : (T.2.1 t).2.2 = n) : (conc φ cT T s)[t]? = some (φ t, .inr (ci, (List.range n).map (fval φ T s t ci))) := by
  rw [conc_get h]; unfold cellE; rw [h0, h1, h2]; rfl
theorem conc_arr {φ : Nat → Nat} {cT : Nat → ClassId} {T : mT} {s : mS} {t tc n : Nat} (h : t < T.1) (h0 : (T.2.1 t).1 = 1) (h1 : (T.2.1 t).2.1 = tc) (h2 : (T.2.1 t).2.2 = n) : (conc φ cT T s)[t]? = some (φ t, .inl (cT tc, n, acon φ T s t tc)) := by
  rw [conc_get h]; unfold cellE; rw [h0, h1, h2]; rfl
/-- one row changes: one cell of the world does -/
theorem conc_set {φ : Nat → Nat} {cT : Nat → ClassId} {T T' : mT} {s s' : mS} {t : Nat} {e : va_E} (hn : T'.1 = T.1) (hsh : T'.2.1 = T.2.1) (hR : ∀ a, a ≠ t → T'.2.2 a = T.2.2 a) (hI : ∀ a, a ≠ t → s'.1 a = s.1 a) (hJ : ∀ a, a ≠ t → s'.2 a = s.2 a) (he : cellE φ cT T' s' t = e) :
    conc φ cT T' s' = (conc φ cT T s).set t (φ t, e) := by
  subst he
  apply List.ext_getElem?
  intro i
  rw [List.getElem?_set]
  by_cases hi : i < T.1
  · rw [conc_get (by rw [hn]; exact hi)]
    by_cases hit : t = i
    · subst hit
      rw [if_pos rfl, if_pos (by simp [conc]; exact hi)]
    · rw [if_neg hit, conc_get hi]
      have hne : i ≠ t := fun h => hit h.symm
      have e1 : cellE φ cT T' s' i = cellE φ cT T s i := by
        have f1 : ∀ ci, fval φ T' s' i ci = fval φ T s i ci := by
          intro ci; funext k; unfold fval fvm; rw [hR i hne, hI i hne, hJ i hne]
        have f2 : ∀ tc, acon φ T' s' i tc = acon φ T s i tc := by
          intro tc; unfold acon; rw [hR i hne, hI i hne, hJ i hne]
        unfold cellE cellO cellA; rw [hsh]; simp only [f1, f2]
      rw [e1]
  · rw [conc_none (by rw [hn]; exact hi)]
    by_cases hit : t = i
    · subst hit
      rw [if_pos rfl, if_neg (by simp [conc]; omega)]
    · rw [if_neg hit, conc_none hi]
/-- the addresses may be others where nothing looks -/
theorem map_ok {φ φ' : Nat → Nat} {T : mT} {r : Option Nat} (h : ∀ i, i < T.1 ∨ wB ≤ i → φ' i = φ i) (hr : okR T r) : r.map φ' = r.map φ := by
  cases r with
  | none => rfl
  | some i => simp [h i ((hr i rfl).imp id And.left)]
theorem okR_enc (T : mT) {x : Int} (hx : can x) : okR T (encW x) := by
  intro i hi
  unfold encW at hi
  split at hi
  · cases hi
  · cases hi; right; refine ⟨Nat.le_add_right _ _, ?_⟩; unfold can at hx; omega
theorem okR_none (T : mT) : okR T none := fun _ h => by cases h
theorem cv_ok {φ φ' : Nat → Nat} {T : mT} {v : mV} (h : ∀ i, i < T.1 ∨ wB ≤ i → φ' i = φ i) (hv : canV T v) : cv φ' v = cv φ v := by
  match v, hv with
  | .inl (.inl _), _ => rfl
  | .inl (.inr _), _ => rfl
  | .inr r, hv => show va_rf (r.map φ') = va_rf (r.map φ); rw [map_ok h hv]
theorem cvs_ok {φ φ' : Nat → Nat} {T : mT} {S : List mV} (h : ∀ i, i < T.1 ∨ wB ≤ i → φ' i = φ i) (hS : ∀ v ∈ S, canV T v) : S.map (cv φ') = S.map (cv φ) :=
  List.map_congr_left (fun v hv => cv_ok h (hS v hv))
theorem fvm_can {T : mT} {s : mS} (hs : canS s) (hT : canT T) (t ci k : Nat) : canV T (fvm T s t ci k) := by
  unfold fvm
  split
  · exact hs.1 t k
  · exact hs.1 t k
  · exact hs.2 t k
  · exact okR_enc T (hs.1 t k)
  · exact hT.2.1 t k
theorem cell_ok {φ φ' : Nat → Nat} {cT : Nat → ClassId} {T : mT} {s : mS} (h : ∀ i, i < T.1 ∨ wB ≤ i → φ' i = φ i) (hs : canS s) (hT : canT T) (t : Nat) : cellE φ' cT T s t = cellE φ cT T s t := by
  have f1 : ∀ ci, fval φ' T s t ci = fval φ T s t ci := by
    intro ci; funext k; exact cv_ok h (fvm_can hs hT t ci k)
  have f2 : ∀ tc, acon φ' T s t tc = acon φ T s t tc := by
    intro tc; unfold acon
    have e : (fun j => (T.2.2 t j).map φ') = fun j => (T.2.2 t j).map φ := by funext j; exact map_ok h (hT.2.1 t j)
    rw [e]
  unfold cellE cellO cellA; simp only [f1, f2]
theorem cat_cv (φ : Nat → Nat) (v : mV) : (cv φ v).category = mcat v := by
  match v with
  | .inl (.inl _) => rfl
  | .inl (.inr _) => rfl
  | .inr none => rfl
  | .inr (some _) => rfl
def cvp (φ : Nat → Nat) (q : Nat × mV) : Nat × Value := (q.1, cv φ q.2)
theorem lset1_cv (φ : Nat → Nat) (L : mL) (i : Nat) (v : mV) : (i, cv φ v) :: (L.map (cvp φ)).filter (fun q => !(q.1 == i) && !(q.1 + 1 == i && q.2.category == 2)) = (lset1 L i v).map (cvp φ) := by
  unfold lset1
  rw [List.map_cons, List.filter_map]
  congr 2
  apply List.filter_congr
  intro q _
  simp only [Function.comp, cvp, cat_cv]
theorem lset2_cv (φ : Nat → Nat) (L : mL) (i : Nat) (v : mV) : (i, cv φ v) :: (L.map (cvp φ)).filter (fun q => !(q.1 == i) && (!(q.1 == i + 1) && !(q.1 + 1 == i && q.2.category == 2))) = (lset2 L i v).map (cvp φ) := by
  unfold lset2
  rw [List.map_cons, List.filter_map]
  congr 2
  apply List.filter_congr
  intro q _
  simp only [Function.comp, cvp, cat_cv]
theorem lget_mem {L : mL} {i : Nat} {v : mV} (h : lget L i = some v) : ∃ k : Nat, L[k]? = some (i, v) := by
  induction L with
  | nil => cases h
  | cons q L ih =>
    obtain ⟨j, w⟩ := q
    unfold lget at h
    cases hb : Nat.beq j i with
    | true =>
      rw [hb] at h
      have e : j = i := Nat.eq_of_beq_eq_true hb
      cases h; subst e; exact ⟨0, rfl⟩
    | false =>
      rw [hb] at h
      obtain ⟨k, hk⟩ := ih h
      exact ⟨k + 1, by simpa using hk⟩
theorem lget_at {φ : Nat → Nat} {L : mL} {ls : Array Slot} {nL i : Nat} {v : mV} (hl : lv_has ls nL (L.map (cvp φ))) (h : lget L i = some v) : ls[i]? = some (.val (cv φ v)) := by
  obtain ⟨k, hk⟩ := lget_mem h
  exact lv_at hl k (i := i) (v := cv φ v) (by rw [List.getElem?_map, hk]; rfl)
theorem lget_can {T : mT} {L : mL} {i : Nat} {v : mV} (hc : ∀ q ∈ L, canV T q.2) (h : lget L i = some v) : canV T v := by
  obtain ⟨k, hk⟩ := lget_mem h
  exact hc (i, v) (List.mem_of_getElem? hk)
theorem lset1_can {T : mT} {L : mL} {i : Nat} {v : mV} (hc : ∀ q ∈ L, canV T q.2) (hv : canV T v) : ∀ q ∈ lset1 L i v, canV T q.2 := by
  intro q hq
  unfold lset1 at hq
  rcases List.mem_cons.mp hq with rfl | hq
  · exact hv
  · exact hc q (List.mem_filter.mp hq).1
theorem lset2_can {T : mT} {L : mL} {i : Nat} {v : mV} (hc : ∀ q ∈ L, canV T q.2) (hv : canV T v) : ∀ q ∈ lset2 L i v, canV T q.2 := by
  intro q hq
  unfold lset2 at hq
  rcases List.mem_cons.mp hq with rfl | hq
  · exact hv
  · exact hc q (List.mem_filter.mp hq).1
theorem proj_mem {L : mL} {lv : List Nat} {q : Nat × mV} (h : q ∈ proj L lv) : q ∈ L := by
  unfold proj at h
  obtain ⟨i, _, hi⟩ := List.mem_filterMap.mp h
  cases hg : lget L i with
  | none => rw [hg] at hi; cases hi
  | some v =>
    rw [hg] at hi
    cases hi
    obtain ⟨k, hk⟩ := lget_mem hg
    exact List.mem_of_getElem? hk
theorem proj_has {φ : Nat → Nat} {L : mL} {ls : Array Slot} {nL : Nat} (lv : List Nat) (hl : lv_has ls nL (L.map (cvp φ))) : lv_has ls nL ((proj L lv).map (cvp φ)) := by
  refine ⟨hl.1, hl.2.1, fun q hq => ?_⟩
  obtain ⟨p, hp, rfl⟩ := List.mem_map.mp hq
  exact hl.2.2 _ (List.mem_map.mpr ⟨p, proj_mem hp, rfl⟩)
