/-! ===== calls: contracts in the small machine's words ===== -/
def Tw : List Cond := lw_tbl.filter goodWord
def sdOf (r : Nat) : Nat := match r with
  | 0 => 0
  | 2 => 2
  | 3 => 3
  | _ => 1
theorem jsd_eq (j : Nat) : jsd j = sdOf (jrk j) := by
  by_cases h : j < 306
  · have : ∀ j, j < 306 → jsd j = sdOf (jrk j) := by decide +kernel
    exact this j h
  · have h1 : jsdl.length = 306 := by decide +kernel
    have h2 : jrkl.length = 306 := by decide +kernel
    unfold jsd jrk
    rw [List.getD_eq_getElem?_getD, List.getD_eq_getElem?_getD, List.getElem?_eq_none (by omega), List.getElem?_eq_none (by omega)]; rfl
def wsJ (j : Nat) : List Cond := Cond.code (yy j) (bb j) (mx j) (rt j) :: Tw
def rmJ (d j : Nat) : Room := { frames := d, cells := (jcost j).1, slots := (jcost j).2, locals := 64 * d }
theorem goodJ {j : Nat} (h : Cond.code (yy j) (bb j) (mx j) (rt j) ∈ Tw) : GoodIn Tw (wsJ j) := by
  intro w hw
  have hm : w ∈ Tw := by
    rcases List.mem_cons.mp hw with rfl | hw
    · exact h
    · exact hw
  exact ⟨hm, good_of_word (List.mem_filter.mp hm).2⟩
def rvO (φ : Nat → Nat) (rk : Nat) (x : Int) : Option Value := match rk with
  | 0 => none
  | 2 => some (.long (Int64.ofInt x))
  | 3 => some (va_rf ((encW x).map φ))
  | _ => some (.int (Int32.ofInt x))
def canX (rk : Nat) (x : Int) : Prop := match rk with
  | 0 => True
  | 2 => canJ x
  | _ => can x
theorem rvals_cv (φ : Nat → Nat) (rk : Nat) (x : Int) : (rvO φ rk x).toList = (rvals (sdOf rk) x).map (cv φ) := by
  unfold rvO sdOf
  split <;> rfl
theorem rvals_can {T : mT} {rk : Nat} {x : Int} (h : canX rk x) : ∀ v ∈ rvals (sdOf rk) x, canV T v := by
  intro v hv
  match rk, h, hv with
  | 0, _, hv => cases hv
  | 1, h, hv => simp only [sdOf, rvals, List.mem_singleton] at hv; subst hv; exact h
  | 2, h, hv => simp only [sdOf, rvals, List.mem_singleton] at hv; subst hv; exact h
  | 3, h, hv => simp only [sdOf, rvals, List.mem_singleton] at hv; subst hv; exact okR_enc T h
  | n + 4, h, hv => simp only [sdOf, rvals, List.mem_singleton] at hv; subst hv; exact h
section Ct
variable (D : va_G) (cT : Nat → ClassId) (B0 : Nat) (fS : Nat → Nat) (Sx : State → Prop)
/-- the world at a method's entry; Sx: what stands still -/
def AtW (φ : Nat → Nat) (T : mT) (s : mS) (U : State) : Prop := B0 ≤ U.heap.size ∧ va_P D clL (conc φ cT T s) U.heap ∧ va_K D clL (tysL cT) U ∧ va_D (sA B0) (conc φ cT T s) ∧ Sx U ∧ ∀ i, φ (wB + i) = fS i
def PcJ (φ : Nat → Nat) (as : List mV) (T : mT) (s : mS) : Array Value → State → Prop := va_Pc (as.map (cv φ)) (AtW D cT B0 fS Sx φ T s)
def QcJ (φ : Nat → Nat) (rk : Nat) (T : mT) (x : Int) (T' : mT) (s' : mS) : Array Value → State → Outcome → State → Prop := fun _ st oc t =>
  (∃ φ', extF T φ φ' ∧ oc = .returned (rvO φ' rk x) ∧ va_P D clL (conc φ' cT T' s') t.heap ∧ va_D (sA B0) (conc φ' cT T' s') ∧ canX rk x ∧ canS s' ∧ canT T' ∧ T.1 ≤ T'.1) ∧ va_F (sA B0) st t
def MetJ (l : Launch) (d j : Nat) (as : List mV) (T : mT) (s : mS) (x : Int) (T' : mT) (s' : mS) : Prop :=
  ∀ φ, Met l (yy j) (wsJ j) (rmJ d j) (PcJ D cT B0 fS Sx φ as T s) (QcJ D cT B0 φ (jrk j) T x T' s') (jcost j).1 (jcost j).2 (sA B0)
end Ct
/-- what stands still goes on: the tables are alike, and nothing below has changed -/
def Still (B0 : Nat) (Sx : State → Prop) : Prop := ∀ u t : State, Sx u → u.WarmedH t.vm → (∀ q, q < u.heap.size → ¬ sA B0 q → t.heap[q]? = u.heap[q]?) → Sx t
section Call
variable {p : Program} {l : Launch} {e : Env} {R : Room} {s0 : State} {m : MethodId} {args : Array Value} {below : List Frame} {meth : Method} {c : Code} {Q : State → Prop} {D : va_G} {cT : Nat → ClassId} {B0 : Nat} {G : mG} {nL : Nat} {bud : Nat × Nat} {Sx : State → Prop}
variable {cc : ByteArray} {q : Nat} {L : mL} {S : List mV} {T : mT} {s : mS} {cs : Nat × Nat} {own : String}
theorem call_go {H : Heap} {locs : List Loc} {cells slots mc ms pc rk : Nat} {ls : Array Slot} {st0 rest : List Value} {φ : Nat → Nat} {x : Int} {T' : mT} {s' : mS} {a : Array Value}
    (hr : va_Run p l e R s0 m args below meth c H locs cells slots mc ms (F0 m pc ls st0) rest (QcJ D cT B0 φ rk T x T' s' a) (sA B0)) (hS : va_S (sA B0) s0.heap H locs)
    (kk : ∀ (φ' : Nat → Nat) (H1 : Heap) (locs1 : List Loc), extF T φ φ' → va_P D clL (conc φ' cT T' s') H1 → va_D (sA B0) (conc φ' cT T' s') → canX rk x → canS s' → canT T' → T.1 ≤ T'.1 → va_S (sA B0) s0.heap H1 locs1 → W p l e R s0 m args below meth c H1 locs1 (cells + mc) (slots + ms) Q (F0 m (pc + 3) ls ((rvO φ' rk x).toList ++ rest))) :
    W p l e R s0 m args below meth c H locs cells slots Q (F0 m pc ls st0) := by
  intro U hU X
  obtain ⟨v, st₀, t, U', L, h0, X', hL, e1, e2, ⟨⟨φ', hext, hv, hP, hD, hX1, hX2, hX3, hX4⟩, hz, hk⟩, st⟩ := hr U hU X
  cases hv
  rw [h0] at hz hk
  obtain ⟨t2, a1, b1⟩ := kk φ' U'.heap (locs ++ L) hext (by rw [e1]; exact hP) hD hX1 hX2 hX3 hX4
    ⟨Nat.le_trans hS.1 (by rw [e1]; exact hz), fun q h1 h2 => by rw [e1, hk q (Nat.lt_of_lt_of_le h1 hS.1) h2]; exact hS.2.1 q h1 h2, fun q hq => by
      rcases List.mem_append.mp hq with h | h
      · exact hS.2.2 q h
      · exact hL q h⟩ U' rfl X'
  exact ⟨t2, st t2 a1, b1⟩
theorem canV_mono {T T' : mT} (h : T.1 ≤ T'.1) {v : mV} (hv : canV T v) : canV T' v := by
  match v, hv with
  | .inl (.inl _), hv => exact hv
  | .inl (.inr _), hv => exact hv
  | .inr r, hv => exact fun i hi => (hv i hi).imp (fun z => Nat.lt_of_lt_of_le z h) id
theorem cvp_ok {φ φ' : Nat → Nat} {T : mT} {L : mL} (h : extF T φ φ') (hL : ∀ q ∈ L, canV T q.2) : L.map (cvp φ') = L.map (cvp φ) :=
  List.map_congr_left (fun q hq => by unfold cvp; rw [cv_ok h (hL q hq)])
theorem blindP {φ : Nat → Nat} {as : List mV} {T : mT} {s : mS} (hst : Still B0 Sx) : FrameBlind (PcJ D cT B0 G.1 Sx φ as T s) := by
  intro a U g mk q
  obtain ⟨q0, q1, q2, q3, q4, q5, q6⟩ := q
  exact ⟨q0, q1, q2, va_K.moved (u := U) (U := U.calling g mk a) (Vm.Alike.refl U.vm) q3, q4, hst U _ q5 (State.WarmedH.refl U) (fun _ _ _ => rfl), q6⟩
theorem preP {φ : Nat → Nat} {as : List mV} {H : Heap} {locs : List Loc} (hst : Still B0 Sx) (hSx : Sx s0) (hB0 : B0 ≤ s0.heap.size) (hK : va_K D clL (tysL cT) s0) (hS : St8 D cT B0 G s0 φ T s H locs) (U : State) (hU : U.heap = H) (hW : s0.WarmedH U.vm) : PcJ D cT B0 G.1 Sx φ as T s (as.map (cv φ)).toArray U := by
  obtain ⟨hP, hD, hSS, hcs, hcT, hf⟩ := hS
  refine ⟨rfl, by rw [hU]; exact Nat.le_trans hB0 hSS.1, by rw [hU]; exact hP, va_K.moved hW.alike hK, hD, hst s0 U hSx hW (fun q h1 h2 => by rw [hU]; exact hSS.2.1 q h1 h2), hf.1⟩
theorem sum_cv (φ : Nat → Nat) : ∀ S : List mV, ((S.map (cv φ)).map fun v => v.category).sum = msum S
  | [] => rfl
  | v :: S => by simp only [List.map_cons, List.sum_cons, msum, sum_cv φ S, cat_cv]
/-- behind a call -/
theorem ok_after {j : Nat} {S' : List mV} {x : Int} {T' : mT} {s' : mS} {φ : Nat → Nat} {H : Heap} {locs : List Loc} {ls : Array Slot} {st0 : List Value} {a : Array Value}
    (hS : St8 D cT B0 G s0 φ T s H locs) (hl : lv_has ls nL (L.map (cvp φ))) (hL : ∀ q ∈ L, canV T q.2) (hc : ∀ v ∈ S', canV T v) (hb1 : cs.1 + (jcost j).1 ≤ bud.1) (hb2 : cs.2 + (jcost j).2 ≤ bud.2)
    (hr : va_Run p l e R s0 m args below meth c H locs cs.1 cs.2 (jcost j).1 (jcost j).2 (F0 m q ls st0) (S'.map (cv φ)) (QcJ D cT B0 φ (jrk j) T x T' s' a) (sA B0))
    (hk : Wat p l e R s0 m args below meth c Q D cT B0 G nL bud (q + 3) L (rvals (jsd j) x ++ S') T' s' (cs.1 + (jcost j).1, cs.2 + (jcost j).2)) :
    W p l e R s0 m args below meth c H locs cs.1 cs.2 Q (F0 m q ls st0) := by
  refine call_go hr hS.2.2.1 (fun φ' H1 locs1 hext hP1 hD1 hX hcs' hcT' hle hS1 => ?_)
  have hf := hS.2.2.2.2.2
  have hf' : Fx G φ' T' := ⟨fun i => (hext (wB + i) (Or.inr (Nat.le_add_right _ _))).trans (hf.1 i), Nat.le_trans hf.2.1 hle, fun i hi => (hext i (hi.imp (fun z => Nat.lt_of_lt_of_le z hf.2.1) id)).trans (hf.2.2 i hi)⟩
  have k := hk φ' H1 locs1 ls ⟨hP1, hD1, hS1, hcs', hcT', hf'⟩ (by rw [cvp_ok hext hL]; exact hl) (fun q hq => canV_mono hle (hL q hq))
    (fun v hv => by
      rcases List.mem_append.mp hv with h | h
      · rw [jsd_eq] at h; exact rvals_can hX v h
      · exact canV_mono hle (hc v h)) ⟨hb1, hb2⟩
  rw [rvals_cv, ← jsd_eq, ← cvs_ok hext hc, ← List.map_append]
  exact k
end Call
