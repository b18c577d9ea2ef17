/-! ===== the method that writes a text: the same run over guarded texts ===== -/
def noCall (ins : Instr) : Bool := match ins with
  | .invokevirtual _ | .invokestatic _ | .invokespecial _ => false
  | _ => true
section Cal
variable {α : Type}
set_option maxRecDepth 100000 in
theorem ex_nc {Z : mZ} {al ini : Bool} {oc nL : Nat} {bud : Nat × Nat} {scr : Nat × (Nat → Int)} {rk : Nat} {res : Nat → Nat × Nat × Nat} {cal cal2 : mCal α} {ins : Instr} {q len : Nat} {tg : List Nat} {L : mL} {S : List mV} {T : mT} {s : mS} {cs : Nat × Nat} {k : mK α} {kr : Int → mT → mS → Option α} (h : noCall ins = true) :
    ex Z al ini oc nL bud scr rk res cal ins q len tg L S T s cs k kr = ex Z al ini oc nL bud scr rk res cal2 ins q len tg L S T s cs k kr := by
  cases ins <;> first | rfl | (cases h; done) | (rename_i cnd off; cases cnd <;> rfl)
theorem seg_cal {Z : mZ} {M : mM} {scr : Nat × (Nat → Int)} {cal cal2 : mCal α} : ∀ (cd : List mI), (∀ r ∈ cd, ∀ (L : mL) (S : List mV) (T : mT) (s : mS) (cs : Nat × Nat) (k : mK α) (kr : Int → mT → mS → Option α), stp Z M scr cal r.2.1 r.1 r.2.2.1 r.2.2.2 L S T s cs k kr = stp Z M scr cal2 r.2.1 r.1 r.2.2.1 r.2.2.2 L S T s cs k kr) →
    ∀ (pc : Nat) (L : mL) (S : List mV) (T : mT) (s : mS) (cs : Nat × Nat) (kc : mK α) (kr : Int → mT → mS → Option α), seg Z M scr cal cd pc L S T s cs kc kr = seg Z M scr cal2 cd pc L S T s cs kc kr := by
  intro cd
  induction cd with
  | nil => intros; rfl
  | cons r rest ih =>
    intro h pc L S T s cs kc kr
    obtain ⟨q, ins, len, tg⟩ := r
    have ih := ih (fun r hr => h r (List.mem_cons_of_mem _ hr))
    rw [seg_cons, seg_cons, ih, h _ List.mem_cons_self]
    congr 1
    unfold stp
    congr 1
    funext pc' L' S' T' s' cs'
    unfold cutK
    simp only [ih]
theorem inv_eq {bud : Nat × Nat} {j np q : Nat} {L : mL} {S : List mV} {T : mT} {s : mS} {cs : Nat × Nat} {k : mK α} {e1 e2 : Nat → List mV → mS → Option (Int × mS)} (hj : jcl j = 2) (h : ∀ t r s, gIn 2 t = true → e1 j (rv (some t) :: r) s = e2 j (rv (some t) :: r) s) :
    exInv bud (fun j as T s k => (e1 j as s).bind fun p => k p.1 T p.2) 1 (8, j, np) q L S T s cs k = exInv bud (fun j as T s k => (e2 j as s).bind fun p => k p.1 T p.2) 1 (8, j, np) q L S T s cs k := by
  unfold exInv
  show popR (S.drop np) _ = popR (S.drop np) _
  congr 1
  funext t S'
  by_cases hg : gIn (jcl j) t = true
  · rw [if_pos hg, if_pos hg]
    rw [hj] at hg
    unfold exCall
    simp only [h t _ s hg]
  · rw [if_neg hg, if_neg hg]
theorem inv_eq7 {bud : Nat × Nat} {j np q : Nat} {L : mL} {S : List mV} {T : mT} {s : mS} {cs : Nat × Nat} {k : mK α} {e1 e2 : Nat → List mV → mS → Option (Int × mS)} (h : ∀ as s, e1 j as s = e2 j as s) :
    exInv bud (fun j as T s k => (e1 j as s).bind fun p => k p.1 T p.2) 1 (7, j, np) q L S T s cs k = exInv bud (fun j as T s k => (e2 j as s).bind fun p => k p.1 T p.2) 1 (7, j, np) q L S T s cs k := by
  unfold exInv exCall
  simp only [h]
end Cal
def env109 (m : Nat) : Nat → List mV → mS → Option (Int × mS) := fun j as s => bsel (Nat.beq j 108) (zF_108 Z0 m as s) (bsel (Nat.beq j 110) (F110 as s) (bsel (Nat.beq j 112) (F112 as s) none))
theorem e109_108 (m : Nat) (as : List mV) (s : mS) : zenv_109 Z0 m 108 as s = env109 m 108 as s := rfl
theorem e109_110 (m t : Nat) (r : List mV) (s : mS) (h : gIn 2 t = true) : zenv_109 Z0 m 110 (rv (some t) :: r) s = env109 m 110 (rv (some t) :: r) s := by
  show zF_110 Z0 m (rv (some t) :: r) s = bsel (gIn 2 t) (zF_110 Z0 0 (rv (some t) :: r) s) none
  rw [h]; rfl
theorem e109_112 (m t : Nat) (r : List mV) (s : mS) (h : gIn 2 t = true) : zenv_109 Z0 m 112 (rv (some t) :: r) s = env109 m 112 (rv (some t) :: r) s := by
  show zF_112 Z0 m (rv (some t) :: r) s = bsel (gIn 2 t) (zF_112 Z0 0 (rv (some t) :: r) s) none
  rw [h]; rfl
set_option maxRecDepth 100000 in
theorem seg_109 {α : Type} (m : Nat) (scr : Nat × (Nat → Int)) : ∀ r ∈ cd_109, ∀ (L : mL) (S : List mV) (T : mT) (s : mS) (cs : Nat × Nat) (k : mK α) (kr : Int → mT → mS → Option α),
    stp Z0 Mi_109 scr (fun j as T s k => (zenv_109 Z0 m j as s).bind fun p => k p.1 T p.2) r.2.1 r.1 r.2.2.1 r.2.2.2 L S T s cs k kr = stp Z0 Mi_109 scr (fun j as T s k => (env109 m j as s).bind fun p => k p.1 T p.2) r.2.1 r.1 r.2.2.1 r.2.2.2 L S T s cs k kr := by
  intro r hr L S T s cs k kr
  by_cases hc : noCall r.2.1 = true
  · exact ex_nc (len := r.2.2.1) hc
  · have : ∀ r ∈ cd_109, (noCall r.2.1 || (decide (r.2.1 = .invokevirtual 422) || (decide (r.2.1 = .invokevirtual 426) || decide (r.2.1 = .invokevirtual 430)))) = true := by decide +kernel
    have h1 := this r hr
    simp only [hc, Bool.false_or, Bool.or_eq_true, decide_eq_true_eq] at h1
    obtain ⟨q, ins, len, tg⟩ := r
    rcases h1 with h1 | h1 | h1
    · cases h1; exact inv_eq (j := 110) (np := 0) rfl (e109_110 m)
    · cases h1; exact inv_eq (j := 112) (np := 1) rfl (e109_112 m)
    · cases h1; exact inv_eq7 (j := 108) (np := 1) (e109_108 m)
theorem run_109 (m : Nat) : ∀ (n pc : Nat) (L : mL) (S : List mV) (s : mS) (cs : Nat × Nat), runS Z0 TT Mi_109 scr0 (zenv_109 Z0 m) n pc L S s cs = runS Z0 TT Mi_109 scr0 (env109 m) n pc L S s cs := by
  intro n
  induction n with
  | zero => intros; rfl
  | succ n ih =>
    intro pc L S s cs
    show seg Z0 Mi_109 scr0 (fun j as T s k => (zenv_109 Z0 m j as s).bind fun p => k p.1 T p.2) cd_109 pc L S TT s cs _ _ = seg Z0 Mi_109 scr0 (fun j as T s k => (env109 m j as s).bind fun p => k p.1 T p.2) cd_109 pc L S TT s cs _ _
    rw [seg_cal cd_109 (seg_109 m scr0)]
    congr 1
    funext pc' L' S' T' s' cs'
    exact ih pc' L' S' s' cs'
