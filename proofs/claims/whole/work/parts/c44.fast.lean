/-! ===== the constructors' runs, in a form that is run quickly ===== -/
def wIb (s : mS) (c k : Nat) (v : Int) : mS := (fun a => bsel (Nat.beq a c) (fun j => bsel (Nat.beq j k) v (s.1 a j)) (s.1 a), s.2)
theorem wIb_eq (s : mS) (c k : Nat) (v : Int) : wIb s c k v = wI s c k v := by
  unfold wIb wI u2
  congr 1
  funext a j
  by_cases h : a = c
  · subst h
    have e : Nat.beq a a = true := Nat.beq_refl a
    rw [e]
    by_cases h2 : j = k
    · subst h2
      have e2 : Nat.beq j j = true := Nat.beq_refl j
      show bsel (Nat.beq j j) v (s.1 a j) = _
      rw [e2, if_pos ⟨rfl, rfl⟩]
    · have e2 : Nat.beq j k = false := by
        cases hb : Nat.beq j k
        · rfl
        · exact absurd (Nat.eq_of_beq_eq_true hb) h2
      show bsel (Nat.beq j k) v (s.1 a j) = _
      rw [e2, if_neg (fun z => h2 z.2)]
  · have e : Nat.beq a c = false := by
      cases hb : Nat.beq a c
      · rfl
      · exact absurd (Nat.eq_of_beq_eq_true hb) h
    rw [e, if_neg (fun z => h z.1)]
theorem bsel_beq {β : Type} (a c : Nat) (x y : β) : bsel (Nat.beq a c) x y = if a = c then x else y := by
  by_cases h : a = c
  · subst h
    have e : Nat.beq a a = true := Nat.beq_refl a
    rw [e, if_pos rfl]
  · have e : Nat.beq a c = false := by
      cases hb : Nat.beq a c
      · rfl
      · exact absurd (Nat.eq_of_beq_eq_true hb) h
    rw [e, if_neg h]
theorem ite_app {β γ : Type} (c : Prop) [Decidable c] (f g : β → γ) (x : β) : (if c then f else g) x = if c then f x else g x := by
  by_cases h : c
  · rw [if_pos h, if_pos h]
  · rw [if_neg h, if_neg h]
def mkObjb (T : mT) (s : mS) (ci n : Nat) : mT × mS := ((T.1 + 1, fun t => bsel (Nat.beq t T.1) (0, ci, n) (T.2.1 t), fun t => bsel (Nat.beq t T.1) (fun _ => none) (T.2.2 t)), (fun t => bsel (Nat.beq t T.1) (fini ci) (s.1 t), fun t => bsel (Nat.beq t T.1) (fun _ => 0) (s.2 t)))
theorem mkObjb_eq (T : mT) (s : mS) (ci n : Nat) : mkObjb T s ci n = mkObj T s ci n := by
  unfold mkObjb mkObj
  simp only [bsel_beq]
  congr 1
  · congr 2
    funext t k
    rw [ite_app]
  · congr 1
    · funext t k; rw [ite_app]
    · funext t k; rw [ite_app]
def mkArrb (T : mT) (s : mS) (tc n : Nat) : mT × mS := ((T.1 + 1, fun t => bsel (Nat.beq t T.1) (1, tc, n) (T.2.1 t), fun t => bsel (Nat.beq t T.1) (fun _ => none) (T.2.2 t)), (fun t => bsel (Nat.beq t T.1) (fun _ => 0) (s.1 t), fun t => bsel (Nat.beq t T.1) (fun _ => 0) (s.2 t)))
theorem mkArrb_eq (T : mT) (s : mS) (tc n : Nat) : mkArrb T s tc n = mkArr T s tc n := by
  unfold mkArrb mkArr
  simp only [bsel_beq]
  congr 1
  · congr 2
    funext t k
    rw [ite_app]
  · congr 1
    · funext t k; rw [ite_app]
    · funext t k; rw [ite_app]
def setRb (T : mT) (c k : Nat) (v : Option Nat) : mT := (T.1, T.2.1, fun t => bsel (Nat.beq t c) (fun j => bsel (Nat.beq j k) v (T.2.2 t j)) (T.2.2 t))
theorem setRb_eq (T : mT) (c k : Nat) (v : Option Nat) : setRb T c k v = setR T c k v := by
  unfold setRb setR
  congr 2
  funext t j
  simp only [bsel_beq]
  rw [ite_app]
  by_cases h : t = c
  · rw [if_pos h]
    by_cases h2 : j = k
    · rw [if_pos h2, if_pos ⟨h, h2⟩]
    · rw [if_neg h2, if_neg (fun z => h2 z.2)]
  · rw [if_neg h, if_neg (fun z => h z.1)]
abbrev mStp : Type := mL → List mV → mT → mS → Nat × Nat → mK aR → (Int → mT → mS → Option aR) → Option aR
def cA (i n : Nat) : mStp := fun L S T s cs k _ => ldR L i fun r => k n L (rv r :: S) T s cs
def cI (i n : Nat) : mStp := fun L S T s cs k _ => ldI L i fun x => k n L (iv x :: S) T s cs
def cIs (i n nL : Nat) : mStp := fun L S T s cs k _ => popI S fun x S => bsel (Nat.blt i nL) (k n (lset1 L i (iv x)) S T s cs) (none)
def cAs (i n nL : Nat) : mStp := fun L S T s cs k _ => popQ S fun r S => bsel (Nat.blt i nL) (k n (lset1 L i (rv r)) S T s cs) (none)
def cInc (i : Nat) (c : Int) (n nL : Nat) : mStp := fun L S T s cs k _ => ldI L i fun x => bsel (Nat.blt i nL) (k n (lset1 L i (iv (Z0 0 x c))) S T s cs) (none)
def cC (b : Bool) (c : Int) (n : Nat) : mStp := fun L S T s cs k _ => bsel b (k n L (iv c :: S) T s cs) (none)
def cDup (n : Nat) : mStp := fun L S T s cs k _ => match S with
  | a :: S' => bsel (Nat.beq (mcat a) 1) (k n L (a :: a :: S') T s cs) (none)
  | _ => none
def cAdd (n : Nat) : mStp := fun L S T s cs k _ => exBin Z0 .iadd S fun v S => k n L (v :: S) T s cs
def cIf (c : Jvm.ClassFile.Cond) (t n : Nat) : mStp := fun L S T s cs k _ => popI S fun y S => popI S fun x S => icond c x y (k t L S T s cs) (k n L S T s cs)
def cIz (c : Jvm.ClassFile.Cond) (t n : Nat) : mStp := fun L S T s cs k _ => popI S fun x S => icond c x 0 (k t L S T s cs) (k n L S T s cs)
def cGo (t : Nat) : mStp := fun L S T s cs k _ => k t L S T s cs
def cGet (res : Nat × Nat × Nat) (q : Nat) : mStp := fun L S T s cs k _ => exGet res q L S T s cs k
def cPut (ini : Bool) (oc : Nat) (res : Nat × Nat × Nat) (n : Nat) : mStp := fun L S T s cs k _ => match res with
  | (1, ci, f) => popI S fun x S => popR S fun t S => onObj T t ci (k n L S T (wIb s t f x) cs)
  | (15, ci, f) => popI S fun x S => popR S fun t S => onObj T t ci (if x = 0 ∨ x = 1 then k n L S T (wIb s t f x) cs else none)
  | (2, ci, f) => popJ S fun x S => popR S fun t S => onObj T t ci (k n L S T (wJ s t f x) cs)
  | (4, ci, f) => popQ S fun x S => popR S fun t S => onObj T t ci (bsel (wOk x) (k n L S T (wIb s t f (decW x)) cs) (none))
  | (3, ci, f) => bsel (ini && Nat.beq oc ci) (popR S fun x S => popR S fun t S => onObj T t ci (onObj T x (rcls ci f) (k n L S (setRb T t f (some x)) s cs))) (none)
  | (16, ci, f) => bsel (ini && Nat.beq oc ci) (popR S fun x S => popR S fun t S => onObj T t ci (onArr T x (rcls ci f) (k n L S (setRb T t f (some x)) s cs))) (none)
  | _ => none
def cIald (q : Nat) : mStp := fun L S T s cs k _ => exAld scr0 1 q L S T s cs k
def cIast (n : Nat) : mStp := fun L S T s cs k _ => popI S fun x S => popI S fun i S => popR S fun t S => onArr T t 1 (inR i (T.2.1 t).2.2 (k n L S T (wIb s t i.toNat x) cs))
def cAast (al : Bool) (n : Nat) : mStp := fun L S T s cs k _ => bsel (al) (popR S fun x S => popI S fun i S => popR S fun t S =>
      onArr T t (T.2.1 t).2.1 (onObj T x (acls (T.2.1 t).2.1) (inR i (T.2.1 t).2.2 (k n L S (setRb T t i.toNat (some x)) s cs)))) (none)
def cLen (q : Nat) : mStp := fun L S T s cs k _ => exLen scr0 q L S T s cs k
def cInv (bud : Nat × Nat) (cal : mCal aR) (kind : Nat) (res : Nat × Nat × Nat) (q : Nat) : mStp := fun L S T s cs k _ => exInv bud cal kind res q L S T s cs k
def cNew (al : Bool) (bud : Nat × Nat) (res : Nat × Nat × Nat) (n' : Nat) : mStp := fun L S T s cs k _ => bsel al (match res with
  | (13, ci, n) => bsel (Nat.ble (cs.1 + 1) bud.1 && (Nat.ble (cs.2 + n) bud.2 && Nat.blt (T.1 + 1) wB)) (k n' L (rv (some T.1) :: S) (mkObjb T s ci n).1 (mkObjb T s ci n).2 (cs.1 + 1, cs.2 + n)) (none)
  | _ => none) none
def cNwA (al : Bool) (bud : Nat × Nat) (tc : Nat) (q' : Nat) : mStp := fun L S T s cs k _ => bsel (al && Nat.blt 0 tc) (popI S fun n S => bsel (Nat.ble (cs.1 + 1) bud.1 && (Nat.ble (cs.2 + n.toNat) bud.2 && (Nat.ble n.toNat 10000 && (decide (0 ≤ n) && Nat.blt (T.1 + 1) wB)))) (k q' L (rv (some T.1) :: S) (mkArrb T s tc n.toNat).1 (mkArrb T s tc n.toNat).2 (cs.1 + 1, cs.2 + n.toNat)) (none)) none
def cRet (rk : Nat) : mStp := fun _ S T s _ _ kr => exRetV rk S T s kr
/-- a step's road, picked once -/
def fst (M : mM) (cal : mCal aR) (ins : Instr) (q len : Nat) (tg : List Nat) : mStp := match ins with
  | .aload_n i => cA i.val (q + 1)
  | .iload_n i => cI i.val (q + 1)
  | .istore i => cIs i (q + 2) M.2.2.2.1
  | .istore_n i => cIs i.val (q + 1) M.2.2.2.1
  | .astore_n i => cAs i.val (q + 1) M.2.2.2.1
  | .iinc i c => cInc i c (q + 3) M.2.2.2.1
  | .iconst c => cC (decide (-1 ≤ c) && decide (c ≤ 5)) c (q + 1)
  | .bipush c => cC (decide (-128 ≤ c) && decide (c ≤ 127)) c (q + 2)
  | .sipush c => cC (decide (-32768 ≤ c) && decide (c ≤ 32767)) c (q + 3)
  | .dup => cDup (q + 1)
  | .iadd => cAdd (q + 1)
  | .if_icmp c _ => cIf c (tg.headD 0) (q + 3)
  | .ifCond c _ => cIz c (tg.headD 0) (q + 3)
  | .goto _ => cGo (tg.headD 0)
  | .getfield x => cGet (rlook M.2.2.2.2.2.2.1 x) q
  | .putfield x => cPut M.2.1 M.2.2.1 (rlook M.2.2.2.2.2.2.1 x) (q + 3)
  | .iaload => cIald q
  | .iastore => cIast (q + 1)
  | .aastore => cAast M.1 (q + 1)
  | .arraylength => cLen q
  | .invokevirtual x => cInv M.2.2.2.2.1 cal 1 (rlook M.2.2.2.2.2.2.1 x) q
  | .invokestatic x => cInv M.2.2.2.2.1 cal 2 (rlook M.2.2.2.2.2.2.1 x) q
  | .invokespecial x => cInv M.2.2.2.2.1 cal 3 (rlook M.2.2.2.2.2.2.1 x) q
  | .new x => cNew M.1 M.2.2.2.2.1 (rlook M.2.2.2.2.2.2.1 x) (q + 3)
  | .newarray a => cNwA M.1 M.2.2.2.2.1 (tcOf a) (q + 2)
  | .return_ => cRet M.2.2.2.2.2.1
  | i => stp Z0 M scr0 cal i q len tg
set_option maxRecDepth 100000 in
theorem fst_eq (M : mM) (cal : mCal aR) (ins : Instr) (q len : Nat) (tg : List Nat) : fst M cal ins q len tg = stp Z0 M scr0 cal ins q len tg := by
  funext L S T s cs k kr
  cases ins with
  | putfield x =>
    show cPut M.2.1 M.2.2.1 (rlook M.2.2.2.2.2.2.1 x) (q + 3) L S T s cs k kr = exPut M.2.1 M.2.2.1 (rlook M.2.2.2.2.2.2.1 x) q L S T s cs k
    unfold cPut exPut
    simp only [wIb_eq, setRb_eq]
    rfl
  | iastore =>
    show cIast (q + 1) L S T s cs k kr = exAst Z0 M.1 1 q L S T s cs k
    unfold cIast exAst
    simp only [wIb_eq]
  | aastore =>
    show cAast M.1 (q + 1) L S T s cs k kr = exAst Z0 M.1 6 q L S T s cs k
    unfold cAast exAst
    simp only [setRb_eq]
  | new x =>
    show cNew M.1 M.2.2.2.2.1 (rlook M.2.2.2.2.2.2.1 x) (q + 3) L S T s cs k kr = bsel M.1 (exNew M.2.2.2.2.1 (rlook M.2.2.2.2.2.2.1 x) q L S T s cs k) none
    unfold cNew exNew
    simp only [mkObjb_eq]
    rfl
  | newarray a =>
    show cNwA M.1 M.2.2.2.2.1 (tcOf a) (q + 2) L S T s cs k kr = bsel (M.1 && Nat.blt 0 (tcOf a)) (exNewA M.2.2.2.2.1 (tcOf a) (q + 2) L S T s cs k) none
    unfold cNwA exNewA
    simp only [mkArrb_eq]
  | _ => rfl
def segF (M : mM) (cal : mCal aR) : List mI → Nat → mL → List mV → mT → mS → Nat × Nat → mK aR → (Int → mT → mS → Option aR) → Option aR
  | [], _, _, _, _, _, _, _, _ => none
  | r :: rest, pc, L, S, T, s, cs, kc, kr =>
    bsel (Nat.beq r.1 pc) (fst M cal r.2.1 r.1 r.2.2.1 r.2.2.2 L S T s cs (cutK M.2.2.2.2.2.2.2.2 kc (fun pc' L' S' T' s' cs' => segF M cal rest pc' L' S' T' s' cs' kc kr)) kr) (segF M cal rest pc L S T s cs kc kr)
theorem segF_eq (M : mM) (cal : mCal aR) : ∀ (cd : List mI) (pc : Nat) (L : mL) (S : List mV) (T : mT) (s : mS) (cs : Nat × Nat) (kc : mK aR) (kr : Int → mT → mS → Option aR), segF M cal cd pc L S T s cs kc kr = seg Z0 M scr0 cal cd pc L S T s cs kc kr := by
  intro cd
  induction cd with
  | nil => intros; rfl
  | cons r rest ih =>
    intro pc L S T s cs kc kr
    obtain ⟨q, ins, len, tg⟩ := r
    rw [seg_cons]
    show bsel (Nat.beq q pc) (fst M cal ins q len tg L S T s cs _ kr) (segF M cal rest pc L S T s cs kc kr) = _
    rw [fst_eq]
    simp only [ih]
def loopF (M : mM) (cal : mCal aR) : Nat → mK aR
  | 0 => fun _ _ _ _ _ _ => none
  | n + 1 => fun pc L S T s cs => segF M cal M.2.2.2.2.2.2.2.1 pc L S T s cs (loopF M cal n) (fun x T s => some (x, T, s))
theorem loopF_eq (M : mM) (cal : mCal aR) : ∀ n, loopF M cal n = loopA M cal n := by
  intro n
  induction n with
  | zero => rfl
  | succ n ih =>
    funext pc L S T s cs
    show segF M cal _ pc L S T s cs (loopF M cal n) _ = seg Z0 M scr0 cal _ pc L S T s cs (loopA M cal n) _
    rw [ih, segF_eq]
def ctRunF : Nat → Nat → List mV → mT → mS → Option aR
  | 0, _, _, _, _ => none
  | d + 1, j, as, T, s => match ctM j with
    | none => none
    | some M => loopF M (fun j as T s k => (ctRunF d j as T s).bind fun r => k r.1 r.2.1 r.2.2) 1000 0 (ent 0 as) [] T s (0, 0)
theorem ctRunF_eq : ∀ d, ctRunF d = ctRun d := by
  intro d
  induction d with
  | zero => rfl
  | succ d ih =>
    funext j as T s
    unfold ctRunF ctRun
    cases ctM j with
    | none => rfl
    | some M =>
      show loopF M _ 1000 0 (ent 0 as) [] T s (0, 0) = loopA M _ 1000 0 (ent 0 as) [] T s (0, 0)
      rw [loopF_eq, ih]
