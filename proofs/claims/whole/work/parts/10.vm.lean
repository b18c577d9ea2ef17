/-! ===== THE SMALL MACHINE. Values are Int (ints, longs) or cell numbers; a heap is its shapes and references (mT) and its ints and longs (mS) ===== -/
abbrev mV : Type := (Int ⊕ Int) ⊕ Option Nat
abbrev mL : Type := List (Nat × mV)
/-- ints and longs, by cell and place -/
abbrev mS : Type := (Nat → Nat → Int) × (Nat → Nat → Int)
/-- how many cells; shapes: (0, class, fields) or (1, kind of array, length); references -/
abbrev mT : Type := Nat × (Nat → Nat × Nat × Nat) × (Nat → Nat → Option Nat)
abbrev mI : Type := Nat × Instr × Nat × List Nat
abbrev bsel {β : Type} (c : Bool) (x y : β) : β := match c with
  | true => x
  | false => y
abbrev iv (x : Int) : mV := .inl (.inl x)
abbrev jv (x : Int) : mV := .inl (.inr x)
abbrev rv (r : Option Nat) : mV := .inr r
abbrev wB : Nat := 1000
def w32 (x : Int) : Int := (x + 2147483648) % 4294967296 - 2147483648
def w64 (x : Int) : Int := (x + 9223372036854775808) % 18446744073709551616 - 9223372036854775808
def b8 (x : Int) : Int := (x + 128) % 256 - 128
def band (x y : Int) : Int := (Int32.ofInt x &&& Int32.ofInt y).toInt
def bor (x y : Int) : Int := (Int32.ofInt x ||| Int32.ofInt y).toInt
def bxor (x y : Int) : Int := (Int32.ofInt x ^^^ Int32.ofInt y).toInt
def bshl (x y : Int) : Int := (Int32.ofInt x <<< (Int32.ofInt y &&& 31)).toInt
def bshr (x y : Int) : Int := (Int32.ofInt x >>> (Int32.ofInt y &&& 31)).toInt
def bushr (x y : Int) : Int := ((Int32.ofInt x).toUInt32 >>> ((Int32.ofInt y).toUInt32 &&& Int32.toUInt32 31)).toInt32.toInt
def lband (x y : Int) : Int := (Int64.ofInt x &&& Int64.ofInt y).toInt
def lbor (x y : Int) : Int := (Int64.ofInt x ||| Int64.ofInt y).toInt
def lbshl (x y : Int) : Int := (Int64.ofInt x <<< ((Int32.ofInt y).toInt64 &&& 63)).toInt
def lbushr (x y : Int) : Int := ((Int64.ofInt x).toUInt64 >>> ((Int32.ofInt y).toInt64.toUInt64 &&& Int64.toUInt64 63)).toInt64.toInt
def cmpL (x y : Int) : Int := if y < x then 1 else if x = y then 0 else -1
def u2 (f : Nat → Nat → Int) (c k : Nat) (v : Int) : Nat → Nat → Int := fun a j => if a = c ∧ j = k then v else f a j
def wI (s : mS) (c k : Nat) (v : Int) : mS := (u2 s.1 c k v, s.2)
def wJ (s : mS) (c k : Nat) (v : Int) : mS := (s.1, u2 s.2 c k v)
/-- a row of ints is copied -/
def cpyI (s : mS) (a : Nat) (sp : Nat) (c : Nat) (dp n : Nat) : mS := (fun x j => if x = c ∧ dp ≤ j ∧ j < dp + n then s.1 a (sp + (j - dp)) else s.1 x j, s.2)
def cpyJ (s : mS) (a : Nat) (sp : Nat) (c : Nat) (dp n : Nat) : mS := (s.1, fun x j => if x = c ∧ dp ≤ j ∧ j < dp + n then s.2 a (sp + (j - dp)) else s.2 x j)
def encW (x : Int) : Option Nat := if x < 0 then none else some (wB + x.toNat)
def decW (r : Option Nat) : Int := match r with
  | none => -1
  | some i => (i : Int) - 1000
def wOk (r : Option Nat) : Bool := match r with
  | none => true
  | some t => Nat.ble wB t
def refOk (r : Option Nat) : Bool := match r with
  | none => true
  | some t => Nat.ble wB t && Nat.blt t (wB + 24)
def lget : mL → Nat → Option mV
  | [], _ => none
  | (j, v) :: t, i => bsel (Nat.beq j i) (some v) (lget t i)
def mcat (v : mV) : Nat := match v with
  | .inl (.inr _) => 2
  | _ => 1
def lset1 (L : mL) (i : Nat) (v : mV) : mL := (i, v) :: L.filter (fun q => !(q.1 == i) && !(q.1 + 1 == i && mcat q.2 == 2))
def lset2 (L : mL) (i : Nat) (v : mV) : mL := (i, v) :: L.filter (fun q => !(q.1 == i) && (!(q.1 == i + 1) && !(q.1 + 1 == i && mcat q.2 == 2)))
def proj (L : mL) (live : List Nat) : mL := live.filterMap (fun i => (lget L i).map (fun v => (i, v)))
def ent : Nat → List mV → mL
  | _, [] => []
  | p, v :: t => (p, v) :: ent (p + mcat v) t
def msum : List mV → Nat
  | [] => 0
  | v :: t => mcat v + msum t
abbrev rvals (kind : Nat) (x : Int) : List mV := match kind with
  | 0 => []
  | 1 => [iv x]
  | 2 => [jv x]
  | _ => [rv (encW x)]
section VM
variable {α : Type}
abbrev onObj (T : mT) (t ci : Nat) (x : Option α) : Option α := bsel (Nat.beq (T.2.1 t).1 0 && (Nat.beq (T.2.1 t).2.1 ci && Nat.blt t T.1)) (x) (none)
abbrev onArr (T : mT) (t tc : Nat) (x : Option α) : Option α := bsel (Nat.beq (T.2.1 t).1 1 && (Nat.beq (T.2.1 t).2.1 tc && Nat.blt t T.1)) (x) (none)
def inR (i : Int) (n : Nat) (x : Option α) : Option α := if 0 ≤ i ∧ i < n then x else none
abbrev ldI (L : mL) (i : Nat) (k : Int → Option α) : Option α := match lget L i with
  | some (.inl (.inl x)) => k x
  | _ => none
abbrev ldJ (L : mL) (i : Nat) (k : Int → Option α) : Option α := match lget L i with
  | some (.inl (.inr x)) => k x
  | _ => none
abbrev ldR (L : mL) (i : Nat) (k : Option Nat → Option α) : Option α := match lget L i with
  | some (.inr x) => k x
  | _ => none
abbrev popI (S : List mV) (k : Int → List mV → Option α) : Option α := match S with
  | .inl (.inl x) :: S' => k x S'
  | _ => none
abbrev popJ (S : List mV) (k : Int → List mV → Option α) : Option α := match S with
  | .inl (.inr x) :: S' => k x S'
  | _ => none
def onS (r : Option Nat) (k : Nat → Option α) : Option α := match r with
  | some x => k x
  | none => none
abbrev popR (S : List mV) (k : Nat → List mV → Option α) : Option α := match S with
  | .inr r :: S' => onS r fun x => k x S'
  | _ => none
abbrev popQ (S : List mV) (k : Option Nat → List mV → Option α) : Option α := match S with
  | .inr x :: S' => k x S'
  | _ => none
def tsw (x lo : Int) (d : Nat) : List Nat → (Nat → Option α) → Option α
  | [], k => k d
  | o :: t, k => if x = lo then k o else tsw x (lo + 1) d t k
def lsw (x : Int) (d : Nat) : List Int → List Nat → (Nat → Option α) → Option α
  | c :: cs, o :: t, k => if x = c then k o else lsw x d cs t k
  | _, _, k => k d
/-- the numbers' workings, by their own numbers: a variable of the machine, so that nothing looks into them while a method's program is unfolded -/
abbrev mZ : Type := Nat → Int → Int → Int
def Z0 : mZ := fun o x y => match o with
  | 0 => w32 (x + y)
  | 1 => w32 (x - y)
  | 2 => w32 (x * y)
  | 3 => band x y
  | 4 => bor x y
  | 5 => bxor x y
  | 6 => bshl x y
  | 7 => bshr x y
  | 8 => bushr x y
  | 9 => w32 (Int.tdiv x y)
  | 10 => Int.tmod x y
  | 11 => w64 (x + y)
  | 12 => w64 (x - y)
  | 13 => w64 (x * y)
  | 14 => lband x y
  | 15 => lbor x y
  | 16 => lbshl x y
  | 17 => lbushr x y
  | 18 => w64 (Int.tdiv x y)
  | 19 => Int.tmod x y
  | 20 => cmpL x y
  | 21 => w32 x
  | 22 => b8 x
  | 23 => x % 65536
  | _ => 0
abbrev op2 (Z : mZ) (ins : Instr) (x y : Int) : Option Int := match ins with
  | .iadd => some (Z 0 x y)
  | .isub => some (Z 1 x y)
  | .imul => some (Z 2 x y)
  | .iand => some (Z 3 x y)
  | .ior => some (Z 4 x y)
  | .ixor => some (Z 5 x y)
  | .ishl => some (Z 6 x y)
  | .ishr => some (Z 7 x y)
  | .iushr => some (Z 8 x y)
  | _ => none
abbrev opL (Z : mZ) (ins : Instr) (x y : Int) : Option Int := match ins with
  | .ladd => some (Z 11 x y)
  | .lsub => some (Z 12 x y)
  | .lmul => some (Z 13 x y)
  | .land => some (Z 14 x y)
  | .lor => some (Z 15 x y)
  | _ => none
abbrev icond (c : Jvm.ClassFile.Cond) (x y : Int) (kt kf : Option α) : Option α := match c with
  | .eq => if x = y then kt else kf
  | .ne => if x = y then kf else kt
  | .lt => if x < y then kt else kf
  | .ge => if x < y then kf else kt
  | .gt => if y < x then kt else kf
  | .le => if y < x then kf else kt
/-- what stands still: fields of constant objects, arrays of constants (scr: the script) -/
abbrev gO (f t : Nat) : mV := match f with
  | 0 => jv (wL (t - wB))
  | _ => iv ((t : Int) - 1000)
def gIn (f t : Nat) : Bool := match f with
  | 0 => Nat.ble wB t && Nat.blt t (wB + 24)
  | 1 => Nat.ble wB t && Nat.blt t (wB + 24)
  | _ => Nat.ble (wB + 200) t && Nat.blt t (wB + 204)
def gF (a : Nat) : mV := match a with
  | 110 => iv 1
  | _ => rv (some (wB + a))
/-- of the constant array at offset o: its kind, its length, what it holds (the script: its length and 1; 0: there is none) -/
def gA (scr : Nat × (Nat → Int)) (o : Nat) : Nat × Nat × (Nat → Int) := match o with
  | 100 => (5, 24, fun i => (i : Int))
  | 101 => (1, 24, swM)
  | 300 => (3, (strB 0).length, fun i => (strB 0).getD i 0)
  | 301 => (3, (strB 1).length, fun i => (strB 1).getD i 0)
  | 302 => (3, (strB 2).length, fun i => (strB 2).getD i 0)
  | 303 => (3, (strB 3).length, fun i => (strB 3).getD i 0)
  | 400 => (bsel (Nat.beq scr.1 0) 0 1, scr.1 - 1, scr.2)
  | _ => (0, 0, fun _ => 0)
def tcA (ci : Nat) : Nat := match ci with
  | 4 => 6
  | 2 => 7
  | _ => 0
def tcOf (a : ArrayType) : Nat := match a with
  | .int => 1
  | .long => 2
  | .byte => 3
  | .boolean => 4
  | _ => 0
def fini (ci j : Nat) : Int := bsel (Nat.beq (fty ci j) 4) (-1) (0)
def mkObj (T : mT) (s : mS) (ci n : Nat) : mT × mS := ((T.1 + 1, fun t => if t = T.1 then (0, ci, n) else T.2.1 t, fun t k => if t = T.1 then none else T.2.2 t k), (fun t j => if t = T.1 then fini ci j else s.1 t j, fun t j => if t = T.1 then 0 else s.2 t j))
def mkArr (T : mT) (s : mS) (tc n : Nat) : mT × mS := ((T.1 + 1, fun t => if t = T.1 then (1, tc, n) else T.2.1 t, fun t k => if t = T.1 then none else T.2.2 t k), (fun t j => if t = T.1 then 0 else s.1 t j, fun t j => if t = T.1 then 0 else s.2 t j))
def setR (T : mT) (c k : Nat) (v : Option Nat) : mT := (T.1, T.2.1, fun t j => if t = c ∧ j = k then v else T.2.2 t j)
abbrev mK (α : Type) : Type := Nat → mL → List mV → mT → mS → Nat × Nat → Option α
abbrev mCal (α : Type) : Type := Nat → List mV → mT → mS → (Int → mT → mS → Option α) → Option α
abbrev exCall (bud : Nat × Nat) (cal : mCal α) (j : Nat) (as : List mV) (S' : List mV) (q : Nat) (L : mL) (T : mT) (s : mS) (cs : Nat × Nat) (k : mK α) : Option α :=
  bsel (Nat.ble (msum S') 8 && (Nat.ble (msum as) (jmx j) && (Nat.ble (cs.1 + (jcost j).1) bud.1 && Nat.ble (cs.2 + (jcost j).2) bud.2))) (cal j as T s (fun x T' s' => k (q + 3) L (rvals (jsd j) x ++ S') T' s' (cs.1 + (jcost j).1, cs.2 + (jcost j).2))) (none)
abbrev exGet (res : Nat × Nat × Nat) (q : Nat) (L : mL) (S : List mV) (T : mT) (s : mS) (cs : Nat × Nat) (k : mK α) : Option α :=
  popR S fun t S' => match res with
    | (1, ci, f) => onObj T t ci (k (q + 3) L (iv (s.1 t f) :: S') T s cs)
    | (2, ci, f) => onObj T t ci (k (q + 3) L (jv (s.2 t f) :: S') T s cs)
    | (3, ci, f) => onObj T t ci (k (q + 3) L (rv (T.2.2 t f) :: S') T s cs)
    | (16, ci, f) => onObj T t ci (k (q + 3) L (rv (T.2.2 t f) :: S') T s cs)
    | (4, ci, f) => onObj T t ci (k (q + 3) L (rv (encW (s.1 t f)) :: S') T s cs)
    | (5, f, _) => bsel (Nat.blt f 2) (if gIn f t = true then k (q + 3) L (gO f t :: S') T s cs else none) none
    | (15, ci, f) => onObj T t ci (k (q + 3) L (iv (s.1 t f) :: S') T s cs)
    | _ => none
abbrev exPut (ini : Bool) (oc : Nat) (res : Nat × Nat × Nat) (q : Nat) (L : mL) (S : List mV) (T : mT) (s : mS) (cs : Nat × Nat) (k : mK α) : Option α :=
  match res with
  | (1, ci, f) => popI S fun x S => popR S fun t S => onObj T t ci (k (q + 3) L S T (wI s t f x) cs)
  | (15, ci, f) => popI S fun x S => popR S fun t S => onObj T t ci (if x = 0 ∨ x = 1 then k (q + 3) L S T (wI s t f x) cs else none)
  | (2, ci, f) => popJ S fun x S => popR S fun t S => onObj T t ci (k (q + 3) L S T (wJ s t f x) cs)
  | (4, ci, f) => popQ S fun x S => popR S fun t S => onObj T t ci (bsel (wOk x) (k (q + 3) L S T (wI s t f (decW x)) cs) (none))
  | (3, ci, f) => bsel (ini && Nat.beq oc ci) (popR S fun x S => popR S fun t S => onObj T t ci (onObj T x (rcls ci f) (k (q + 3) L S (setR T t f (some x)) s cs))) (none)
  | (16, ci, f) => bsel (ini && Nat.beq oc ci) (popR S fun x S => popR S fun t S => onObj T t ci (onArr T x (rcls ci f) (k (q + 3) L S (setR T t f (some x)) s cs))) (none)
  | _ => none
abbrev exAld (scr : Nat × (Nat → Int)) (tc : Nat) (q : Nat) (L : mL) (S : List mV) (T : mT) (s : mS) (cs : Nat × Nat) (k : mK α) : Option α :=
  popI S fun i S => popR S fun t S =>
    bsel (Nat.blt t wB) (onArr T t tc (inR i (T.2.1 t).2.2 (match tc with
      | 2 => k (q + 1) L (jv (s.2 t i.toNat) :: S) T s cs
      | 6 => k (q + 1) L (rv (T.2.2 t i.toNat) :: S) T s cs
      | 7 => k (q + 1) L (rv (T.2.2 t i.toNat) :: S) T s cs
      | 5 => none
      | _ => k (q + 1) L (iv (s.1 t i.toNat) :: S) T s cs))) (bsel (Nat.beq (gA scr (t - wB)).1 tc) (inR i (gA scr (t - wB)).2.1 (match tc with
      | 1 => k (q + 1) L (iv ((gA scr (t - wB)).2.2 i.toNat) :: S) T s cs
      | 3 => k (q + 1) L (iv ((gA scr (t - wB)).2.2 i.toNat) :: S) T s cs
      | 5 => k (q + 1) L (rv (some (wB + i.toNat)) :: S) T s cs
      | _ => none)) (none))
abbrev exAst (Z : mZ) (al : Bool) (tc : Nat) (q : Nat) (L : mL) (S : List mV) (T : mT) (s : mS) (cs : Nat × Nat) (k : mK α) : Option α := match tc with
  | 1 => popI S fun x S => popI S fun i S => popR S fun t S => onArr T t 1 (inR i (T.2.1 t).2.2 (k (q + 1) L S T (wI s t i.toNat x) cs))
  | 2 => popJ S fun x S => popI S fun i S => popR S fun t S => onArr T t 2 (inR i (T.2.1 t).2.2 (k (q + 1) L S T (wJ s t i.toNat x) cs))
  | 3 => popI S fun x S => popI S fun i S => popR S fun t S =>
      bsel (Nat.beq (T.2.1 t).2.1 3) (onArr T t 3 (inR i (T.2.1 t).2.2 (k (q + 1) L S T (wI s t i.toNat (Z 22 x 0)) cs))) (onArr T t 4 (inR i (T.2.1 t).2.2 (if x = 0 ∨ x = 1 then k (q + 1) L S T (wI s t i.toNat x) cs else none)))
  | _ => bsel (al) (popR S fun x S => popI S fun i S => popR S fun t S =>
      onArr T t (T.2.1 t).2.1 (onObj T x (acls (T.2.1 t).2.1) (inR i (T.2.1 t).2.2 (k (q + 1) L S (setR T t i.toNat (some x)) s cs)))) (none)
abbrev exLen (scr : Nat × (Nat → Int)) (q : Nat) (L : mL) (S : List mV) (T : mT) (s : mS) (cs : Nat × Nat) (k : mK α) : Option α :=
  popR S fun t S => bsel (Nat.blt t wB) (onArr T t (T.2.1 t).2.1 (k (q + 1) L (iv ((T.2.1 t).2.2 : Int) :: S) T s cs)) (bsel (Nat.beq (gA scr (t - wB)).1 0) (none) (k (q + 1) L (iv ((gA scr (t - wB)).2.1 : Int) :: S) T s cs))
abbrev exCopy (q : Nat) (L : mL) (S : List mV) (T : mT) (s : mS) (cs : Nat × Nat) (k : mK α) : Option α :=
  popI S fun n S => popI S fun dp S => popR S fun c S => popI S fun sp S => popR S fun a S =>
    bsel (Nat.ble (msum S) 8) (inR sp 2147483648 (inR dp 2147483648 (inR n 2147483648 (
      bsel (Nat.beq (T.2.1 a).2.1 1) (onArr T a 1 (onArr T c 1 (if sp + n ≤ ((T.2.1 a).2.2 : Int) ∧ dp + n ≤ ((T.2.1 c).2.2 : Int) then k (q + 3) L S T (cpyI s a sp.toNat c dp.toNat n.toNat) cs else none))) (onArr T a 2 (onArr T c 2 (if sp + n ≤ ((T.2.1 a).2.2 : Int) ∧ dp + n ≤ ((T.2.1 c).2.2 : Int) then k (q + 3) L S T (cpyJ s a sp.toNat c dp.toNat n.toNat) cs else none))))))) (none)
abbrev exInv (bud : Nat × Nat) (cal : mCal α) (kind : Nat) (res : Nat × Nat × Nat) (q : Nat) (L : mL) (S : List mV) (T : mT) (s : mS) (cs : Nat × Nat) (k : mK α) : Option α :=
  match kind, res with
  | 1, (7, j, np) => popR (S.drop np) fun t S' => onObj T t (jcl j) (bsel (Nat.beq (S.take np).length np) (exCall bud cal j (rv (some t) :: (S.take np).reverse) S' q L T s cs k) (none))
  | 1, (8, j, np) => popR (S.drop np) fun t S' => if gIn (jcl j) t = true then (bsel (Nat.beq (S.take np).length np) (exCall bud cal j (rv (some t) :: (S.take np).reverse) S' q L T s cs k) (none)) else none
  | 2, (9, j, np) => bsel (Nat.beq (S.take np).length np) (exCall bud cal j (S.take np).reverse (S.drop np) q L T s cs k) (none)
  | 2, (12, _, _) => exCopy q L S T s cs k
  | 3, (10, j, np) => popR (S.drop np) fun t S' => onObj T t (jcl j) (bsel (Nat.beq (S.take np).length np) (exCall bud cal j (rv (some t) :: (S.take np).reverse) S' q L T s cs k) (none))
  | 3, (18, j, np) => popR (S.drop np) fun t S' => onObj T t (jcl j) (bsel (Nat.beq (S.take np).length np) (exCall bud cal j (rv (some t) :: (S.take np).reverse) S' q L T s cs k) (none))
  | 3, (11, _, _) => popR S fun _ S' => bsel (Nat.ble (msum S') 8) (k (q + 3) L S' T s cs) (none)
  | _, _ => none
abbrev exNew (bud : Nat × Nat) (res : Nat × Nat × Nat) (q : Nat) (L : mL) (S : List mV) (T : mT) (s : mS) (cs : Nat × Nat) (k : mK α) : Option α := match res with
  | (13, ci, n) => bsel (Nat.ble (cs.1 + 1) bud.1 && (Nat.ble (cs.2 + n) bud.2 && Nat.blt (T.1 + 1) wB)) (k (q + 3) L (rv (some T.1) :: S) (mkObj T s ci n).1 (mkObj T s ci n).2 (cs.1 + 1, cs.2 + n)) (none)
  | _ => none
abbrev exNewA (bud : Nat × Nat) (tc : Nat) (q' : Nat) (L : mL) (S : List mV) (T : mT) (s : mS) (cs : Nat × Nat) (k : mK α) : Option α :=
  popI S fun n S => bsel (Nat.ble (cs.1 + 1) bud.1 && (Nat.ble (cs.2 + n.toNat) bud.2 && (Nat.ble n.toNat 10000 && (decide (0 ≤ n) && Nat.blt (T.1 + 1) wB)))) (k q' L (rv (some T.1) :: S) (mkArr T s tc n.toNat).1 (mkArr T s tc n.toNat).2 (cs.1 + 1, cs.2 + n.toNat)) (none)
abbrev exRetI (rk : Nat) (S : List mV) (T : mT) (s : mS) (kr : Int → mT → mS → Option α) : Option α := match S with
  | [.inl (.inl x)] => (match rk with
    | 1 => kr x T s
    | 4 => if x = 0 ∨ x = 1 then kr x T s else none
    | 5 => if 0 ≤ x ∧ x < 65536 then kr x T s else none
    | 6 => if -128 ≤ x ∧ x < 128 then kr x T s else none
    | _ => none)
  | _ => none
abbrev exRetJ (rk : Nat) (S : List mV) (T : mT) (s : mS) (kr : Int → mT → mS → Option α) : Option α := match S with
  | [.inl (.inr x)] => bsel (Nat.beq rk 2) (kr x T s) (none)
  | _ => none
abbrev exRetR (rk : Nat) (S : List mV) (T : mT) (s : mS) (kr : Int → mT → mS → Option α) : Option α := match S with
  | [.inr r] => bsel (Nat.beq rk 3) (bsel (wOk r) (kr (decW r) T s) (none)) (none)
  | _ => none
abbrev exRetV (rk : Nat) (S : List mV) (T : mT) (s : mS) (kr : Int → mT → mS → Option α) : Option α := match S with
  | [] => bsel (Nat.beq rk 0) (kr 0 T s) (none)
  | _ => none
abbrev exBin (Z : mZ) (i : Instr) (S : List mV) (k : mV → List mV → Option α) : Option α := match S with
  | .inl (.inl y) :: .inl (.inl x) :: S' => (match op2 Z i x y with
    | some v => k (iv v) S'
    | none => none)
  | .inl (.inr y) :: .inl (.inr x) :: S' => (match opL Z i x y with
    | some v => k (jv v) S'
    | none => none)
  | _ => none
abbrev exDup2 (S : List mV) (k : List mV → Option α) : Option α := match S with
  | a :: b :: S' => bsel (Nat.beq (mcat a) 1 && Nat.beq (mcat b) 1) (k (a :: b :: a :: b :: S')) (none)
  | _ => none
abbrev ex (Z : mZ) (al ini : Bool) (oc nL : Nat) (bud : Nat × Nat) (scr : Nat × (Nat → Int)) (rk : Nat) (res : Nat → Nat × Nat × Nat) (cal : mCal α)
    (ins : Instr) (q len : Nat) (tg : List Nat) (L : mL) (S : List mV) (T : mT) (s : mS) (cs : Nat × Nat) (k : mK α) (kr : Int → mT → mS → Option α) : Option α :=
  match ins with
  | .aload i => ldR L i fun r => k (q + 2) L (rv r :: S) T s cs
  | .aload_n i => ldR L i.val fun r => k (q + 1) L (rv r :: S) T s cs
  | .iload i => ldI L i fun x => k (q + 2) L (iv x :: S) T s cs
  | .iload_n i => ldI L i.val fun x => k (q + 1) L (iv x :: S) T s cs
  | .lload i => ldJ L i fun x => k (q + 2) L (jv x :: S) T s cs
  | .lload_n i => ldJ L i.val fun x => k (q + 1) L (jv x :: S) T s cs
  | .astore i => popQ S fun r S => bsel (Nat.blt i nL) (k (q + 2) (lset1 L i (rv r)) S T s cs) (none)
  | .astore_n i => popQ S fun r S => bsel (Nat.blt i.val nL) (k (q + 1) (lset1 L i.val (rv r)) S T s cs) (none)
  | .istore i => popI S fun x S => bsel (Nat.blt i nL) (k (q + 2) (lset1 L i (iv x)) S T s cs) (none)
  | .istore_n i => popI S fun x S => bsel (Nat.blt i.val nL) (k (q + 1) (lset1 L i.val (iv x)) S T s cs) (none)
  | .lstore i => popJ S fun x S => bsel (Nat.blt (i + 1) nL) (k (q + 2) (lset2 L i (jv x)) S T s cs) (none)
  | .lstore_n i => popJ S fun x S => bsel (Nat.blt (i.val + 1) nL) (k (q + 1) (lset2 L i.val (jv x)) S T s cs) (none)
  | .iinc i c => ldI L i fun x => bsel (Nat.blt i nL) (k (q + 3) (lset1 L i (iv (Z 0 x c))) S T s cs) (none)
  | .iconst c => bsel (decide (-1 ≤ c) && decide (c ≤ 5)) (k (q + 1) L (iv c :: S) T s cs) (none)
  | .bipush c => bsel (decide (-128 ≤ c) && decide (c ≤ 127)) (k (q + 2) L (iv c :: S) T s cs) (none)
  | .sipush c => bsel (decide (-32768 ≤ c) && decide (c ≤ 32767)) (k (q + 3) L (iv c :: S) T s cs) (none)
  | .lconst c => k (q + 1) L (jv (c.val : Int) :: S) T s cs
  | .aconst_null => k (q + 1) L (rv none :: S) T s cs
  | .ldc x => match res x with
    | (25, a, _) => k (q + 2) L (iv (a : Int) :: S) T s cs
    | (27, a, _) => k (q + 2) L (rv (some (wB + a)) :: S) T s cs
    | _ => none
  | .ldc_w x => match res x with
    | (25, a, _) => k (q + 3) L (iv (a : Int) :: S) T s cs
    | (27, a, _) => k (q + 3) L (rv (some (wB + a)) :: S) T s cs
    | _ => none
  | .ldc2_w x => match res x with
    | (26, a, _) => k (q + 3) L (jv (a : Int) :: S) T s cs
    | _ => none
  | .dup => match S with
    | a :: S' => bsel (Nat.beq (mcat a) 1) (k (q + 1) L (a :: a :: S') T s cs) (none)
    | _ => none
  | .dup2 => exDup2 S fun S => k (q + 1) L S T s cs
  | .pop => match S with
    | a :: S' => bsel (Nat.beq (mcat a) 1) (k (q + 1) L S' T s cs) (none)
    | _ => none
  | .idiv => popI S fun y S => popI S fun x S => if y = 0 then none else k (q + 1) L (iv (Z 9 x y) :: S) T s cs
  | .irem => popI S fun y S => popI S fun x S => if y = 0 then none else k (q + 1) L (iv (Z 10 x y) :: S) T s cs
  | .ldiv => popJ S fun y S => popJ S fun x S => if y = 0 then none else k (q + 1) L (jv (Z 18 x y) :: S) T s cs
  | .lrem => popJ S fun y S => popJ S fun x S => if y = 0 then none else k (q + 1) L (jv (Z 19 x y) :: S) T s cs
  | .lshl => popI S fun y S => popJ S fun x S => k (q + 1) L (jv (Z 16 x y) :: S) T s cs
  | .lushr => popI S fun y S => popJ S fun x S => k (q + 1) L (jv (Z 17 x y) :: S) T s cs
  | .lcmp => popJ S fun y S => popJ S fun x S => k (q + 1) L (iv (Z 20 x y) :: S) T s cs
  | .i2l => popI S fun x S => k (q + 1) L (jv x :: S) T s cs
  | .l2i => popJ S fun x S => k (q + 1) L (iv (Z 21 x 0) :: S) T s cs
  | .i2b => popI S fun x S => k (q + 1) L (iv (Z 22 x 0) :: S) T s cs
  | .i2c => popI S fun x S => k (q + 1) L (iv (Z 23 x 0) :: S) T s cs
  | .ifCond c _ => popI S fun x S => icond c x 0 (k (tg.headD 0) L S T s cs) (k (q + 3) L S T s cs)
  | .if_icmp c _ => popI S fun y S => popI S fun x S => icond c x y (k (tg.headD 0) L S T s cs) (k (q + 3) L S T s cs)
  | .if_acmp .eq _ => popQ S fun y S => popQ S fun x S => bsel (refOk x && refOk y) ((if x = y then k (tg.headD 0) L S T s cs else k (q + 3) L S T s cs)) (none)
  | .if_acmp .ne _ => popQ S fun y S => popQ S fun x S => bsel (refOk x && refOk y) ((if x = y then k (q + 3) L S T s cs else k (tg.headD 0) L S T s cs)) (none)
  | .ifnull _ => popQ S fun x S => if x = none then k (tg.headD 0) L S T s cs else k (q + 3) L S T s cs
  | .ifnonnull _ => popQ S fun x S => if x = none then k (q + 3) L S T s cs else k (tg.headD 0) L S T s cs
  | .goto _ => k (tg.headD 0) L S T s cs
  | .tableswitch _ lo _ _ => popI S fun x S => tsw x lo (tg.headD 0) tg.tail fun p => k p L S T s cs
  | .lookupswitch _ ps => popI S fun x S => lsw x (tg.headD 0) (ps.toList.map (fun e => e.1)) tg.tail fun p => k p L S T s cs
  | .getfield x => exGet (res x) q L S T s cs k
  | .putfield x => exPut ini oc (res x) q L S T s cs k
  | .getstatic x => match res x with
    | (6, a, _) => k (q + 3) L (gF a :: S) T s cs
    | _ => none
  | .iaload => exAld scr 1 q L S T s cs k
  | .laload => exAld scr 2 q L S T s cs k
  | .baload => match S with
    | _ :: .inr (some t) :: _ => bsel (Nat.blt t wB && Nat.beq (T.2.1 t).2.1 4) (exAld scr 4 q L S T s cs k) (exAld scr 3 q L S T s cs k)
    | _ => none
  | .aaload => match S with
    | _ :: .inr (some t) :: _ => bsel (Nat.blt t wB) (bsel (Nat.beq (T.2.1 t).2.1 6) (exAld scr 6 q L S T s cs k) (exAld scr 7 q L S T s cs k)) (exAld scr 5 q L S T s cs k)
    | _ => none
  | .iastore => exAst Z al 1 q L S T s cs k
  | .lastore => exAst Z al 2 q L S T s cs k
  | .bastore => exAst Z al 3 q L S T s cs k
  | .aastore => exAst Z al 6 q L S T s cs k
  | .arraylength => exLen scr q L S T s cs k
  | .invokevirtual x => exInv bud cal 1 (res x) q L S T s cs k
  | .invokestatic x => exInv bud cal 2 (res x) q L S T s cs k
  | .invokespecial x => exInv bud cal 3 (res x) q L S T s cs k
  | .new x => bsel (al) (exNew bud (res x) q L S T s cs k) (none)
  | .newarray a => bsel (al && Nat.blt 0 (tcOf a)) (exNewA bud (tcOf a) (q + 2) L S T s cs k) (none)
  | .anewarray x => match res x with
    | (13, ci, _) => bsel (al && Nat.blt 0 (tcA ci)) (exNewA bud (tcA ci) (q + 3) L S T s cs k) (none)
    | _ => none
  | .ireturn => exRetI rk S T s kr
  | .lreturn => exRetJ rk S T s kr
  | .areturn => exRetR rk S T s kr
  | .return_ => exRetV rk S T s kr
  | i => exBin Z i S fun v S => k (q + 1) L (v :: S) T s cs
def cutOf : List (Nat × List Nat) → Nat → Option (List Nat)
  | [], _ => none
  | (p, l) :: t, pc => bsel (Nat.beq p pc) (some l) (cutOf t pc)
/-- a method: may it make cells; is it a constructor; its class; its locals; its budget; the kind of its answer; its pool; its code; where it is cut (with the locals that live there) -/
abbrev mM : Type := Bool × Bool × Nat × Nat × (Nat × Nat) × Nat × List (Nat × Nat × Nat × Nat) × List mI × List (Nat × List Nat)
/-- one step: 'ex' with a method's own numbers -/
def stp (Z : mZ) (M : mM) (scr : Nat × (Nat → Int)) (cal : mCal α) (ins : Instr) (q len : Nat) (tg : List Nat) (L : mL) (S : List mV) (T : mT) (s : mS) (cs : Nat × Nat) (k : mK α) (kr : Int → mT → mS → Option α) : Option α :=
  ex Z M.1 M.2.1 M.2.2.1 M.2.2.2.1 M.2.2.2.2.1 scr M.2.2.2.2.2.1 (rlook M.2.2.2.2.2.2.1) cal ins q len tg L S T s cs k kr
def cutK (cuts : List (Nat × List Nat)) (kc kn : mK α) : mK α := fun pc L S T s cs => match cutOf cuts pc with
  | some lv => kc pc (proj L lv) S T s cs
  | none => kn pc L S T s cs
def seg (Z : mZ) (M : mM) (scr : Nat × (Nat → Int)) (cal : mCal α) : List mI → Nat → mL → List mV → mT → mS → Nat × Nat → mK α → (Int → mT → mS → Option α) → Option α
  | [], _, _, _, _, _, _, _, _ => none
  | (q, ins, len, tg) :: rest, pc, L, S, T, s, cs, kc, kr =>
    bsel (Nat.beq q pc) (stp Z M scr cal ins q len tg L S T s cs (cutK M.2.2.2.2.2.2.2.2 kc (fun pc' L' S' T' s' cs' => seg Z M scr cal rest pc' L' S' T' s' cs' kc kr)) kr) (seg Z M scr cal rest pc L S T s cs kc kr)
theorem seg_nil {Z : mZ} {M : mM} {scr : Nat × (Nat → Int)} {cal : mCal α} {pc : Nat} {L : mL} {S : List mV} {T : mT} {s : mS} {cs : Nat × Nat} {kc : mK α} {kr : Int → mT → mS → Option α} : seg Z M scr cal [] pc L S T s cs kc kr = none := rfl
theorem seg_cons {Z : mZ} {M : mM} {scr : Nat × (Nat → Int)} {cal : mCal α} {q len : Nat} {ins : Instr} {tg : List Nat} {rest : List mI} {pc : Nat} {L : mL} {S : List mV} {T : mT} {s : mS} {cs : Nat × Nat} {kc : mK α} {kr : Int → mT → mS → Option α} : seg Z M scr cal ((q, ins, len, tg) :: rest) pc L S T s cs kc kr =
    bsel (Nat.beq q pc) (stp Z M scr cal ins q len tg L S T s cs (cutK M.2.2.2.2.2.2.2.2 kc (fun pc' L' S' T' s' cs' => seg Z M scr cal rest pc' L' S' T' s' cs' kc kr)) kr) (seg Z M scr cal rest pc L S T s cs kc kr) := rfl
end VM
/-- the heap that stays as it is made: shapes and references TT are fixed; what changes is mS -/
def runS (Z : mZ) (TT : mT) (M : mM) (scr : Nat × (Nat → Int)) (env : Nat → List mV → mS → Option (Int × mS)) : Nat → Nat → mL → List mV → mS → Nat × Nat → Option (Int × mS)
  | 0, _, _, _, _, _ => none
  | n + 1, pc, L, S, s, cs => seg Z M scr (fun j as T s k => (env j as s).bind fun p => k p.1 T p.2) M.2.2.2.2.2.2.2.1 pc L S TT s cs (fun pc L S _ s cs => runS Z TT M scr env n pc L S s cs) (fun x _ s => some (x, s))
