/-! ===== the law's start, run: what the constructors leave ===== -/
def MLawA : mM := (true, false, 99, 7, (601024, 7293034), 4, rsLaw, cd_305, [(23, [0, 1, 2, 3, 4])])
def T00 : mT := (0, fun _ => (0, 0, 0), fun _ _ => none)
def s00 : mS := (fun _ _ => 0, fun _ _ => 0)
def preL : List mI := cd_305.take 13
def kcS : mK aR := fun pc L S T s cs => bsel (Nat.beq pc 23 && (decide (L = lwL 0) && (S.isEmpty && (Nat.ble cs.1 270 && Nat.ble cs.2 15248)))) (some (0, T, s)) none
def calF : mCal aR := fun j as T s k => (ctRunF 6 j as T s).bind fun r => k r.1 r.2.1 r.2.2
def startR : Option aR := segF MLawA calF preL 0 [(0, rv (some 1400))] [] T00 s00 (0, 0) kcS (fun _ _ _ => none)
def okSh (T : mT) (t : Nat) : Bool := decide (T.2.1 t = SHf t)
/-- the references that a cell's shape shows -/
def okRf (T : mT) (t : Nat) : Bool := match (SHf t).1 with
  | 0 => (List.range (SHf t).2.2).all fun k => bsel (Nat.beq (fty (SHf t).2.1 k) 3 || Nat.beq (fty (SHf t).2.1 k) 16) (decide (T.2.2 t k = R0f t k)) true
  | _ => bsel (Nat.beq (SHf t).2.1 6 || Nat.beq (SHf t).2.1 7) ((List.range (SHf t).2.2).all fun k => decide (T.2.2 t k = R0f t k)) true
def vals0 : List (Nat × Nat × Int) := [(4, 0, 0), (4, 1, 0), (4, 2, 0), (4, 3, 0), (4, 4, 0), (4, 5, 1), (4, 6, 0), (251, 0, 0), (251, 1, 0), (251, 2, 0), (251, 3, 0), (251, 4, 0), (251, 5, 1), (251, 85, 0), (251, 224, 0), (17, 0, 0), (30, 0, 0), (1, 1, 0), (249, 2, 0), (0, 13, 0), (249, 10, 0), (0, 14, -1), (249, 29, -1), (0, 16, -1), (249, 33, -1), (0, 15, 0), (249, 32, 0), (0, 17, 0), (249, 35, 0), (0, 18, 0), (249, 40, 0), (249, 28, 0), (36, 3, 0), (260, 0, 0), (68, 3, 0), (260, 1, 0), (100, 2, 0), (249, 25, 0), (100, 1, 0)]
def okS (s : mS) : Bool := vals0.all (fun r => decide (s.1 r.1 r.2.1 = r.2.2)) && ((List.range 12).all (fun k => decide (s.1 242 k = -1)) && ((List.range 9).all (fun k => decide (s.1 251 (104 + k) = 0)) && (List.range 5).all (fun k => decide (s.1 251 (149 + k) = 0))))
def okTape (s : mS) : Bool := (List.range 940).all (fun k => decide (s.1 2 k = 0)) && (List.range 940).all (fun k => decide (s.1 250 k = 0))
def startB : Bool := match startR with
  | some (_, T, s) => Nat.beq T.1 270 && ((List.range 270).all (fun t => okSh T t && okRf T t) && (okS s && okTape s))
  | none => false
set_option maxRecDepth 1000000 in
theorem startB_ok : startB = true := by decide +kernel
