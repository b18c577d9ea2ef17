/-! ===== runs of the small machine are runs of the machine ===== -/
section Run
variable {p : Program} {l : Launch} {e : Env} {R : Room} {s0 : State} {m : MethodId} {args : Array Value} {below : List Frame} {meth : Method} {c : Code} {Q : State → Prop} {D : va_G} {cT : Nat → ClassId} {B0 : Nat} {G : mG} {scr : Nat × (Nat → Int)} {own : String} {cc : ByteArray} {d : Nat}
variable {α : Type} {o : α}
set_option maxRecDepth 100000 in
theorem ex_T {Z : mZ} {oc nL : Nat} {bud : Nat × Nat} {rk : Nat} {res : Nat → Nat × Nat × Nat} {env : Nat → List mV → mS → Option (Int × mS)} {ins : Instr} {q len : Nat} {tg : List Nat} {L : mL} {S : List mV} {T : mT} {s : mS} {cs : Nat × Nat} {k : mK α} {kr : Int → mT → mS → Option α} :
    ex Z false false oc nL bud scr rk res (fun j as T s k => (env j as s).bind fun p => k p.1 T p.2) ins q len tg L S T s cs k kr =
    ex Z false false oc nL bud scr rk res (fun j as T s k => (env j as s).bind fun p => k p.1 T p.2) ins q len tg L S T s cs (fun pc L S _ s cs => k pc L S T s cs) (fun x _ s => kr x T s) := by
  cases ins <;> rfl
theorem ex_T2 {Z : mZ} {oc nL : Nat} {bud : Nat × Nat} {rk : Nat} {res : Nat → Nat × Nat × Nat} {env : Nat → List mV → mS → Option (Int × mS)} {ins : Instr} {q len : Nat} {tg : List Nat} {L : mL} {S : List mV} {T : mT} {s : mS} {cs : Nat × Nat} {k k2 : mK α} {kr kr2 : Int → mT → mS → Option α}
    (hk : ∀ pc L S s cs, k pc L S T s cs = k2 pc L S T s cs) (hr : ∀ x s, kr x T s = kr2 x T s) :
    ex Z false false oc nL bud scr rk res (fun j as T s k => (env j as s).bind fun p => k p.1 T p.2) ins q len tg L S T s cs k kr =
    ex Z false false oc nL bud scr rk res (fun j as T s k => (env j as s).bind fun p => k p.1 T p.2) ins q len tg L S T s cs k2 kr2 := by
  rw [ex_T (k := k), ex_T (k := k2)]
  congr 1
  · funext pc L S T' s cs; exact hk pc L S s cs
  · funext x T' s; exact hr x s
theorem proj_ok {nL : Nat} {bud : Nat × Nat} {pc : Nat} {L : mL} {S : List mV} {T : mT} {s : mS} {cs : Nat × Nat} (lv : List Nat) (h : Wat p l e R s0 m args below meth c Q D cT B0 G nL bud pc (proj L lv) S T s cs) : Wat p l e R s0 m args below meth c Q D cT B0 G nL bud pc L S T s cs :=
  fun φ H locs ls hS hl hL hc hbd => h φ H locs ls hS (proj_has lv hl) (fun q hq => hL q (proj_mem hq)) hc hbd
/-- the callees' answers, by their contracts: shapes TT stay -/
def EnvOk (l : Launch) (D : va_G) (cT : Nat → ClassId) (B0 : Nat) (fS : Nat → Nat) (scr : Nat × (Nat → Int)) (TT : mT) (d : Nat) (env : Nat → List mV → mS → Option (Int × mS)) : Prop :=
  ∀ j as s x s', msum as ≤ jmx j → env j as s = some (x, s') → canS s → (∀ v ∈ as, canV TT v) → MetJ D cT B0 fS (SxW B0 fS scr) l d j as TT s x TT s'
set_option maxRecDepth 100000 in
theorem seg_ok {M : mM} (C : Cxt p R s0 m args c D cT B0 G M.2.2.2.1 M.2.2.2.2.1 scr own M.2.2.2.2.2.2.1 cc d) (hArr : ∀ ty, ty = .int ∨ ty = .long ∨ ty = .byte ∨ ty = .boolean → Cond.arrayClass ty ∈ Tw) (hal : M.1 = false) (hini : M.2.1 = false)
    {env : Nat → List mV → mS → Option (Int × mS)} {T : mT} (henv : EnvOk l D cT B0 G.1 scr T d env) {kc : mK α} {kr : Int → mT → mS → Option α}
    (hkc : ∀ pc L S s cs, kc pc L S T s cs = some o → Wat p l e R s0 m args below meth c Q D cT B0 G M.2.2.2.1 M.2.2.2.2.1 pc L S T s cs)
    (hr : ∀ x s, kr x T s = some o → RetOk p l e R s0 m args below meth c Q D cT B0 G M.2.2.2.2.1 cc M.2.2.2.2.2.1 x T s) :
    ∀ (cd : List mI), codeOk cc cd → ∀ (pc : Nat) (L : mL) (S : List mV) (s : mS) (cs : Nat × Nat), seg Z0 M scr (fun j as T s k => (env j as s).bind fun p => k p.1 T p.2) cd pc L S T s cs kc kr = some o → Wat p l e R s0 m args below meth c Q D cT B0 G M.2.2.2.1 M.2.2.2.2.1 pc L S T s cs := by
  intro cd
  induction cd with
  | nil => intro _ pc L S s cs h; rw [seg_nil] at h; cases h
  | cons r rest ih0 =>
    intro hcd pc L S s cs h
    obtain ⟨q, ins, len, tg⟩ := r
    have ih := ih0 (fun r hr => hcd r (List.mem_cons_of_mem _ hr))
    obtain ⟨hd, htg⟩ := hcd _ List.mem_cons_self
    rw [seg_cons] at h
    cases hq : Nat.beq q pc with
    | false => rw [hq, bsel_f] at h; exact ih pc L S s cs h
    | true =>
      rw [hq, bsel_t] at h
      have e0 : q = pc := Nat.eq_of_beq_eq_true hq
      subst e0
      have h : ex Z0 M.1 M.2.1 M.2.2.1 M.2.2.2.1 M.2.2.2.2.1 scr M.2.2.2.2.2.1 (rlook M.2.2.2.2.2.2.1) (fun (j : Nat) (as : List mV) (T' : mT) (s : mS) (k : Int → mT → mS → Option α) => (env j as s).bind fun p => k p.1 T' p.2) ins q len tg L S T s cs (cutK M.2.2.2.2.2.2.2.2 kc (fun pc' L' S' T' s' cs' => seg Z0 M scr (fun j as T s k => (env j as s).bind fun p => k p.1 T p.2) rest pc' L' S' T' s' cs' kc kr)) kr = some o := h
      rw [hal, hini] at h
      have hcal : CalOk l D cT B0 G scr d T (fun (j : Nat) (as : List mV) (T' : mT) (s : mS) (k : Int → mT → mS → Option α) => (env j as s).bind fun p => k p.1 T' p.2) := by
        intro j as s hms kk o' hc
        obtain ⟨⟨x, s'⟩, h1, h3⟩ := Option.bind_eq_some_iff.mp hc
        exact ⟨x, T, s', h3, fun hs _ hv => henv j as s x s' hms h1 hs hv⟩
      have h2 := ex_T2 (Z := Z0) (scr := scr) (oc := M.2.2.1) (nL := M.2.2.2.1) (bud := M.2.2.2.2.1) (rk := M.2.2.2.2.2.1) (res := rlook M.2.2.2.2.2.2.1) (env := env) (ins := ins) (q := q) (len := len) (tg := tg) (L := L) (S := S) (T := T) (s := s) (cs := cs)
        (k := cutK M.2.2.2.2.2.2.2.2 kc (fun pc' L' S' T' s' cs' => seg Z0 M scr (fun j as T s k => (env j as s).bind fun p => k p.1 T p.2) rest pc' L' S' T' s' cs' kc kr)) (kr := kr)
        (k2 := fun pc' L' S' T' s' cs' => @ite _ (T' = T) (Classical.propDecidable _) (cutK M.2.2.2.2.2.2.2.2 kc (fun pc' L' S' T' s' cs' => seg Z0 M scr (fun j as T s k => (env j as s).bind fun p => k p.1 T p.2) rest pc' L' S' T' s' cs' kc kr) pc' L' S' T' s' cs') none) (kr2 := fun x T' s' => @ite _ (T' = T) (Classical.propDecidable _) (kr x T' s') none)
        (fun pc L S s cs => by rw [if_pos rfl]) (fun x s => by rw [if_pos rfl])
      rw [h2] at h
      refine ex_ok C hcal hArr (fun z => by cases z) hd htg h (fun pc' L' S' T' s' cs' hk => ?_) (fun x T' s' hk => ?_)
      · by_cases hT : T' = T
        · subst hT
          rw [if_pos rfl] at hk
          unfold cutK at hk
          cases hcut : cutOf M.2.2.2.2.2.2.2.2 pc' with
          | some lv => rw [hcut] at hk; exact proj_ok lv (hkc _ _ _ _ _ hk)
          | none => rw [hcut] at hk; exact ih _ _ _ _ _ hk
        · rw [if_neg hT] at hk; cases hk
      · by_cases hT : T' = T
        · subst hT
          rw [if_pos rfl] at hk
          exact hr x s' hk
        · rw [if_neg hT] at hk; cases hk
end Run
