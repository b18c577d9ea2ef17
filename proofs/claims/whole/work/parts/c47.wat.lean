/-! ===== from the law's entry to its end ===== -/
theorem preL_ok : codeOk code preL := fun r hr => codeOk_of cdok_305 r (List.mem_of_mem_take hr)
section Sw
variable {p : Program} {l : Launch} {e : Env} {R : Room} {s0 : State} {m : MethodId} {args : Array Value} {below : List Frame} {meth : Method} {c : Code} {Q : State → Prop} {D : va_G} {cT : Nat → ClassId} {B0 : Nat} {G : mG}
theorem start_wat (C : Cxt p R s0 m args c D cT B0 G MLawA.2.2.2.1 MLawA.2.2.2.2.1 scr0 "LentBoxesLaw" MLawA.2.2.2.2.2.2.1 code 6)
    (hW : ∀ (s : mS) (cs : Nat × Nat), Inv s → cs.1 ≤ 270 → cs.2 ≤ 15248 → Wat p l e R s0 m args below meth c Q D cT B0 G MLawA.2.2.2.1 MLawA.2.2.2.2.1 23 (lwL 0) [] TT s cs) :
    Wat p l e R s0 m args below meth c Q D cT B0 G MLawA.2.2.2.1 MLawA.2.2.2.2.1 0 [(0, rv (some 1400))] [] T00 s00 (0, 0) := by
  obtain ⟨x, T, s, hr, t1, t2, t3, t4, t5⟩ := start_some
  have hi := Inv_0 t4 t5
  have hseg : seg Z0 MLawA scr0 (fun j as T s k => (ctRun 6 j as T s).bind fun r => k r.1 r.2.1 r.2.2) preL 0 [(0, rv (some 1400))] [] T00 s00 (0, 0) kcS (fun _ _ _ => none) = some (x, T, s) := by
    rw [← segF_eq, ← ctRunF_eq]
    exact hr
  refine seg_okA (α := aR) (o := (x, T, s)) C (fun h => by cases h) (fun T => cal_ct (ct_ok 6) rfl T) (kc := kcS) (kr := fun _ _ _ => none) ?_ (fun x T s h => by cases h) preL preL_ok 0 [(0, rv (some 1400))] [] T00 s00 (0, 0) hseg
  intro pc L S T' s' cs hk
  unfold kcS at hk
  cases hb : (Nat.beq pc 23 && (decide (L = lwL 0) && (S.isEmpty && (Nat.ble cs.1 270 && Nat.ble cs.2 15248)))) with
  | false => rw [hb, bsel_f] at hk; cases hk
  | true =>
    rw [hb, bsel_t] at hk
    rw [Bool.and_eq_true, Bool.and_eq_true, Bool.and_eq_true, Bool.and_eq_true] at hb
    obtain ⟨b1, b2, b3, b4, b5⟩ := hb
    have e1 := Nat.eq_of_beq_eq_true b1
    have e2 := of_decide_eq_true b2
    have e3 : S = [] := List.isEmpty_iff.mp b3
    subst e1; subst e2; subst e3
    have hk2 : (0, T', s') = (x, T, s) := Option.some.inj hk
    obtain ⟨-, hk3⟩ := Prod.mk.inj hk2
    obtain ⟨e4, e5⟩ := Prod.mk.inj hk3
    subst e4; subst e5
    intro φ H locs ls hSt hl hL hc hbd
    obtain ⟨g1, g2, g3, g4, g5, g6⟩ := hSt
    exact hW s' cs hi (Nat.le_of_ble_eq_true b4) (Nat.le_of_ble_eq_true b5) φ H locs ls ⟨P_same t1 t2 t3 g1, D_same t1 g2, g3, g4, TT_can, g6.1, Nat.le_trans g6.2.1 (Nat.le_of_eq t1), g6.2.2⟩ hl (fun q hq => canV_mono (Nat.le_of_eq t1) (hL q hq)) (fun v hv => by cases hv) hbd
set_option maxRecDepth 100000 in
theorem loop_wat {N : Nat} {xs : Nat → Int} (C : Cxt p R s0 m args c D cT B0 G MLaw.2.2.2.1 MLaw.2.2.2.2.1 (N + 1, xs) "LentBoxesLaw" MLaw.2.2.2.2.2.2.1 code 100) (hLS : LSW B0 s0) (hfl : l.flags = flags0) (hN : N ≤ 3072)
    (hr : ∀ s', RetOk p l e R s0 m args below meth c Q D cT B0 G MLaw.2.2.2.2.1 code MLaw.2.2.2.2.2.1 1 TT s') (s : mS) (cs : Nat × Nat) (hi : Inv s) (c1 : cs.1 ≤ 270) (c2 : cs.2 ≤ 15248) :
    Wat p l e R s0 m args below meth c Q D cT B0 G MLaw.2.2.2.1 MLaw.2.2.2.2.1 23 (lwL 0) [] TT s cs := by
  have hcd := codeOk_of cdok_305
  obtain ⟨s', hrun⟩ := law_run (m := 10000) (Nat.le_refl _) hN xs 512 2561 0 s cs hi (Int.le_refl 0) (by decide) (by omega) (by omega) (by omega) (by omega)
  exact runL_ok C hLS (env_lift (envL0_ok 10000 (by omega)) _) (ewL_ok (d := 98) (Nat.le_refl _) hfl (by omega)) hcd (hr s') (by decide +kernel) (by decide +kernel) (by decide +kernel) wl_ini 2561 23 (lwL 0) [] s cs hrun
end Sw
