/-! ===== layer 3: tag (4) ===== -/
theorem S_tag {m : Nat} (hm : 1000 ≤ m) (x : Int) : Sim (f_X_tag m x) (f_R_tag m x) := by
  intro s h
  obtain ⟨⟨hW, hr, hS, hN, -⟩, -⟩ := id h
  have w0 := WFv_boxes hW.1
  have w1 := WFv_plots hW.1
  have w2 := WFv_dead hW.1
  have n1 : ¬ (1 : Int) = 0 := by decide
  obtain ⟨m0, hm0⟩ : ∃ m0, m = m0 + 1 := ⟨m - 1, by omega⟩
  by_cases c : 0 ≤ x ∧ x < s.1 251 2
  · obtain ⟨d, rfl⟩ : ∃ d : Nat, x = (d : Int) := ⟨x.toNat, by omega⟩
    have hd : (d : Int) < s.1 251 2 := c.2
    have hD := WFs_dead hW.2.1 hd
    obtain ⟨ws, hww, x1, x2⟩ := hN.2.2 d hd
    have x1 : s.2 10 d = ((E256 ws : Nat) : Int) := x1
    -- the class's first name
    obtain ⟨t1, t2, t3, t4, -⟩ := pushT_all (lets ws) (wI s 0 17 0) (by rw [wI_at]; omega)
    have nm := C_name hm hww (s := wI s 0 17 0) (by rw [wI_at]; omega) (by rw [wI_at]; omega)
    have L7 := hww.2.1
    rw [wI_at, lets_len] at t1
    generalize hu : (lets ws).foldl pushT (wI s 0 17 0) = u at t1 t2 t3 t4 nm
    have uc : ∀ c, c ≠ 0 → c ≠ 247 → u.1 c = s.1 c := fun c a b => by rw [t3 c a b, wI_ne a]
    have u2 : u.2 = s.2 := t2
    have hSu : SR u 17 (s.1 251) := SR_keep hS (fun c _ _ => uc c (by omega) (by omega))
    have hru : VR u 4 (s.1 251) := VR_keep hr (fun c _ _ => uc c (by omega) (by omega))
    -- the reference's, from any state of the class
    have ref : ∀ v : mS, v.1 251 = s.1 251 → v.2 = s.2 → f_R_tag m (d : Int) v = (let p1 := (lets ws).foldl pushW (wI (wI v 249 0 0) 249 35 0)
        if s.1 251 (164 + d) = 0 then ((f_R_spelt m 99 111 109 101 115 0 0 p1).bind fun p2 => ((f_R_writeNext m p2.1 p2.2).bind fun p3 => (some (p3.2.1 249 35, p3.2)))) else (if s.1 251 (164 + d) = 1 then ((f_R_spelt m 119 97 105 116 115 0 0 p1).bind fun p2 => ((f_R_writeNext m p2.1 p2.2).bind fun p3 => (some (p3.2.1 249 35, p3.2)))) else (if s.1 251 (164 + d) = 2 then ((f_R_spelt m 108 105 101 115 0 0 0 p1).bind fun p2 => ((f_R_writeNext m p2.1 p2.2).bind fun p3 => ((f_R_wordOf m 18 p3.2).bind fun p4 => ((f_R_writeNext m p4.1 p4.2).bind fun p5 => (inR (w32 (176 + (d : Int))) 466 (inR (p5.2.1 251 (w32 (176 + (d : Int))).toNat) 26 ((f_R_writeNext m (p5.2.2 257 (p5.2.1 251 (w32 (176 + (d : Int))).toNat).toNat) p5.2).bind fun p6 => (some (p6.2.1 249 35, p6.2))))))))) else ((f_R_wordOf m 17 p1).bind fun p2 => ((f_R_writeNext m p2.1 p2.2).bind fun p3 => ((f_R_wordOf m 18 p3.2).bind fun p4 => ((f_R_writeNext m p4.1 p4.2).bind fun p5 => (inR (w32 (188 + (d : Int))) 466 (inR (w32 (9 + (p5.2.1 251 (w32 (188 + (d : Int))).toNat))) 26 ((f_R_writeNext m (p5.2.2 257 (w32 (9 + (p5.2.1 251 (w32 (188 + (d : Int))).toNat))).toNat) p5.2).bind fun p6 => (some (p6.2.1 249 35, p6.2)))))))))))) := by
      intro v hv hv2
      have z0 : (wI (wI v 249 0 0) 249 35 0).1 249 35 = 0 := wI_at
      obtain ⟨k, hk⟩ : ∃ k, ws.length = k + 1 := ⟨ws.length - 1, by have := hww.1; omega⟩
      have rw0 := R_word m k ws 63 (wI (wI v 249 0 0) 249 35 0) hk (by omega) (by omega) (fun l hl => hww.2.2 l hl) (by omega) (by omega)
      have pw := pushW_all (lets ws) (wI (wI v 249 0 0) 249 35 0) (by omega)
      have e51 : ((lets ws).foldl pushW (wI (wI v 249 0 0) 249 35 0)).1 251 = s.1 251 := by rw [pw.2.2.1 251 (by decide) (by decide), wI_ne (by decide), wI_ne (by decide), hv]
      rw [f_R_tag_eq, R_isDead (by rw [th_ne v 0 (by decide)]; exact hv) hW.1, Option.bind_some]
      simp only [if_pos c, n1, if_false]
      rw [ix14 (by omega), ix14n (by omega)]
      have e257 : (wI (wI v 249 0 0) 249 35 0).2 257 (14 + d) = ((E27 ws : Nat) : Int) := by show v.2 257 (14 + d) = _; rw [hv2]; exact x2
      rw [e257, rw0, Option.bind_some, ix164 (by omega), ix164n (by omega)]
      simp only [e51]
    have cls : f_X_tag m (d : Int) s = (if s.1 251 (164 + d) = 0 then ((f_X_tagText_0_1200 m u).bind fun p2 => (some (p2.2.1 0 17, p2.2))) else (if s.1 251 (164 + d) = 1 then ((f_X_tagText_0_1201 m u).bind fun p2 => (some (p2.2.1 0 17, p2.2))) else (if s.1 251 (164 + d) = 2 then ((f_X_isBox m (s.1 251 (176 + d)) u).bind fun p2 => (if p2.1 = 0 then (l_X_tag_L139 m m (s.1 251 (164 + d)) (s.1 251 (188 + d)) p2.2) else ((f_X_tagText_0_1202 m p2.2).bind fun p3 => (inR (s.1 251 (176 + d)) 9 ((f_X_tagName m (p3.2.2 5 (s.1 251 (176 + d)).toNat) p3.2).bind fun p4 => (some (p4.2.1 0 17, p4.2))))))) else (l_X_tag_L139 m m (s.1 251 (164 + d)) (s.1 251 (188 + d)) u)))) := by
      rw [f_X_tag_eq, C_isDead hr, Option.bind_some]
      simp only [if_pos c, n1, if_false]
      have e10 : (wI s 0 17 0).2 10 d = ((E256 ws : Nat) : Int) := x1
      rw [inR_pos (by omega) (by omega), Int.toNat_natCast, e10, nm, Option.bind_some]
      simp (disch := omega) only [inR_pos, SR17_how hSu hd, SR17_inb hSu hd, SR17_inp hSu hd]
    have hu0 : 0 ≤ u.1 0 17 := by omega
    have hu7 : u.1 0 17 ≤ 7 := by omega
    -- the end, on both sides
    have fin : ∀ (t : List Int), (∀ v ∈ t, 0 ≤ v ∧ v < 128) → t.length ≤ 20 → f_X_tag m (d : Int) s = some ((t.foldl pushT u).1 0 17, t.foldl pushT u) → (∀ v : mS, v.1 251 = s.1 251 → v.2 = s.2 → f_R_tag m (d : Int) v = some ((t.foldl pushW ((lets ws).foldl pushW (wI (wI v 249 0 0) 249 35 0))).1 249 35, t.foldl pushW ((lets ws).foldl pushW (wI (wI v 249 0 0) 249 35 0)))) → ∃ r s1 s2, f_X_tag m (d : Int) s = some (r, s1) ∧ f_R_tag m (d : Int) s1 = some (r, s2) ∧ Inv s2 := by
      intro t ht hl hX hR
      have e1 : t.foldl pushT u = (lets ws ++ t).foldl pushT (wI s 0 17 0) := by rw [List.foldl_append, hu]
      obtain ⟨y1, y2, y3, y4, -⟩ := pushT_all t u hu0
      have k51 : (t.foldl pushT u).1 251 = s.1 251 := by rw [y3 251 (by decide) (by decide), uc 251 (by decide) (by decide)]
      have kj : (t.foldl pushT u).2 = s.2 := by rw [y2, u2]
      have rr := hR (t.foldl pushT u) k51 kj
      have e2 : t.foldl pushW ((lets ws).foldl pushW (wI (wI (t.foldl pushT u) 249 0 0) 249 35 0)) = (lets ws ++ t).foldl pushW (wI (wI (t.foldl pushT u) 249 0 0) 249 35 0) := by rw [List.foldl_append]
      have rel := tag_rel h (bs := lets ws ++ t) (fun v hv => (List.mem_append.mp hv).elim (lets_in hww v) (ht v)) (by rw [List.length_append, lets_len]; omega) e1 e2
      refine ⟨_, _, _, hX, ?_, rel.2.2⟩
      rw [rr, rel.1, rel.2.1]
    have pw : ∀ v : mS, ((lets ws).foldl pushW (wI (wI v 249 0 0) 249 35 0)).1 249 35 = ws.length ∧ (v.1 251 = s.1 251 → ((lets ws).foldl pushW (wI (wI v 249 0 0) 249 35 0)).1 251 = s.1 251) ∧ ((lets ws).foldl pushW (wI (wI v 249 0 0) 249 35 0)).2 = v.2 := by
      intro v
      have z0 : (wI (wI v 249 0 0) 249 35 0).1 249 35 = 0 := wI_at
      obtain ⟨q1, q2, q3, -, -⟩ := pushW_all (lets ws) (wI (wI v 249 0 0) 249 35 0) (by omega)
      refine ⟨by rw [q1, z0, lets_len]; omega, fun hv => by rw [q3 251 (by decide) (by decide), wI_ne (by decide), wI_ne (by decide), hv], q2⟩
    by_cases c0 : s.1 251 (164 + d) = 0
    · refine fin [32, 99, 111, 109, 101, 115] (by decide) (by decide) ?_ ?_
      · rw [cls, if_pos c0, C_text_1200 hm hu0 (by omega), Option.bind_some]
      · intro v hv hv2
        have q := pw v
        rw [ref v hv hv2]
        simp only [if_pos c0]
        exact R_comesC (by omega) (by omega) (by omega)
    · by_cases c1 : s.1 251 (164 + d) = 1
      · refine fin [32, 119, 97, 105, 116, 115] (by decide) (by decide) ?_ ?_
        · rw [cls, if_neg c0, if_pos c1, C_text_1201 hm hu0 (by omega), Option.bind_some]
        · intro v hv hv2
          have q := pw v
          rw [ref v hv hv2]
          simp only [if_neg c0, if_pos c1]
          exact R_waitsC (by omega) (by omega) (by omega)
      · by_cases c2 : s.1 251 (164 + d) = 2
        · obtain ⟨g1, g2, g3⟩ := WFs_inb hW.2.1 hd c2
          obtain ⟨b, hb⟩ : ∃ b : Nat, s.1 251 (176 + d) = (b : Int) := ⟨(s.1 251 (176 + d)).toNat, by omega⟩
          have hb0 : (b : Int) < s.1 251 0 := by omega
          obtain ⟨wb, hwb, y1, y2⟩ := hN.1 b hb0
          have y1 : s.2 5 b = ((E256 wb : Nat) : Int) := y1
          have Lb := hwb.2.1
          obtain ⟨z1, z2, z3, -, -⟩ := pushT_all [32, 108, 105, 101, 115, 32, 105, 110, 32] u hu0
          have z1' : (([32, 108, 105, 101, 115, 32, 105, 110, 32] : List Int).foldl pushT u).1 0 17 = u.1 0 17 + 9 := z1
          refine fin ([32, 108, 105, 101, 115, 32, 105, 110, 32] ++ lets wb) ?_ ?_ ?_ ?_
          · intro v hv
            rcases List.mem_append.mp hv with q | q
            · exact (show ∀ v ∈ ([32, 108, 105, 101, 115, 32, 105, 110, 32] : List Int), 0 ≤ v ∧ v < 128 from by decide) v q
            · exact lets_in hwb v q
          · rw [List.length_append, lets_len]; simp; omega
          · rw [cls, if_neg c0, if_neg c1, if_pos c2, hb, C_isBox hru, Option.bind_some]
            simp only [if_pos (show 0 ≤ (b : Int) ∧ (b : Int) < s.1 251 0 from ⟨by omega, hb0⟩), n1, if_false]
            rw [C_text_1202 hm hu0 (by omega), Option.bind_some, inR_pos (by omega) (by omega), Int.toNat_natCast, z2, u2, y1, C_name hm hwb (by rw [z1']; omega) (by rw [z1']; omega), Option.bind_some, List.foldl_append]
          · intro v hv hv2
            have q := pw v
            rw [ref v hv hv2]
            simp only [if_neg c0, if_neg c1, if_pos c2]
            have q51 := q.2.1 hv
            have q22 : ((lets ws).foldl pushW (wI (wI v 249 0 0) 249 35 0)).2 = s.2 := by rw [q.2.2, hv2]
            generalize (lets ws).foldl pushW (wI (wI v 249 0 0) 249 35 0) = p at q q51 q22
            have qp := q.1
            exact R_liesC (by omega) hwb (by omega) (by omega) (by omega) (by rw [q51]; exact hb) (by omega) (by rw [q22]; exact y2)
        · have c3 : s.1 251 (164 + d) = 3 := by omega
          obtain ⟨g1, g2⟩ := WFs_inp hW.2.1 hd c3
          obtain ⟨b, hb⟩ : ∃ b : Nat, s.1 251 (188 + d) = (b : Int) := ⟨(s.1 251 (188 + d)).toNat, by omega⟩
          have hb0 : (b : Int) < s.1 251 1 := by omega
          obtain ⟨wb, hwb, y1, y2⟩ := hN.2.1 b hb0
          have y1 : s.2 8 b = ((E256 wb : Nat) : Int) := y1
          have Lb := hwb.2.1
          obtain ⟨z1, z2, z3, -, -⟩ := pushT_all [32, 108, 97, 105, 100, 32, 105, 110, 32] u hu0
          have z1' : (([32, 108, 97, 105, 100, 32, 105, 110, 32] : List Int).foldl pushT u).1 0 17 = u.1 0 17 + 9 := z1
          refine fin ([32, 108, 97, 105, 100, 32, 105, 110, 32] ++ lets wb) ?_ ?_ ?_ ?_
          · intro v hv
            rcases List.mem_append.mp hv with q | q
            · exact (show ∀ v ∈ ([32, 108, 97, 105, 100, 32, 105, 110, 32] : List Int), 0 ≤ v ∧ v < 128 from by decide) v q
            · exact lets_in hwb v q
          · rw [List.length_append, lets_len]; simp; omega
          · rw [cls, if_neg c0, if_neg c1, if_neg c2]
            rw [show l_X_tag_L139 m m = l_X_tag_L139 m (m0 + 1) from by rw [← hm0], l_X_tag_L139_eq, if_pos c3, hb, C_isPlot hru, Option.bind_some]
            simp only [if_pos (show 0 ≤ (b : Int) ∧ (b : Int) < s.1 251 1 from ⟨by omega, hb0⟩), n1, if_false]
            rw [C_text_1203 hm hu0 (by omega), Option.bind_some, inR_pos (by omega) (by omega), Int.toNat_natCast, z2, u2, y1, C_name hm hwb (by rw [z1']; omega) (by rw [z1']; omega), Option.bind_some, List.foldl_append]
          · intro v hv hv2
            have q := pw v
            rw [ref v hv hv2]
            simp only [if_neg c0, if_neg c1, if_neg c2]
            have q51 := q.2.1 hv
            have q22 : ((lets ws).foldl pushW (wI (wI v 249 0 0) 249 35 0)).2 = s.2 := by rw [q.2.2, hv2]
            generalize (lets ws).foldl pushW (wI (wI v 249 0 0) 249 35 0) = p at q q51 q22
            have qp := q.1
            exact R_laidC (by omega) hwb (by omega) (by omega) (by omega) (by rw [q51]; exact hb) (by omega) (by rw [q22]; exact y2)
  · refine ⟨-1, s, wI s 249 0 0, ?_, ?_, Inv_thrown h 0⟩
    · rw [f_X_tag_eq, C_isDead hr, Option.bind_some]; simp only [if_neg c, if_true]
    · rw [f_R_tag_eq, R_isDead (th_ne s 0 (by decide)) hW.1, Option.bind_some]; simp only [if_neg c, if_true]
