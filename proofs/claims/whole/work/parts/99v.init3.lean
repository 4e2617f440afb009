/-! ===== L2: the class's constructor whole ===== -/
theorem ZI.i0 {m : MM} (h : ZI m) (a k : Nat) : ZI (sI m a k 0) := fun b j => by
  show gI (sI m a k 0) b j = 0
  rw [gI_sI]
  split
  · rfl
  · exact h b j
theorem gR_rw {m : MM} {a k j : Nat} {v : Option Nat} : (sR m a k v).2.2 a j = if j = k then v else m.2.2 a j := by
  show gR (sR m a k v) a j = _
  rw [gR_sR]
  by_cases z : j = k
  · rw [if_pos ⟨rfl, z⟩, if_pos z]
  · rw [if_neg (fun q => z q.2), if_neg z]; rfl
set_option maxHeartbeats 2000000 in
theorem k10_e {G : GG} {m : MM} {n : Nat} (hx : G.1 = n + 1) (hz : ZI m) : ∃ G9 m9, K_X10_init G n m = some (G9, m9) ∧ G9.1 = n + 216 ∧ ZI m9 ∧ LY G9 m9 n ∧ (gR m9 n 0 = some (n + 1) ∧ gR m9 n 1 = some (n + 101) ∧ gR m9 n 2 = some (n + 201)) ∧ gR m9 (n + 1) 5 = some (n + 214) := by
  unfold K_X10_init
  obtain ⟨g2, m3, e1, s1⟩ := k6_e (G := gN G 6 0) (m := clr m G.1) (x0 := G.1) rfl
  rw [bg_e e1]
  clear e1
  obtain ⟨p1, r1, z1⟩ := s1.pk (n := n)
  have r1 := r1 (by omega)
  have z1 := z1 hz
  have l1 : g2.1 = n + 101 := by rw [s1.1]; omega
  have f1 := s1.pf
  rw [hx] at f1 ⊢
  clear s1
  obtain ⟨g5, m6, e1, s1⟩ := k6_e (G := gN g2 6 0) (m := clr (sR m3 n 0 (some (n + 1))) g2.1) (x0 := g2.1) rfl
  rw [bg_e e1]
  clear e1
  obtain ⟨p2, r2, z2⟩ := s1.pk (n := n)
  have r2 := r2 (by omega)
  have z2 := z2 (z1.r _ _ _)
  have l2 : g5.1 = n + 201 := by rw [s1.1]; omega
  have f2 := s1.pf
  rw [l1] at f2 ⊢
  clear s1
  rw [k8, bg_e rfl]
  have p3 := PK.ob (n := n) (G := g5) (m := sR m6 n 1 (some (n + 101))) (κ := 8) (l := [(0, 13, 2000)])
  have r3 := row_ob (n := n) (G := g5) (m := sR m6 n 1 (some (n + 101))) (κ := 8) (l := [(0, 13, 2000)]) (by omega)
  have z3 := mk_Z (x0 := g5.1) (l := [(0, 13, 2000)]) (G := gN g5 8 0) ((z2.r n 1 (some (n + 101))).clr g5.1)
  have l3 := mk_len (x0 := g5.1) [(0, 13, 2000)] (gN g5 8 0) (clr (sR m6 n 1 (some (n + 101))) g5.1)
  have t3 := mk_at (x0 := g5.1) [(0, 13, 2000)] (gN g5 8 0) (clr (sR m6 n 1 (some (n + 101))) g5.1) 0 _ (by show g5.1 < g5.1 + 1; omega) (by decide) rfl
  have u3 := mk_new (x0 := g5.1) [(0, 13, 2000)] (gN g5 8 0) (clr (sR m6 n 1 (some (n + 101))) g5.1) 0 _ rfl
  have d3 : (gN g5 8 0).1 = n + 202 := by show g5.1 + 1 = _; omega
  rw [d3] at l3 t3 u3
  generalize hg : (mk g5.1 [(0, 13, 2000)] (gN g5 8 0) (clr (sR m6 n 1 (some (n + 101))) g5.1)).1 = g8 at p3 l3 u3 ⊢
  generalize hm : (mk g5.1 [(0, 13, 2000)] (gN g5 8 0) (clr (sR m6 n 1 (some (n + 101))) g5.1)).2 = m9 at p3 r3 z3 t3 ⊢
  clear hg hm d3
  rw [l2] at t3 ⊢
  have l3 : g8.1 = n + 203 := l3
  have t3 : gR m9 (n + 201) 0 = some (n + 202) := t3
  have u3 : g8.2.2 (n + 202) = 2000 := u3
  unfold K_X3_init
  rw [bg_e rfl]
  have p4 := PK.al (n := n) (G := g8) (m := sR m9 n 2 (some (n + 201))) (κ := 3) (l := 0)
  have r4 : (clr (sR m9 n 2 (some (n + 201))) g8.1).2.2 n = (sR m9 n 2 (some (n + 201))).2.2 n := clr_R (by omega)
  have z4 := (z3.r n 2 (some (n + 201))).clr g8.1
  have l4 : (gN g8 3 0).1 = n + 204 := by show g8.1 + 1 = _; omega
  generalize hg : gN g8 3 0 = g11 at p4 l4 ⊢
  generalize hm : clr (sR m9 n 2 (some (n + 201))) g8.1 = m12 at p4 r4 z4 ⊢
  clear hg hm
  rw [l3]
  obtain ⟨g14, m15, e1, l5, t5, o5, z5⟩ := k5_e (G := gN g11 5 0) (m := clr (sR m12 n 3 (some (n + 203))) g11.1) (x := g11.1) rfl
  rw [bg_e e1]
  clear e1
  have p5 : PK n g11 (sR m12 n 3 (some (n + 203))) g14 m15 := ⟨by omega, fun a ha => by rw [(o5 a ha).1, gn_lt ha], fun a j ha _ _ => by show m15.2.2 a j = _; rw [(o5 a ha).2, clr_R (by omega)]; rfl⟩
  have r5 : m15.2.2 n = (sR m12 n 3 (some (n + 203))).2.2 n := by rw [(o5 n (by omega)).2, clr_R (by omega)]
  have z5 := z5 ((z4.r n 3 (some (n + 203))).clr g11.1)
  rw [l4] at l5 t5 ⊢
  clear o5
  unfold K_X0_init
  rw [bg_e rfl]
  have p6 := PK.al (n := n) (G := g14) (m := sR m15 n 4 (some (n + 204))) (κ := 0) (l := 0)
  have r6 : (clr (sR m15 n 4 (some (n + 204))) g14.1).2.2 n = (sR m15 n 4 (some (n + 204))).2.2 n := clr_R (by omega)
  have z6 := (z5.r n 4 (some (n + 204))).clr g14.1
  have l6 : (gN g14 0 0).1 = n + 210 := by show g14.1 + 1 = _; omega
  generalize hg : gN g14 0 0 = g17 at p6 l6 ⊢
  generalize hm : clr (sR m15 n 4 (some (n + 204))) g14.1 = m18 at p6 r6 z6 ⊢
  clear hg hm
  rw [l5, k7, bg_e rfl]
  have p7 := PK.ob (n := n) (G := g17) (m := sR m18 n 5 (some (n + 204 + 5))) (κ := 7) (l := [(0, 12, 200), (1, 12, 189)])
  have r7 := row_ob (n := n) (G := g17) (m := sR m18 n 5 (some (n + 204 + 5))) (κ := 7) (l := [(0, 12, 200), (1, 12, 189)]) (by omega)
  have z7 := mk_Z (x0 := g17.1) (l := [(0, 12, 200), (1, 12, 189)]) (G := gN g17 7 0) ((z6.r n 5 (some (n + 204 + 5))).clr g17.1)
  have l7 := mk_len (x0 := g17.1) [(0, 12, 200), (1, 12, 189)] (gN g17 7 0) (clr (sR m18 n 5 (some (n + 204 + 5))) g17.1)
  have t7 := mk_at (x0 := g17.1) [(0, 12, 200), (1, 12, 189)] (gN g17 7 0) (clr (sR m18 n 5 (some (n + 204 + 5))) g17.1) 0 _ (by show g17.1 < g17.1 + 1; omega) (by decide) rfl
  have t7b := mk_at (x0 := g17.1) [(0, 12, 200), (1, 12, 189)] (gN g17 7 0) (clr (sR m18 n 5 (some (n + 204 + 5))) g17.1) 1 _ (by show g17.1 < g17.1 + 1; omega) (by decide) rfl
  have u7 := mk_new (x0 := g17.1) [(0, 12, 200), (1, 12, 189)] (gN g17 7 0) (clr (sR m18 n 5 (some (n + 204 + 5))) g17.1) 0 _ rfl
  have u7b := mk_new (x0 := g17.1) [(0, 12, 200), (1, 12, 189)] (gN g17 7 0) (clr (sR m18 n 5 (some (n + 204 + 5))) g17.1) 1 _ rfl
  have d7 : (gN g17 7 0).1 = n + 211 := by show g17.1 + 1 = _; omega
  rw [d7] at l7 t7 u7 t7b u7b
  generalize hg : (mk g17.1 [(0, 12, 200), (1, 12, 189)] (gN g17 7 0) (clr (sR m18 n 5 (some (n + 204 + 5))) g17.1)).1 = g20 at p7 l7 u7 u7b ⊢
  generalize hm : (mk g17.1 [(0, 12, 200), (1, 12, 189)] (gN g17 7 0) (clr (sR m18 n 5 (some (n + 204 + 5))) g17.1)).2 = m21 at p7 r7 z7 t7 t7b ⊢
  clear hg hm d7
  rw [l6] at t7 t7b ⊢
  have l7 : g20.1 = n + 213 := l7
  have t7 : gR m21 (n + 210) 0 = some (n + 211) := t7
  have t7b : gR m21 (n + 210) 1 = some (n + 212) := t7b
  have u7 : g20.2.2 (n + 211) = 200 := u7
  have u7b : g20.2.2 (n + 212) = 189 := u7b
  have p8 := PK.al (n := n) (G := g20) (m := sR m21 n 6 (some (n + 210))) (κ := 12) (l := 12)
  have r8 : (clr (sR m21 n 6 (some (n + 210))) g20.1).2.2 n = (sR m21 n 6 (some (n + 210))).2.2 n := clr_R (by omega)
  have z8 := (z7.r n 6 (some (n + 210))).clr g20.1
  have l8 : (gN g20 12 12).1 = n + 214 := by show g20.1 + 1 = _; omega
  have u8 : (gN g20 12 12).2.2 (n + 213) = 12 := by rw [gn_len, if_pos l7.symm]
  generalize hg : gN g20 12 12 = g22 at p8 l8 u8 ⊢
  generalize hm : clr (sR m21 n 6 (some (n + 210))) g20.1 = m22 at p8 r8 z8 ⊢
  clear hg hm
  rw [l7]
  have q0 : ∀ j, (sR m22 n 7 (some (n + 213))).2.2 n j = if j = 7 then some (n + 213) else if j = 6 then some (n + 210) else if j = 5 then some (n + 209) else if j = 4 then some (n + 204) else if j = 3 then some (n + 203) else if j = 2 then some (n + 201) else if j = 1 then some (n + 101) else if j = 0 then some (n + 1) else m.2.2 n j := fun j => by
    rw [gR_rw, r8, gR_rw, r7, gR_rw, r6, gR_rw, r5, gR_rw, r4, gR_rw, r3, gR_rw, r2, gR_rw, r1]
  rw [nb_e (show gR (sR m22 n 7 (some (n + 213))) n 0 = some (n + 1) from (q0 0).trans rfl), k8, bg_e rfl]
  have p9 := PK.ob (n := n) (G := g22) (m := sR m22 n 7 (some (n + 213))) (κ := 8) (l := [(0, 13, 2000)])
  have r9 := row_ob (n := n) (G := g22) (m := sR m22 n 7 (some (n + 213))) (κ := 8) (l := [(0, 13, 2000)]) (by omega)
  have z9 := mk_Z (x0 := g22.1) (l := [(0, 13, 2000)]) (G := gN g22 8 0) ((z8.r n 7 (some (n + 213))).clr g22.1)
  have l9 := mk_len (x0 := g22.1) [(0, 13, 2000)] (gN g22 8 0) (clr (sR m22 n 7 (some (n + 213))) g22.1)
  have t9 := mk_at (x0 := g22.1) [(0, 13, 2000)] (gN g22 8 0) (clr (sR m22 n 7 (some (n + 213))) g22.1) 0 _ (by show g22.1 < g22.1 + 1; omega) (by decide) rfl
  have u9 := mk_new (x0 := g22.1) [(0, 13, 2000)] (gN g22 8 0) (clr (sR m22 n 7 (some (n + 213))) g22.1) 0 _ rfl
  have d9 : (gN g22 8 0).1 = n + 215 := by show g22.1 + 1 = _; omega
  rw [d9] at l9 t9 u9
  generalize hg : (mk g22.1 [(0, 13, 2000)] (gN g22 8 0) (clr (sR m22 n 7 (some (n + 213))) g22.1)).1 = g25 at p9 l9 u9 ⊢
  generalize hm : (mk g22.1 [(0, 13, 2000)] (gN g22 8 0) (clr (sR m22 n 7 (some (n + 213))) g22.1)).2 = m26 at p9 r9 z9 t9 ⊢
  clear hg hm d9
  rw [l8] at t9 ⊢
  have l9 : g25.1 = n + 216 := l9
  have t9 : gR m26 (n + 214) 0 = some (n + 215) := t9
  have u9 : g25.2.2 (n + 215) = 2000 := u9
  unfold M_X6_begin
  rw [bd_e rfl]
  have q1 : ∀ j, gR (sI (sI (sR m26 (n + 1) 5 (some (n + 214))) (n + 1) 3 0) (n + 1) 4 0) n j = (sR m22 n 7 (some (n + 213))).2.2 n j := fun j => by
    rw [gR_sI, gR_sI, gR_sR, if_neg (by omega), ← r9]; rfl
  have q2 : gR (sI (sI (sR m26 (n + 1) 5 (some (n + 214))) (n + 1) 3 0) (n + 1) 4 0) (n + 1) 5 = some (n + 214) := by
    rw [gR_sI, gR_sI, gR_sR, if_pos ⟨rfl, rfl⟩]
  have p10 : PK n g25 m26 g25 (sI (sI (sR m26 (n + 1) 5 (some (n + 214))) (n + 1) 3 0) (n + 1) 4 0) := ⟨Nat.le_refl _, fun _ _ => rfl, fun a j _ b c => by rw [gR_sI, gR_sI, gR_sR, if_neg c]⟩
  have z10 := ((z9.r (n + 1) 5 (some (n + 214))).i0 (n + 1) 3).i0 (n + 1) 4
  generalize hm : sI (sI (sR m26 (n + 1) 5 (some (n + 214))) (n + 1) 3 0) (n + 1) 4 0 = m27 at q1 q2 p10 z10 ⊢
  have w9 := p10
  have w8 := PK.r.tr (p9.tr w9)
  have w7 := PK.r.tr (p8.tr w8)
  have w6 := PK.r.tr (p7.tr w7)
  have w5 := PK.r.tr (p6.tr w6)
  have w4 := PK.r.tr (p5.tr w5)
  have w3 := PK.r.tr (p4.tr w4)
  have w2 := PK.r.tr (p3.tr w3)
  have w1 := PK.r.tr (p2.tr w2)
  obtain ⟨t51, t52, t53, t54, t55, t56⟩ := t5
  have q3 : ∀ j, gR m27 n j = _ := fun j => (q1 j).trans (q0 j)
  refine ⟨g25, m27, rfl, l9, z10, ⟨⟨(q3 3).trans rfl, (q3 4).trans rfl, (q3 5).trans rfl, (q3 6).trans rfl, (q3 7).trans rfl⟩, ⟨?_, ?_, ?_, ?_, ?_⟩, ⟨?_, ?_, ?_, ?_, ?_, ?_⟩, fun pg hp => ?_, fun t ht => ?_⟩, ⟨(q3 0).trans rfl, (q3 1).trans rfl, (q3 2).trans rfl⟩, q2⟩
  · rw [w7.2.2 _ _ (by omega) (by omega) (by omega)]; exact t7
  · rw [w7.2.2 _ _ (by omega) (by omega) (by omega)]; exact t7b
  · rw [w7.2.1 _ (by omega)]; exact u7
  · rw [w7.2.1 _ (by omega)]; exact u7b
  · rw [w8.2.1 _ (by omega)]; exact u8
  · rw [w5.2.2 _ _ (by omega) (by omega) (by omega)]; exact t51
  · rw [w5.2.2 _ _ (by omega) (by omega) (by omega)]; exact t52
  · rw [w5.2.2 _ _ (by omega) (by omega) (by omega)]; exact t53
  · rw [w5.2.1 _ (by omega)]; exact t54
  · rw [w5.2.2 _ _ (by omega) (by omega) (by omega)]; exact t55
  · rw [w5.2.1 _ (by omega)]; exact t56
  · rcases hp with hp | hp
    · subst hp
      exact f1.pk w1 (by omega) (by omega)
    · subst hp
      exact f2.pk w2 (by omega) (by omega)
  · rcases ht with ht | ht
    · subst ht
      exact ⟨by rw [w3.2.2 _ _ (by omega) (by omega) (by omega)]; exact t3, by rw [w3.2.1 _ (by omega)]; exact u3⟩
    · subst ht
      exact ⟨by rw [w9.2.2 _ _ (by omega) (by omega) (by omega)]; exact t9, by rw [w9.2.1 _ (by omega)]; exact u9⟩
