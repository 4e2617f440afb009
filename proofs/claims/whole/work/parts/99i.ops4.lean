/-! ===== L2: value, field, compare ===== -/
theorem zz_enumT {G : GG} {m : MM} {d tt lenT : Nat} {BT : Nat → Int32} {len : Nat} {B : Nat → Int32} {P : List Enm} {K : List Ko} {g : Sg} {he : Nat} {hs : List Nat} {ca : Nat} {fc : Int32} {F : Nat × Nat} {e : Nat} (hP : PB P) (h : ZR G m d tt lenT BT len B P K g he hs ca fc F) (he : e < P.length) : M_X11_isEnum G d (nI e) m = some (true, m) := by
  have hP8 := hP.1
  rcases zz_enum hP h (nI e) with ⟨-, -, -, -, hi⟩ | ⟨hx, -⟩
  · exact hi
  · exfalso
    rcases hx with z | z
    · exact nI_pos (by omega) z
    · have := (nI_leI (by omega) (by omega)).mp z
      omega
theorem zz_constT {G : GG} {m : MM} {d tt lenT : Nat} {BT : Nat → Int32} {len : Nat} {B : Nat → Int32} {P : List Enm} {K : List Ko} {g : Sg} {he : Nat} {hs : List Nat} {ca : Nat} {fc : Int32} {F : Nat × Nat} {e c : Nat} {E : Enm} (hP : PB P) (h : ZR G m d tt lenT BT len B P K g he hs ca fc F) (hE : P[e]? = some E) (hc : c < E.2.1.length) : M_X11_isConst G d (nI e) (nI c) m = some (true, m) := by
  have hP8 := hP.1
  have he := get_lt hE
  obtain ⟨b1, b2, b3, -⟩ := pb_en hP hE
  rcases zz_const hP h (nI e) (nI c) with ⟨-, -, -, -, -, -, -, hi⟩ | ⟨hx, -⟩
  · exact hi
  · exfalso
    rcases hx with (z | z) | ⟨e', E', hE', z, z2⟩
    · exact nI_pos (by omega) z
    · have := (nI_leI (by omega) (by omega)).mp z
      omega
    · have e2 := get_lt hE'
      have ee := (nI_eq (by omega) (by omega)).mp z
      subst ee
      rw [hE] at hE'
      cases hE'
      rcases z2 with z2 | z2
      · exact nI_pos (by omega) z2
      · have := (nI_leI (by omega) (by omega)).mp z2
        omega
theorem ZF.st1 {len e : Nat} {B : Nat → Int32} {P : List Enm} {K : List Ko} {gc : Nat → Nat → Nat → Int32} {g : Sg} {he : Nat} {hs : List Nat} {ca : Nat} {F : Nat × Nat} (h : ZF len B P K gc g he hs ca F) (hp : e < P.length) (h2 : g.1 e = 1 ∨ g.1 e = 3) : g.1 e = 1 := h2.resolve_right (h.2.2.2.2.1 e hp)
theorem op_value {G : GG} {n : Nat} {m : MM} (h : INV G m n) (x y : Int32) : BOTH G n m (M_X10_value G n x y) (M_X11_value G (n + 216) x y) := by
  have h0 := h
  obtain ⟨pl, ps, tp, tl, tt, lenT, BT, len, B, P, K, gc, g, hd, hs, ca, fc, F, hA, hC, hR, hF⟩ := h
  have c3 := hC.2.2.1
  have c2 := hC.2.1
  have hP := c3.2.2.2.2.2.1
  unfold BOTH M_X10_value M_X11_value
  rcases zz_const hP hR x y with ⟨e, E, c, hE, hx, hc, hy, hi⟩ | ⟨hx, hi⟩
  · obtain ⟨b1, b2, b3, b4, b5, b6, b7⟩ := pb_en hP hE
    have hne : P ≠ [] := fun z => by rw [z] at hE; simp at hE
    have he := get_lt hE
    subst hx
    subst hy
    have hk6 := wnt_k (B := B) (P := P) (K := K) 10 e g
    obtain ⟨m1, k1, hC1, cx, u1⟩ := hC.begin hA
    obtain ⟨m2, w1, w2, w3, w4⟩ := want_c hA.1 hA.2.2.2.2.1 hF.1 hF.2.2.2.1 hE cx
    have hC2 := hC1.run hA w3 w2
    have hF2 := hF.run (g' := (wnt B P K 10 e g).2) (wnt_gs 10 e g) (wnt_n 10 e g) hk6
    have hl9 := cv_le w2.1 he 9 (by omega)
    have hz9 : G.2.2 (pl + 4 + 12 * e + 1 + 9) = 12 := hl9.2
    obtain ⟨m3, q1, q2, u3⟩ := hC2.fin (v := (wnt B P K 10 e g).2.2.2.1 e c) hA w2.2.2.2.2.1 hk6
    have hR3 := hR.ou (u1.tr ((w3.ou hA.1).tr u3))
    obtain ⟨m4, r1, r2, r3⟩ := mr_want hF.1 hF.2.1 hE hF.2.2.2.1 (hR3.rn hne)
    have oR : OMr m3 m4 (n + 216) := OMr.tr (OMr.f (by omega)) r3
    refine ⟨if (wnt B P K 10 e g).1 = 0 then (wnt B P K 10 e g).2.2.2.1 e c else 0, m3, m4, ?_, ?_, pl, ps, tp, tl, tt, lenT, BT, len, B, P, K, gc, (wnt B P K 10 e g).2, hd, hs, (wnt B P K 10 e g).1, _, F, hA, q2.od hA (OM.od oR), hR3.run oR r2.rn, hF2⟩
    · rw [nb_e c2.1, bd_e (cv_en c3 he), el_e rfl, bd_e (cv_hasC c3 hE hc), if_pos rfl, nb_e hC.1.1.2.2.2.1, nb_e c2.1, bd_e k1, nb_e hC1.1.1.2.2.2.1, bd_e w1, nb_e hl9.1, hz9, ib_n (by omega) (by omega), nI_clamp (by omega), show pl + 4 + 12 * e + 1 + 9 = pl + 4 + 12 * e + 10 by omega, (w2.2.1 e E hE).2.2.1 c hc, bd_e q1]
    · rw [bd_e (zz_constT hP hR3 hE hc), if_pos rfl, bd_e r1]
      by_cases k : (wnt B P K 10 e g).1 = 0
      · rw [if_pos (decide_eq_true k), if_pos k, nb_e (mr_57 r2.1.1), show (12 : Int32) = nI 12 from rfl, pk_mul, nI_add, mz_57 r2.1.1, ib_n (by omega) (by omega), nI_clamp (by omega), (r2.2.1 e E hE).2.2.1 c hc (Or.inl (hF2.st1 he (w4 k)))]
      · rw [if_neg (by simp [k]), if_neg k]
  · refine ⟨-1000001, m, m, ?_, by rw [bd_e hi, if_neg (by decide)], h0⟩
    rcases hx with hx | ⟨e, E, hE, hx, hy⟩
    · rw [nb_e c2.1, bd_e (zc_enum c3 hx), el_n rfl]
    · rw [nb_e c2.1, hx, bd_e (cv_en c3 (get_lt hE)), el_e rfl, bd_e (zc_hasC (c3.2.2.2.2.2.2 e E hE).2.1.2.1 hy), if_neg (by decide)]
theorem op_field {G : GG} {n : Nat} {m : MM} (h : INV G m n) (x y : Int32) : BOTH G n m (M_X10_field G n x y) (M_X11_field G (n + 216) x y) := by
  have h0 := h
  obtain ⟨pl, ps, tp, tl, tt, lenT, BT, len, B, P, K, gc, g, hd, hs, ca, fc, F, hA, hC, hR, hF⟩ := h
  have c3 := hC.2.2.1
  have c2 := hC.2.1
  have hP := c3.2.2.2.2.2.1
  unfold BOTH M_X10_field M_X11_field
  rcases zz_enum hP hR x with ⟨e, E, hE, hx, hi⟩ | ⟨hx, hi⟩
  · obtain ⟨b1, b2, b3, b4, b5, b6, b7⟩ := pb_en hP hE
    have hne : P ≠ [] := fun z => by rw [z] at hE; simp at hE
    have he := get_lt hE
    have htt := hR.2.1.2
    have n14 := (c3.2.2.2.2.2.2 e E hE).2.1.2.2.2.1
    subst hx
    -- the number of fields, at any memory of the reference's state
    have nf : ∀ {mm : MM}, ZR G mm (n + 216) tt lenT BT len B P K g hd hs ca fc F → gI mm (n + 216 + 8) (8 * tt + e) = nI (fls E.2.2).length := fun hz => ((hz.2.2.2.2.1 hne).1.2.2.2.1.2 e E hE).2.2.2.2.1.1
    rcases mr_in (G := G) (m := m) (x := y) (N := (fls E.2.2).length) (by omega) with ⟨f, j1, j2, j3⟩ | ⟨j1, j2⟩
    · obtain ⟨q, hq⟩ := lt_get j1
      obtain ⟨y1, y2⟩ := List.mem_filter.mp (List.mem_of_getElem? hq)
      simp only [Bool.or_eq_true, decide_eq_true_eq] at y2
      subst j2
      have inT : ∀ mm : MM, M_X11_in G (nI f) 0 (nI (fls E.2.2).length - 1) mm = some (true, mm) := fun mm => by
        rcases mr_in (G := G) (m := mm) (x := nI f) (N := (fls E.2.2).length) (by omega) with ⟨-, -, -, e⟩ | ⟨e, -⟩
        · exact e
        · exfalso
          rcases e with e | e
          · exact nI_pos (by omega) e
          · have := (nI_leI (by omega) (by omega)).mp e
            omega
      obtain ⟨m1, k1, hC1, cx, u1⟩ := hC.begin hA
      have cl : (nI (6 * (8 * tt + e) + f)).toNatClampNeg = 6 * (8 * tt + e) + f := nI_clamp (by omega)
      by_cases y8 : q.1 = 8
      · have hl8 := cv_le cx.1 he 8 (by omega)
        have hz8 : G.2.2 (pl + 4 + 12 * e + 1 + 8) = 6 := hl8.2
        obtain ⟨m3, q1, q2, u3⟩ := hC1.fin (k := 0) (v := nI q.2.2.1) hA cx.2.2.2.2.1 (by omega)
        have hR3 := hR.ou (u1.tr u3)
        obtain ⟨k3, k4, k5, -⟩ := ((hR3.2.2.2.2.1 hne).1.2.2.2.1.2 e E hE).2.2.2.2.1.2 f q hq
        have rn := hR3.rn hne
        refine ⟨nI q.2.2.1, m3, sI m3 (n + 216) 62 0, ?_, ?_, pl, ps, tp, tl, tt, lenT, BT, len, B, P, K, gc, g, hd, hs, 0, fc, F, hA, q2.od hA (OD.s (by omega)), hR3.run (OMr.f (by omega)) rn, hF.run GS.rf NG.rf (by omega)⟩
        · rw [nb_e c2.1, bd_e (cv_en c3 he), el_e rfl, bd_e (cv_hasF c3 hE j1), if_pos rfl, nb_e hC.1.1.2.2.2.1, nb_e c2.1, bd_e k1, bd_e (cv_wrk cx.1 hE hq), if_neg (by simp; omega), nb_e hl8.1, hz8, ib_n (by omega) (by omega), nI_clamp (by omega), show pl + 4 + 12 * e + 1 + 8 = pl + 4 + 12 * e + 9 by omega, (cx.2.1 e E hE).2.2.2 f q hq, if_pos y8, bd_e q1]
          rfl
        · rw [bd_e (zz_enumT hP hR3 he), if_pos rfl, nb_e (mr_11 hR3.1), hR3.2.1.1, show (8 : Int32) = nI 8 from rfl, pk_mul, nI_add, mz_11 hR3.1, ib_n (by omega) (by omega), nI_clamp (n := 8 * tt + e) (by omega), nf hR3, bd_e (inT m3), if_pos rfl, nb_e (mr_25 rn.1.1), rn.1.2.1, pk_mul, nI_add, show (6 : Int32) = nI 6 from rfl, pk_mul, nI_add, mz_25 hR3.1, ib_n (by omega) (by omega), cl, gI_sI_ne (Or.inl (by omega)), (k5 y8).1, if_neg (by decide), nb_e (mr_24 rn.1.1), mz_24 hR3.1, ib_n (by omega) (by omega), gI_sI_ne (Or.inl (by omega)), (k5 y8).2]
      · have hk6 := wnt_k (B := B) (P := P) (K := K) 10 e g
        obtain ⟨m2, w1, w2, w3, w4⟩ := want_c hA.1 hA.2.2.2.2.1 hF.1 hF.2.2.2.1 hE cx
        have hC2 := hC1.run hA w3 w2
        have hF2 := hF.run (g' := (wnt B P K 10 e g).2) (wnt_gs 10 e g) (wnt_n 10 e g) hk6
        have hl8 := cv_le w2.1 he 8 (by omega)
        have hz8 : G.2.2 (pl + 4 + 12 * e + 1 + 8) = 6 := hl8.2
        obtain ⟨m3, q1, q2, u3⟩ := hC2.fin (v := (wnt B P K 10 e g).2.2.2.2.1 e f) hA w2.2.2.2.2.1 hk6
        have hR3 := hR.ou (u1.tr ((w3.ou hA.1).tr u3))
        obtain ⟨k3, k4, -, k6⟩ := ((hR3.2.2.2.2.1 hne).1.2.2.2.1.2 e E hE).2.2.2.2.1.2 f q hq
        obtain ⟨s, s1, s2, s3⟩ := k6 (by omega)
        have hct := s1.act.2
        have hKl := hF.2.1
        have rn := hR3.rn hne
        obtain ⟨m4, r1, r2, r3⟩ := mr_want hF.1 hF.2.1 hE hF.2.2.2.1 rn
        have oR : OMr m3 m4 (n + 216) := OMr.tr (OMr.f (by omega)) r3
        refine ⟨if (wnt B P K 10 e g).1 = 0 then (wnt B P K 10 e g).2.2.2.2.1 e f else 0, m3, m4, ?_, ?_, pl, ps, tp, tl, tt, lenT, BT, len, B, P, K, gc, (wnt B P K 10 e g).2, hd, hs, (wnt B P K 10 e g).1, _, F, hA, q2.od hA (OM.od oR), hR3.run oR r2.rn, hF2⟩
        · rw [nb_e c2.1, bd_e (cv_en c3 he), el_e rfl, bd_e (cv_hasF c3 hE j1), if_pos rfl, nb_e hC.1.1.2.2.2.1, nb_e c2.1, bd_e k1, bd_e (cv_wrk cx.1 hE hq), if_pos (by simp; omega), nb_e hC1.1.1.2.2.2.1, bd_e w1, nb_e hl8.1, hz8, ib_n (by omega) (by omega), nI_clamp (by omega), show pl + 4 + 12 * e + 1 + 8 = pl + 4 + 12 * e + 9 by omega, (w2.2.1 e E hE).2.2.2 f q hq, if_neg y8, bd_e q1]
        · rw [bd_e (zz_enumT hP hR3 he), if_pos rfl, nb_e (mr_11 hR3.1), hR3.2.1.1, show (8 : Int32) = nI 8 from rfl, pk_mul, nI_add, mz_11 hR3.1, ib_n (by omega) (by omega), nI_clamp (n := 8 * tt + e) (by omega), nf hR3, bd_e (inT m3), if_pos rfl, nb_e (mr_25 rn.1.1), rn.1.2.1, pk_mul, nI_add, show (6 : Int32) = nI 6 from rfl, pk_mul, nI_add, mz_25 hR3.1, ib_n (by omega) (by omega), cl, gI_sI_ne (Or.inl (by omega)), s2, if_pos (nI_pos' (by omega)), bd_e r1]
          by_cases k : (wnt B P K 10 e g).1 = 0
          · rw [if_pos (decide_eq_true k), if_pos k, nb_e (mr_58 r2.1.1), pk_mul, nI_add, mz_58 r2.1.1, ib_n (by omega) (by omega), nI_clamp (by omega), (r2.2.1 e E hE).2.2.2 f q hq (by omega) (Or.inl (hF2.st1 he (w4 k)))]
          · rw [if_neg (by simp [k]), if_neg k]
    · refine ⟨-1000001, m, m, ?_, ?_, h0⟩
      · rw [nb_e c2.1, bd_e (cv_en c3 he), el_e rfl, bd_e (zc_hasF n14 j1), if_neg (by decide)]
      · rw [bd_e hi, if_pos rfl, nb_e (mr_11 hR.1), hR.2.1.1, show (8 : Int32) = nI 8 from rfl, pk_mul, nI_add, mz_11 hR.1, ib_n (by omega) (by omega), nI_clamp (by omega), nf hR, bd_e j2, if_neg (by decide)]
  · refine ⟨-1000001, m, m, ?_, by rw [bd_e hi, if_neg (by decide)], h0⟩
    rw [nb_e c2.1, bd_e (zc_enum c3 hx), el_n rfl]
