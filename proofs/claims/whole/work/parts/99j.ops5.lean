/-! ===== L2: compare, hand ===== -/
def cmp (c d : Nat) : Int32 := if d ≤ c then (if c = d then 2 else 3) else 1
theorem cmp_c {G : GG} {m : MM} {n c d : Nat} (hc : c < 1000) (hd : d < 1000) : B_X10_compare_101 G n (nI c) (nI d) m = M_X10_finish G n (cmp c d) m := by
  have e : ∀ v, (bd (M_X10_finish G n v m) fun r m' => some (r, m')) = M_X10_finish G n v m := fun v => by
    cases M_X10_finish G n v m with
    | none => rfl
    | some q => rfl
  unfold B_X10_compare_101 cmp
  by_cases w : d ≤ c
  · rw [if_pos ((nI_leI (by omega) (by omega)).mpr w), if_pos w]
    by_cases z : c = d
    · rw [if_pos (by rw [z]), if_pos z, e]
    · rw [if_neg (fun u => z ((nI_eq (by omega) (by omega)).mp u)), if_neg z, e]
  · rw [if_neg (fun u => w ((nI_leI (by omega) (by omega)).mp u)), if_neg w, e]
theorem op_compare {G : GG} {n : Nat} {m : MM} (h : INV G m n) (x y x' y' : Int32) : BOTH G n m (M_X10_compare G n x y x' y') (M_X11_compare G (n + 216) x y x' y') := by
  have h0 := h
  obtain ⟨pl, ps, tp, tl, tt, lenT, BT, len, B, P, K, gc, g, hd, hs, ca, fc, F, hA, hC, hR, hF⟩ := h
  have c3 := hC.2.2.1
  have c2 := hC.2.1
  have hP := c3.2.2.2.2.2.1
  unfold BOTH M_X10_compare M_X11_compare
  rcases zz_const hP hR x y with ⟨e, E, c, hE, hx, hc, hy, hi⟩ | ⟨hx, hi⟩
  · obtain ⟨b1, b2, b3, b4, b5, b6, b7⟩ := pb_en hP hE
    have hne : P ≠ [] := fun z => by rw [z] at hE; simp at hE
    have he := get_lt hE
    subst hx
    subst hy
    rcases zz_const hP hR x' y' with ⟨e', E', c', hE', hx', hc', hy', hi'⟩ | ⟨hx', hi'⟩
    · obtain ⟨b1', b2', b3', -⟩ := pb_en hP hE'
      have he' := get_lt hE'
      subst hx'
      subst hy'
      have hk6 := wnt_k (B := B) (P := P) (K := K) 10 e g
      obtain ⟨m1, k1, hC1, cx, u1⟩ := hC.begin hA
      obtain ⟨m2, w1, w2, w3, w4⟩ := want_c hA.1 hA.2.2.2.2.1 hF.1 hF.2.2.2.1 hE cx
      have hC2 := hC1.run hA w3 w2
      have hF2 := hF.run (g' := (wnt B P K 10 e g).2) (wnt_gs 10 e g) (wnt_n 10 e g) hk6
      have pre : ∀ {X : Option (Int32 × MM)}, (if decide ((wnt B P K 10 e g).1 = 0) = true then nb (gR m2 n 6) fun b_30 => bd (M_X7_wantR G 10 b_30 (nI e') 0 m2) fun r_31 m_32 => if r_31 = true then (if nI e = nI e' then B_X10_compare_101 G n (nI c) (nI c') m_32 else nb (gR m_32 n 6) fun b_33 => bd (M_X7_failBy G b_33 5 m_32) fun r_34 m_35 => B_X10_compare_101 G n (nI c) (nI c') m_35) else B_X10_compare_101 G n (nI c) (nI c') m_32 else B_X10_compare_101 G n (nI c) (nI c') m2) = X → (nb (gR m n 0) fun b_7 => bd (M_X6_enumAt G b_7 (nI e) m) fun r_8 m_9 => nb (gR m_9 n 0) fun b_11 => bd (M_X6_enumAt G b_11 (nI e') m_9) fun r_12 m_13 => el r_8 (some ((-1000001), m_13)) fun b_16 => el r_12 (some ((-1000001), m_13)) fun b_18 => bd (M_X1_hasConstant G b_16 (nI c) m_13) fun r_19 m_20 => if r_19 = true then bd (M_X1_hasConstant G b_18 (nI c') m_20) fun r_21 m_22 => if r_21 = true then nb (gR m_22 n 6) fun b_23 => nb (gR m_22 n 0) fun b_24 => bd (M_X7_begin G b_23 b_24 m_22) fun _ m_26 => nb (gR m_26 n 6) fun b_27 => bd (M_X7_wantR G 10 b_27 (nI e) 0 m_26) fun r_28 m_29 => if r_28 = true then nb (gR m_29 n 6) fun b_30 => bd (M_X7_wantR G 10 b_30 (nI e') 0 m_29) fun r_31 m_32 => if r_31 = true then (if nI e = nI e' then B_X10_compare_101 G n (nI c) (nI c') m_32 else nb (gR m_32 n 6) fun b_33 => bd (M_X7_failBy G b_33 5 m_32) fun r_34 m_35 => B_X10_compare_101 G n (nI c) (nI c') m_35) else B_X10_compare_101 G n (nI c) (nI c') m_32 else B_X10_compare_101 G n (nI c) (nI c') m_29 else some ((-1000001), m_22) else some ((-1000001), m_20)) = X := fun {X} hX => by
        rw [nb_e c2.1, bd_e (cv_en c3 he), nb_e c2.1, bd_e (cv_en c3 he'), el_e rfl, el_e rfl, bd_e (cv_hasC c3 hE hc), if_pos rfl, bd_e (cv_hasC c3 hE' hc'), if_pos rfl, nb_e hC.1.1.2.2.2.1, nb_e c2.1, bd_e k1, nb_e hC1.1.1.2.2.2.1, bd_e w1]
        exact hX
      by_cases k : (wnt B P K 10 e g).1 = 0
      · -- the second one
        rw [k] at w2
        have hk6' := wnt_k (B := B) (P := P) (K := K) 10 e' (wnt B P K 10 e g).2
        obtain ⟨m3, v1, v2, v3, v4⟩ := want_c hA.1 hA.2.2.2.2.1 hF2.1 hF2.2.2.2.1 hE' w2
        have hC3 := hC2.run hA v3 v2
        have hF3 := hF2.run (g' := (wnt B P K 10 e' (wnt B P K 10 e g).2).2) (wnt_gs 10 e' _) (wnt_n 10 e' _) hk6'
        by_cases k' : (wnt B P K 10 e' (wnt B P K 10 e g).2).1 = 0
        · by_cases ee : e = e'
          · obtain ⟨m4, q1, q2, u4⟩ := hC3.fin (v := cmp c c') hA v2.2.2.2.2.1 hk6'
            have hR4 := hR.ou (u1.tr ((w3.ou hA.1).tr ((v3.ou hA.1).tr u4)))
            obtain ⟨m5, r1, r2, r3⟩ := mr_want hF.1 hF.2.1 hE hF.2.2.2.1 (hR4.rn hne)
            rw [k, if_pos rfl] at r2
            obtain ⟨m6, s1, s2, s3⟩ := mr_want hF.1 hF.2.1 hE' hF2.2.2.2.1 r2.rn
            have oR : OMr m4 m6 (n + 216) := OMr.tr (OMr.f (by omega)) (OMr.tr r3 s3)
            rw [if_pos k'] at q1
            refine ⟨cmp c c', m4, m6, ?_, ?_, pl, ps, tp, tl, tt, lenT, BT, len, B, P, K, gc, _, hd, hs, _, _, F, hA, q2.od hA (OM.od oR), hR4.run oR s2.rn, hF3⟩
            · apply pre
              rw [if_pos (decide_eq_true k), nb_e hC2.1.1.2.2.2.1, bd_e v1, if_pos (decide_eq_true k'), if_pos (by rw [ee]), cmp_c (by omega) (by omega), q1]
            · rw [bd_e (zz_constT hP hR4 hE hc), if_pos rfl, bd_e (zz_constT hP hR4 hE' hc'), if_pos rfl, bd_e r1, if_pos (decide_eq_true k), bd_e s1, if_pos (decide_eq_true k'), if_pos (by rw [ee])]
              unfold cmp
              by_cases w : c' ≤ c
              · rw [if_pos ((nI_leI (by omega) (by omega)).mpr w), if_pos w]
                by_cases z : c = c'
                · rw [if_pos (by rw [z]), if_pos z]
                · rw [if_neg (fun u => z ((nI_eq (by omega) (by omega)).mp u)), if_neg z]
              · rw [if_neg (fun u => w ((nI_leI (by omega) (by omega)).mp u)), if_neg w]
          · have c5 := (v2.fld hA.1 hA.2.2.2.2.1).1 5
            have o5 : OX m3 (sI m3 (n + 210) 4 (nI 5)) n pl := OX.r hA.1 (Or.inl rfl)
            have hC4 := hC3.run hA o5 c5
            obtain ⟨m4, q1, q2, u4⟩ := hC4.fin (v := cmp c c') hA c5.2.2.2.2.1 (by omega)
            have hR4 := hR.ou (u1.tr ((w3.ou hA.1).tr ((v3.ou hA.1).tr ((o5.ou hA.1).tr u4))))
            obtain ⟨m5, r1, r2, r3⟩ := mr_want hF.1 hF.2.1 hE hF.2.2.2.1 (hR4.rn hne)
            rw [k, if_pos rfl] at r2
            obtain ⟨m6, s1, s2, s3⟩ := mr_want hF.1 hF.2.1 hE' hF2.2.2.2.1 r2.rn
            rw [k', if_pos rfl] at s2
            obtain ⟨m7, t1, t2, t3⟩ := mr_fails (k := 5) hP s2 (fun z hz => by simp at hz) (by simp)
            have oR : OMr m4 m7 (n + 216) := OMr.tr (OMr.f (by omega)) (OMr.tr r3 (OMr.tr s3 t3))
            rw [if_neg (by decide)] at q1 q2
            refine ⟨0, m4, m7, ?_, ?_, pl, ps, tp, tl, tt, lenT, BT, len, B, P, K, gc, (wnt B P K 10 e' (wnt B P K 10 e g).2).2, hd, hs, 5, fc + 1, F, hA, q2.od hA (OM.od oR), hR4.run oR t2.rn, hF3.run GS.rf NG.rf (by omega)⟩
            · apply pre
              rw [if_pos (decide_eq_true k), nb_e hC2.1.1.2.2.2.1, bd_e v1, if_pos (decide_eq_true k'), if_neg (fun z => ee ((nI_eq (by omega) (by omega)).mp z)), nb_e hC3.1.1.2.2.2.1]
              unfold M_X7_failBy
              rw [bd_e (show (some (false, sI m3 (n + 210) 4 5) : Option (Bool × MM)) = some (false, sI m3 (n + 210) 4 (nI 5)) from rfl), cmp_c (by omega) (by omega), q1]
            · rw [bd_e (zz_constT hP hR4 hE hc), if_pos rfl, bd_e (zz_constT hP hR4 hE' hc'), if_pos rfl, bd_e r1, if_pos (decide_eq_true k), bd_e s1, if_pos (decide_eq_true k'), if_neg (fun z => ee ((nI_eq (by omega) (by omega)).mp z)), show (5 : Int32) = nI 5 from rfl, bd_e t1]
        · obtain ⟨m4, q1, q2, u4⟩ := hC3.fin (v := cmp c c') hA v2.2.2.2.2.1 hk6'
          have hR4 := hR.ou (u1.tr ((w3.ou hA.1).tr ((v3.ou hA.1).tr u4)))
          obtain ⟨m5, r1, r2, r3⟩ := mr_want hF.1 hF.2.1 hE hF.2.2.2.1 (hR4.rn hne)
          rw [k, if_pos rfl] at r2
          obtain ⟨m6, s1, s2, s3⟩ := mr_want hF.1 hF.2.1 hE' hF2.2.2.2.1 r2.rn
          have oR : OMr m4 m6 (n + 216) := OMr.tr (OMr.f (by omega)) (OMr.tr r3 s3)
          rw [if_neg k'] at q1
          refine ⟨0, m4, m6, ?_, ?_, pl, ps, tp, tl, tt, lenT, BT, len, B, P, K, gc, _, hd, hs, _, _, F, hA, q2.od hA (OM.od oR), hR4.run oR s2.rn, hF3⟩
          · apply pre
            rw [if_pos (decide_eq_true k), nb_e hC2.1.1.2.2.2.1, bd_e v1, if_neg (by simp [k']), cmp_c (by omega) (by omega), q1]
          · rw [bd_e (zz_constT hP hR4 hE hc), if_pos rfl, bd_e (zz_constT hP hR4 hE' hc'), if_pos rfl, bd_e r1, if_pos (decide_eq_true k), bd_e s1, if_neg (by simp [k'])]
      · obtain ⟨m4, q1, q2, u4⟩ := hC2.fin (v := cmp c c') hA w2.2.2.2.2.1 hk6
        have hR4 := hR.ou (u1.tr ((w3.ou hA.1).tr u4))
        obtain ⟨m5, r1, r2, r3⟩ := mr_want hF.1 hF.2.1 hE hF.2.2.2.1 (hR4.rn hne)
        have oR : OMr m4 m5 (n + 216) := OMr.tr (OMr.f (by omega)) r3
        rw [if_neg k] at q1
        refine ⟨0, m4, m5, ?_, ?_, pl, ps, tp, tl, tt, lenT, BT, len, B, P, K, gc, _, hd, hs, _, _, F, hA, q2.od hA (OM.od oR), hR4.run oR r2.rn, hF2⟩
        · apply pre
          rw [if_neg (by simp [k]), cmp_c (by omega) (by omega), q1]
        · rw [bd_e (zz_constT hP hR4 hE hc), if_pos rfl, bd_e (zz_constT hP hR4 hE' hc'), if_pos rfl, bd_e r1, if_neg (by simp [k])]
    · refine ⟨-1000001, m, m, ?_, by rw [bd_e hi, if_pos rfl, bd_e hi', if_neg (by decide)], h0⟩
      rcases hx' with hx' | ⟨e', E', hE', hx', hy'⟩
      · rw [nb_e c2.1, bd_e (cv_en c3 he), nb_e c2.1, bd_e (zc_enum c3 hx'), el_e rfl, el_n rfl]
      · rw [nb_e c2.1, bd_e (cv_en c3 he), nb_e c2.1, hx', bd_e (cv_en c3 (get_lt hE')), el_e rfl, el_e rfl, bd_e (cv_hasC c3 hE hc), if_pos rfl, bd_e (zc_hasC (c3.2.2.2.2.2.2 e' E' hE').2.1.2.1 hy'), if_neg (by decide)]
  · refine ⟨-1000001, m, m, ?_, by rw [bd_e hi, if_neg (by decide)], h0⟩
    rcases zz_enum hP hR x' with ⟨e', E', hE', hx', -⟩ | ⟨hx', -⟩
    · rcases hx with hx | ⟨e, E, hE, hx, hy⟩
      · rw [nb_e c2.1, bd_e (zc_enum c3 hx), nb_e c2.1, hx', bd_e (cv_en c3 (get_lt hE')), el_n rfl]
      · rw [nb_e c2.1, hx, bd_e (cv_en c3 (get_lt hE)), nb_e c2.1, hx', bd_e (cv_en c3 (get_lt hE')), el_e rfl, el_e rfl, bd_e (zc_hasC (c3.2.2.2.2.2.2 e E hE).2.1.2.1 hy), if_neg (by decide)]
    · rcases hx with hx | ⟨e, E, hE, hx, hy⟩
      · rw [nb_e c2.1, bd_e (zc_enum c3 hx), nb_e c2.1, bd_e (zc_enum c3 hx'), el_n rfl]
      · rw [nb_e c2.1, hx, bd_e (cv_en c3 (get_lt hE)), nb_e c2.1, bd_e (zc_enum c3 hx'), el_e rfl, el_n rfl]
/-- writes of the reference's cause, of its frames and its stack alone -/
theorem ZR.w {G : GG} {m m1 : MM} {d tt lenT : Nat} {BT : Nat → Int32} {len : Nat} {B : Nat → Int32} {P : List Enm} {K : List Ko} {g : Sg} {he : Nat} {hs : List Nat} {ca k : Nat} {fc fc' : Int32} {F : Nat × Nat} (h : ZR G m d tt lenT BT len B P K g he hs ca fc F) (o : OM m m1 d [62, 63, 64, 70] []) (h62 : gI m1 d 62 = nI k) (h63 : gI m1 d 63 = fc') : ZR G m1 d tt lenT BT len B P K g he hs k fc' F := by
  obtain ⟨h1, h2, h3, h6, h7, h8, h9, h10, h11, h12⟩ := id h
  have fa : ∀ p, 0 < p → m1.1 (d + p) = m.1 (d + p) := fun p hp => o.2.2.1 _ (by omega) (by simp)
  have fl : ∀ p, p < 62 ∨ 70 < p → gI m1 d p = gI m d p := fun p hp => o.I (by simp; omega)
  exact h.mk o (by simp) (by simp) ⟨by rw [fl _ (by omega)]; exact h3.1, fun i hi => (congrFun (fa _ (by omega)) _).trans (h3.2 i hi)⟩ (h8.kept (fun i _ _ => fa _ (by omega))) (h9.kept (fl _ (by omega)) (fa _ (by omega))) ⟨h62, h63⟩ ⟨by rw [fl _ (by omega)]; exact h11.1, fun z => by rw [fl _ (by omega)]; exact h11.2.1 z, fun i c hc => (congrFun (fa _ (by omega)) _).trans (h11.2.2 i c hc)⟩ ⟨by rw [fl _ (by omega)]; exact h12.1, by rw [fl _ (by omega)]; exact h12.2⟩
theorem op_hand {G : GG} {n : Nat} {m : MM} (h : INV G m n) (x : Int32) : BOTH G n m (M_X10_hand G n x) (M_X11_hand G (n + 216) x) := by
  obtain ⟨pl, ps, tp, tl, tt, lenT, BT, len, B, P, K, gc, g, hd, hs, ca, fc, F, hA, hC, hR, hF⟩ := h
  have hP := hC.2.2.1.2.2.2.2.2.1
  have hF0 := hF
  obtain ⟨f1, f2, f3, f4, f5, ⟨f6, f6b, f6c⟩, f7, f8, f9, f10⟩ := hF
  obtain ⟨m1, k1, hC1, cx, u1⟩ := hC.begin hA
  have h7 := hC1.1.1.2.2.2.2
  have hz := hC1.1.2.1.2.2.2.2
  have c3 := hC1.2.2.1
  have c2 := hC1.2.1
  have c7 := hC1.2.2.2.2.2.2.1
  unfold BOTH M_X10_hand M_X11_hand
  -- it fails
  have bad : (x < 0 ∨ nI hs.length ≤ x) → ∃ v m1 m2, (nb (gR m n 6) fun b_1 => nb (gR m n 0) fun b_2 => bd (M_X7_begin G b_1 b_2 m) fun _ m_4 => nb (gR m_4 n 0) fun b_5 => bd (M_X6_enumAt G b_5 (gI m_4 n 8) m_4) fun r_6 m_7 => el r_6 (nb (gR m_7 n 6) fun b_11 => bd (M_X7_failBy G b_11 4 m_7) fun r_12 m_13 => bd (M_X10_finish G n 0 m_13) fun r_14 m_15 => some (r_14, m_15)) fun b_10 => bd (M_X10_isInHand G n x m_7) fun r_16 m_17 => if r_16 = true then nb (gR m_17 n 7) fun b_23 => ib x (G.2.2 b_23) <| bd (M_X1_hasConstant G b_10 (gI m_17 b_23 x.toNatClampNeg) m_17) fun r_24 m_25 => if r_24 = true then nb (gR m_25 b_10 9) fun b_26 => nb (gR m_25 n 7) fun b_27 => ib x (G.2.2 b_27) <| ib (gI m_25 b_27 x.toNatClampNeg) (G.2.2 b_26) <| bd (M_X10_finish G n (gI m_25 b_26 ((gI m_25 b_27 x.toNatClampNeg).toNatClampNeg)) m_25) fun r_28 m_29 => some (r_28, m_29) else nb (gR m_25 n 6) fun b_30 => bd (M_X7_failBy G b_30 4 m_25) fun r_31 m_32 => bd (M_X10_finish G n 0 m_32) fun r_33 m_34 => some (r_33, m_34) else nb (gR m_17 n 6) fun b_18 => bd (M_X7_failBy G b_18 4 m_17) fun r_19 m_20 => bd (M_X10_finish G n 0 m_20) fun r_21 m_22 => some (r_21, m_22)) = some (v, m1) ∧ (bd (M_X11_in G x 0 ((gI (sI (sI m1 (n + 216) 62 0) (n + 216) 64 0) (n + 216) 71) - 1) (sI (sI m1 (n + 216) 62 0) (n + 216) 64 0)) fun r_1 m_2 => if r_1 = true then nb (gR m_2 (n + 216) 57) fun b_3 => nb (gR m_2 (n + 216) 73) fun b_4 => ib x (G.2.2 b_4) <| ib ((12 * (gI m_2 (n + 216) 72)) + (gI m_2 b_4 x.toNatClampNeg)) (G.2.2 b_3) <| some (gI m_2 b_3 (((12 * (gI m_2 (n + 216) 72)) + (gI m_2 b_4 x.toNatClampNeg)).toNatClampNeg), m_2) else bd (M_X11_fails G (n + 216) 4 m_2) fun _ m_6 => some (0, m_6)) = some (v, m2) ∧ INV G m2 n := fun hx => by
    have c5 := (cx.fld hA.1 hA.2.2.2.2.1).1 4
    have o5 : OX m1 (sI m1 (n + 210) 4 (nI 4)) n pl := OX.r hA.1 (Or.inl rfl)
    obtain ⟨m3, q1, q2, u3⟩ := (hC1.run hA o5 c5).fin (v := 0) hA c5.2.2.2.2.1 (by omega)
    have hR3 := hR.ou (u1.tr ((o5.ou hA.1).tr u3))
    rw [if_neg (by decide)] at q1 q2
    have g71 : gI (sI (sI m3 (n + 216) 62 0) (n + 216) 64 0) (n + 216) 71 = nI hs.length := by rw [gI_sI_ne (Or.inr (by omega)), gI_sI_ne (Or.inr (by omega))]; exact hR3.2.2.2.2.2.2.2.2.1.1
    have g63 : gI (sI (sI (sI m3 (n + 216) 62 0) (n + 216) 64 0) (n + 216) 62 4) (n + 216) 63 = fc := by rw [gI_sI_ne (Or.inr (by omega)), gI_sI_ne (Or.inr (by omega)), gI_sI_ne (Or.inr (by omega))]; exact hR3.2.2.2.2.2.2.2.1.2
    have o : OM m3 (sI (sI (sI (sI (sI m3 (n + 216) 62 0) (n + 216) 64 0) (n + 216) 62 4) (n + 216) 63 (fc + 1)) (n + 216) 70 0) (n + 216) [62, 63, 64, 70] [] := OM.tr1 (OM.f.mono (by simp) (by simp)) (OM.tr1 (OM.f.mono (by simp) (by simp)) (OM.tr1 (OM.f.mono (by simp) (by simp)) (OM.tr1 (OM.f.mono (by simp) (by simp)) (OM.f.mono (by simp) (by simp)))))
    refine ⟨0, m3, _, ?_, ?_, pl, ps, tp, tl, tt, lenT, BT, len, B, P, K, gc, g, hd, hs, 4, fc + 1, F, hA, q2.od hA o.od, hR3.w (k := 4) (fc' := fc + 1) o ?_ ?_, hF0.run GS.rf NG.rf (by omega)⟩
    · have fb : M_X7_failBy G (n + 210) 4 m1 = some (false, sI m1 (n + 210) 4 (nI 4)) := rfl
      rw [nb_e hC.1.1.2.2.2.1, nb_e hC.2.1.1, bd_e k1, nb_e c2.1, c7.1]
      by_cases w : hd < P.length
      · rw [bd_e (cv_en c3 w), el_e rfl, bd_e ((zc_inHand c7.2.1 h7 hz f6).2 hx), if_neg (by decide), nb_e hC1.1.1.2.2.2.1, bd_e fb, bd_e q1]
      · have hP8 := hP.1
        rw [bd_e (zc_enum c3 (Or.inr ((nI_leI (by omega) (by omega)).mpr (by omega)))), el_n rfl, nb_e hC1.1.1.2.2.2.1, bd_e fb, bd_e q1]
    · rw [g71]
      rcases mr_in (G := G) (m := sI (sI m3 (n + 216) 62 0) (n + 216) 64 0) (x := x) (N := hs.length) (by omega) with ⟨j, j1, j2, j3⟩ | ⟨j1, j2⟩
      · exfalso
        rw [j2] at hx
        rcases hx with z | z
        · exact nI_pos (by omega) z
        · have := (nI_leI (by omega) (by omega)).mp z
          omega
      · rw [bd_e j2, if_neg (by decide)]
        unfold M_X11_fails
        rw [g63, show FU = 999999 + 1 from rfl, B_X11_fails_15, show gI (sI (sI (sI (sI m3 (n + 216) 62 0) (n + 216) 64 0) (n + 216) 62 4) (n + 216) 63 (fc + 1)) (n + 216) 64 = 0 by rw [gI_sI_ne (Or.inr (by omega)), gI_sI_ne (Or.inr (by omega)), gI_sI_eq], if_pos (by decide)]
        rfl
    · rw [gI_sI_ne (Or.inr (by omega)), gI_sI_ne (Or.inr (by omega)), gI_sI_eq]
      rfl
    · rw [gI_sI_ne (Or.inr (by omega)), gI_sI_eq]
  rcases pk_ix x (n := hs.length) (by omega) with w | w | ⟨i, i1, i2⟩
  · exact bad (Or.inl w)
  · exact bad (Or.inr w)
  · obtain ⟨c, hc⟩ := lt_get i1
    have hne : hs ≠ [] := fun z => by rw [z] at i1; simp at i1
    obtain ⟨E, hE, e2, e3⟩ := f6c hne
    have hcE := e3 c (List.mem_of_getElem? hc)
    obtain ⟨b1, b2, b3, b4, b5, b6, b7⟩ := pb_en hP hE
    have he := get_lt hE
    have hl9 := cv_le cx.1 he 9 (by omega)
    have hz9 : G.2.2 (pl + 4 + 12 * hd + 1 + 9) = 12 := hl9.2
    obtain ⟨m3, q1, q2, u3⟩ := hC1.fin (v := g.2.2.1 hd c) hA cx.2.2.2.2.1 (by omega)
    have hR3 := hR.ou (u1.tr u3)
    have o : OM m3 (sI (sI m3 (n + 216) 62 0) (n + 216) 64 0) (n + 216) [62, 63, 64, 70] [] := OM.tr1 (OM.f.mono (by simp) (by simp)) (OM.f.mono (by simp) (by simp))
    have hRf := hR3.w (k := 0) (fc' := fc) o (by rw [gI_sI_ne (Or.inr (by omega)), gI_sI_eq, nI_0]) (by rw [gI_sI_ne (Or.inr (by omega)), gI_sI_ne (Or.inr (by omega))]; exact hR3.2.2.2.2.2.2.2.1.2)
    rw [if_pos rfl] at q1 q2
    refine ⟨g.2.2.1 hd c, m3, _, ?_, ?_, pl, ps, tp, tl, tt, lenT, BT, len, B, P, K, gc, g, hd, hs, 0, fc, F, hA, q2.od hA o.od, hRf, hF0.run GS.rf NG.rf (by omega)⟩
    · rw [nb_e hC.1.1.2.2.2.1, nb_e hC.2.1.1, bd_e k1, nb_e c2.1, c7.1, bd_e (cv_en c3 he), el_e rfl, bd_e ((zc_inHand c7.2.1 h7 hz f6).1 i i1 i2), if_pos rfl, nb_e h7, hz, i2, ib_n (by omega) (by omega), nI_clamp (by omega), c7.2.2 i c hc, bd_e (cv_hasC c3 hE hcE), if_pos rfl, nb_e hl9.1, nb_e h7, hz, ib_n (by omega) (by omega), hz9, c7.2.2 i c hc, ib_n (by omega) (by omega), nI_clamp (by omega), show pl + 4 + 12 * hd + 1 + 9 = pl + 4 + 12 * hd + 10 by omega, (cx.2.1 hd E hE).2.2.1 c hcE, bd_e q1]
    · rw [hRf.2.2.2.2.2.2.2.2.1.1]
      rcases mr_in (G := G) (m := sI (sI m3 (n + 216) 62 0) (n + 216) 64 0) (x := x) (N := hs.length) (by omega) with ⟨j, j1, j2, j3⟩ | ⟨j1, j2⟩
      · rw [bd_e j3, if_pos rfl, nb_e (mr_57 hRf.1), nb_e (mr_73 hRf.1), mz_73 hRf.1, i2, ib_n (by omega) (by omega), nI_clamp (by omega), hRf.2.2.2.2.2.2.2.2.1.2.1 hne, hRf.2.2.2.2.2.2.2.2.1.2.2 i c hc, show (12 : Int32) = nI 12 from rfl, pk_mul, nI_add, mz_57 hRf.1, ib_n (by omega) (by omega), nI_clamp (by omega), (hRf.2.2.2.2.2.1 hd E hE).2.2.1 c hcE (Or.inl e2)]
      · exfalso
        rw [i2] at j1
        rcases j1 with z | z
        · exact nI_pos (by omega) z
        · have := (nI_leI (by omega) (by omega)).mp z
          omega
